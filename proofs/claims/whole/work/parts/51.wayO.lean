/-! WAY: the reference as a whole -/
theorem sp_wayM {μ : St} {dr : Nat → Nat} {L : Nat → Int32} {x1 x2 x3 most x5 tall : Int32} {s g : Nat} {post : Int32 → St → Prop} (hH : HsM μ dr L) (hs : s < 36) (hg : g < 36) (h2 : x2 = nI s) (h3 : x3 = nI g) (h : ∀ μ' E, offV μ μ' → Short (fun c => opI dr L most tall c = true) dr s E → post (if x5 = 0 then o1 (E g) else o2 (E g)) μ') : ∃ nn, wp_X9_way_73 x1 x2 x3 most x5 post nn tall 0 μ := by
  subst h2; subst h3
  have hd : ∀ c, c < 36 → dr c ≤ 99 := fun c hc => (hH c hc).2.2
  have hvg : vp_in (nI g) 36 := pk_in g 36 hg
  have hvs : vp_in (nI s) 36 := pk_in s 36 hs
  have fin : ∀ (n : Nat) (μ1 : St) (E : Ent), offV μ μ1 → CsE μ1 E → RI (fun c => opI dr L most tall c = true) dr s E → (∀ c, c < 36 → ∀ d, d < 36 → RelE (fun c => opI dr L most tall c = true) dr E c d) → wp_X9_way_161 x1 (nI s) (nI g) most x5 post (n + 1) tall 0 μ1 := by
    intro n μ1 E ho hC hR hrel
    have hh := h μ1 E ho (RI_end hR hs hd hrel)
    unfold wp_X9_way_161 wp_X9_way_374
    rw [nI_clamp (by omega), hC g hg]
    refine ⟨fun _ => ⟨hvg, fun hc => ?_, fun hc => ?_⟩, fun hc => absurd rfl hc⟩
    · cases hE : E g with
      | none =>
        rw [hE] at hc
        exact absurd rfl hc
      | some p =>
        have hl := RI_low hR hs hd hE
        rw [hE] at hh
        have e1 : vlE (some p) = 10000 * p.1 + p.2 := rfl
        have ed : nI (10000 * p.1 + p.2) / 10000 = nI p.1 := by
          rw [show nI (10000 * p.1 + p.2) / 10000 = nI ((10000 * p.1 + p.2) / 10000) from pk_div (d := 10000) (by omega) (by decide) (by decide)]
          congr 1
          omega
        have er : nI (10000 * p.1 + p.2) - nI (10000 * p.1 + p.2) / 10000 * 10000 = nI p.2 := by
          rw [show nI (10000 * p.1 + p.2) - nI (10000 * p.1 + p.2) / 10000 * 10000 = nI ((10000 * p.1 + p.2) % 10000) from pk_rem (d := 10000) (by omega) (by decide) (by decide)]
          congr 1
          omega
        rw [e1, er, ed]
        refine ⟨fun z => ⟨hvg, ?_⟩, fun z => ⟨hvg, ?_⟩⟩
        · rw [if_neg z] at hh; exact hh
        · rw [if_pos z] at hh; exact hh
    · cases hE : E g with
      | none =>
        rw [hE] at hh
        have e1 : (if x5 = 0 then o1 none else o2 none) = (-1 : Int32) := by split <;> rfl
        rw [e1] at hh
        exact hh
      | some p =>
        have hl := RI_low hR hs hd hE
        rw [hE] at hc
        have e1 : vlE (some p) = 10000 * p.1 + p.2 := rfl
        rw [e1] at hc
        have := (nI_eq (a := 10000 * p.1 + p.2) (b := 268435456) (by omega) (by decide)).mp hc
        omega
  have go : ∀ (M : Nat) (μ1 : St) (E : Ent), offV μ μ1 → CsE μ1 E → RI (fun c => opI dr L most tall c = true) dr s E → msE E < M → wp_X9_way_161 x1 (nI s) (nI g) most x5 post (M + 1) tall 1 μ1 := by
    intro M
    induction M with
    | zero =>
      intro μ1 E _ _ _ hz
      exact absurd hz (by omega)
    | succ M ih =>
      intro μ1 E ho hC hR hM
      unfold wp_X9_way_161
      refine ⟨fun hc => absurd hc (by decide), fun _ => ⟨1297, ?_⟩⟩
      refine sp_passM hH hs (msE E) (fun μ2 E2 x8 o2 hC2 hR2 hx => ?_) 1296 0 μ1 E 0 (by omega) ho hC hR (Or.inl ⟨rfl, Nat.le_refl _, fun j hj => absurd hj (by omega)⟩)
      rcases hx with ⟨a, b⟩ | ⟨a, b⟩
      · rw [a]
        exact fin M μ2 E2 o2 hC2 hR2 b
      · rw [a]
        exact ih μ2 E2 o2 hC2 hR2 (by omega)
  have first : ∀ m i μ1, i + m = 36 → offV μ μ1 → (∀ c, c < i → μ1 19 0 c = 268435456) → wp_X9_way_73 x1 (nI s) (nI g) most x5 post (m + 1) tall (nI i) μ1 := by
    intro m
    induction m with
    | zero =>
      intro i μ1 e ho hz
      have ei : i = 36 := by omega
      subst ei
      obtain ⟨a1, a2, a3⟩ := (hH.off ho) s hs
      unfold wp_X9_way_73 wp_X9_way_127 wp_X9_way_131 wp_X9_way_132 wp_X9_way_156
      rw [nI_clamp (by omega), a1, a2]
      have offS : ∀ v, offV μ (su μ1 19 0 s v) := by
        intro v c o k hc
        unfold su
        rw [if_neg (by omega)]
        exact ho c o k hc
      have shut : ¬ opI dr L most tall s = true → ((0 : Int32) = 0 → vp_in (nI s) 36 ∧ ∃ nn, wp_X9_way_161 x1 (nI s) (nI g) most x5 post nn tall 0 (su μ1 19 0 s 268435456)) ∧ (¬ (0 : Int32) = 0 → vp_in (nI s) 36 ∧ vp_in (nI s) 36 ∧ ∃ nn, wp_X9_way_161 x1 (nI s) (nI g) most x5 post nn tall 0 (su μ1 19 0 s (nI (dr s)))) := by
        intro hno
        refine ⟨fun _ => ⟨hvs, 1, fin 0 _ (fun _ => none) (offS _) (fun c hc => ?_) ⟨fun c p hp => absurd hp (by simp), fun z => absurd z hno⟩ (fun c _ d _ p hp => absurd hp (by simp))⟩, fun z => absurd rfl z⟩
        by_cases ec : c = s
        · rw [ec, su_eq]; rfl
        · rw [su_nk' ec]
          exact hz c hc
      have wide : opI dr L most tall s = true → ((1 : Int32) = 0 → vp_in (nI s) 36 ∧ ∃ nn, wp_X9_way_161 x1 (nI s) (nI g) most x5 post nn tall 1 (su μ1 19 0 s 268435456)) ∧ (¬ (1 : Int32) = 0 → vp_in (nI s) 36 ∧ vp_in (nI s) 36 ∧ ∃ nn, wp_X9_way_161 x1 (nI s) (nI g) most x5 post nn tall 1 (su μ1 19 0 s (nI (dr s)))) := by
        intro hop
        have f1 : rlE (fun _ => none) s 0 (dr s) s = some (0, dr s) := if_pos rfl
        have f2 : ∀ e, ¬ e = s → rlE (fun _ => none) s 0 (dr s) e = none := fun e he => if_neg he
        generalize rlE (fun _ => none) s 0 (dr s) = E' at f1 f2
        have hcn := cntE_new (E := fun _ => none) (F := E') (d := s) rfl (by rw [f1]; rfl) f2 36 hs
        refine ⟨fun z => absurd z (by decide), fun _ => ⟨hvs, hvs, _, go (msE E' + 1) _ E' (offS _) (fun c hc => ?_) ⟨fun c p hp => ?_, fun _ => ⟨_, f1, rfl, Nat.le_refl _⟩⟩ (by omega)⟩⟩
        · by_cases ec : c = s
          · rw [ec, su_eq, f1]
            unfold vlE
            dsimp only
            rw [Nat.mul_zero, Nat.zero_add]
          · rw [su_nk' ec, f2 c ec]
            exact hz c hc
        · by_cases ec : c = s
          · rw [ec, f1] at hp
            have := Option.some.inj hp
            subst this
            rw [ec]
            refine ⟨hs, ⟨rfl, hop, rfl⟩, ?_⟩
            dsimp only
            omega
          · rw [f2 c ec] at hp
            exact absurd hp (by simp)
      refine ⟨fun _ => ⟨hvs, fun z => ?_, fun z => ⟨hvs, fun y => ?_, fun y => ⟨hvs, fun q => ?_, fun q => ?_⟩⟩⟩, fun hc => absurd (nI_le (a := 36) (b := 36) (by decide) (by decide)) hc⟩
      · exact shut (fun w => (opI_iff.mp w).1 z)
      · exact wide (opI_iff.mpr ⟨z, Or.inl y⟩)
      · refine shut (fun w => ?_)
        rcases (opI_iff.mp w).2 with r | r
        · exact y r
        · exact (fa_of_lt r).2.1 q
      · exact wide (opI_iff.mpr ⟨z, Or.inr (fa_of_nle q)⟩)
    | succ m ih =>
      intro i μ1 e ho hz
      unfold wp_X9_way_73
      refine ⟨fun hc => absurd hc (nI_ge (a := i) (b := 36) (by omega) (by decide)), fun _ => ⟨pk_in i 36 (by omega), ?_⟩⟩
      rw [nI_clamp (by omega), nI_1]
      refine ih (i + 1) _ (by omega) ?_ (fun c hc => ?_)
      · intro c o k hc
        unfold su
        rw [if_neg (by omega)]
        exact ho c o k hc
      · by_cases ec : c = i
        · rw [ec, su_eq]
        · rw [su_nk' ec]
          exact hz c (by omega)
  exact ⟨37, first 36 0 μ (by omega) offV.rf (fun c hc => absurd hc (by omega))⟩
