/-! WAY: the reference's passes -/
def HsM (μ : St) (dr : Nat → Nat) (L : Nat → Int32) : Prop := ∀ c, c < 36 → μ 17 0 c = nI (dr c) ∧ μ 18 0 c = L c ∧ dr c ≤ 99
def offV (μ μ' : St) : Prop := ∀ c o k, ¬ c = 19 → μ' c o k = μ c o k
theorem offV.rf {a : St} : offV a a := fun _ _ _ _ => rfl
theorem offV.trans {a b c : St} (h1 : offV a b) (h2 : offV b c) : offV a c := fun x y z h => (h2 x y z h).trans (h1 x y z h)
theorem HsM.off {μ μ' : St} {dr : Nat → Nat} {L : Nat → Int32} (h : HsM μ dr L) (ho : offV μ μ') : HsM μ' dr L := by
  intro c hc
  rw [ho 17 0 c (by omega), ho 18 0 c (by omega)]
  exact h c hc
def CsE (μ : St) (E : Ent) : Prop := ∀ c, c < 36 → μ 19 0 c = nI (vlE (E c))
theorem vl_low {op : Nat → Prop} {dr : Nat → Nat} {s : Nat} {E : Ent} (h : RI op dr s E) (hs : s < 36) (hd : ∀ c, c < 36 → dr c ≤ 99) (c : Nat) : vlE (E c) ≤ 268435456 ∧ (vlE (E c) < 268435456 → ∃ p, E c = some p) := by
  cases hE : E c with
  | none =>
    unfold vlE
    dsimp only
    exact ⟨Nat.le_refl _, fun z => absurd z (Nat.lt_irrefl _)⟩
  | some p =>
    have := RI_low h hs hd hE
    unfold vlE
    dsimp only
    exact ⟨by omega, fun _ => ⟨p, rfl⟩⟩
theorem sp_passM {μ : St} {dr : Nat → Nat} {L : Nat → Int32} {x1 x3 x5 most tall : Int32} {s : Nat} {K161 : Int32 → Int32 → St → Prop} {post : Int32 → St → Prop} (hH : HsM μ dr L) (hs : s < 36) (M0 : Nat)
    (hK : ∀ μ1 E x8, offV μ μ1 → CsE μ1 E → RI (fun c => opI dr L most tall c = true) dr s E → (x8 = 0 ∧ (∀ c, c < 36 → ∀ d, d < 36 → RelE (fun c => opI dr L most tall c = true) dr E c d) ∨ x8 = 1 ∧ msE E < M0) → K161 tall x8 μ1) :
    ∀ m i μ1 E x8, i + m = 1296 → offV μ μ1 → CsE μ1 E → RI (fun c => opI dr L most tall c = true) dr s E → (x8 = 0 ∧ msE E ≤ M0 ∧ (∀ j, j < i → RelE (fun c => opI dr L most tall c = true) dr E (j / 36) (j % 36)) ∨ x8 = 1 ∧ msE E < M0) → wp_X9_way_172 x1 (nI s) x3 most x5 K161 post (m + 1) tall x8 (nI i) μ1 := by
  have hd : ∀ c, c < 36 → dr c ≤ 99 := fun c hc => (hH c hc).2.2
  intro m
  induction m with
  | zero =>
    intro i μ1 E x8 e ho hC hR hx
    have ei : i = 1296 := by omega
    subst ei
    unfold wp_X9_way_172
    refine ⟨fun _ => hK μ1 E x8 ho hC hR ?_, fun hc => absurd (nI_le (a := 1296) (b := 1296) (by decide) (by decide)) hc⟩
    rcases hx with ⟨a, _, b⟩ | z
    · refine Or.inl ⟨a, fun c hc d hd2 => ?_⟩
      have := b (36 * c + d) (by omega)
      rw [show (36 * c + d) / 36 = c by omega, show (36 * c + d) % 36 = d by omega] at this
      exact this
    · exact Or.inr z
  | succ m ih =>
    intro i μ1 E x8 e ho hC hR hx
    have hc36 : i / 36 < 36 := by omega
    have hd36 : i % 36 < 36 := by omega
    have ed : nI i / 36 = nI (i / 36) := pk_div (d := 36) (by omega) (by decide) (by decide)
    have er : nI i - nI (i / 36) * 36 = nI (i % 36) := by
      rw [← ed]
      exact pk_rem (d := 36) (by omega) (by decide) (by decide)
    have skip : RelE (fun c => opI dr L most tall c = true) dr E (i / 36) (i % 36) → wp_X9_way_172 x1 (nI s) x3 most x5 K161 post (m + 1) tall x8 (nI (i + 1)) μ1 := by
      intro hrel
      refine ih (i + 1) μ1 E x8 (by omega) ho hC hR ?_
      rcases hx with ⟨a, b, c⟩ | z
      · refine Or.inl ⟨a, b, fun j hj => ?_⟩
        by_cases ej : j = i
        · rw [ej]; exact hrel
        · exact c j (by omega)
      · exact Or.inr z
    obtain ⟨a1, a2, a3⟩ := (hH.off ho) (i % 36) hd36
    have k1 := hC (i / 36) hc36
    have k2 := hC (i % 36) hd36
    obtain ⟨v1, v2⟩ := vl_low hR hs hd (i / 36)
    obtain ⟨w1, w2⟩ := vl_low hR hs hd (i % 36)
    unfold wp_X9_way_172 wp_X9_way_251 wp_X9_way_255 wp_X9_way_256 wp_X9_way_321
    rw [ed, er, nI_clamp (by omega), nI_clamp (by omega), k1, nI_1]
    have hvc : vp_in (nI (i / 36)) 36 := pk_in (i / 36) 36 hc36
    have hvd : vp_in (nI (i % 36)) 36 := pk_in (i % 36) 36 hd36
    refine ⟨fun hc => absurd hc (nI_ge (a := i) (b := 1296) (by omega) (by decide)), fun _ => ⟨hvc, fun hc => ?_, fun hc => ?_⟩⟩
    · refine ⟨fun _ => skip (fun p hp => ?_), fun z => absurd rfl z⟩
      exfalso
      have h1 : 268435456 ≤ vlE (E (i / 36)) := (nI_leI (a := 268435456) (by decide) (by omega)).mp hc
      have h2 := RI_low hR hs hd hp
      rw [hp] at h1
      unfold vlE at h1
      dsimp only at h1
      omega
    · have hlt : vlE (E (i / 36)) < 268435456 := by
        rcases Nat.lt_or_ge (vlE (E (i / 36))) 268435456 with z | z
        · exact z
        · exact absurd (nI_le (a := 268435456) z (by omega)) hc
      obtain ⟨p, hp⟩ := v2 hlt
      have hpl := RI_low hR hs hd hp
      refine sp_areBeside hc36 hd36 rfl rfl (fun hb => ?_) (fun hb => ?_)
      · dsimp only
        rw [a1, a2, k1, k2]
        have closed : ¬ opI dr L most tall (i % 36) = true → wp_X9_way_172 x1 (nI s) x3 most x5 K161 post (m + 1) tall x8 (nI (i + 1)) μ1 := fun hno => skip (fun _ _ _ hop => absurd hop hno)
        have opened : opI dr L most tall (i % 36) = true → (nI (vlE (E (i % 36))) ≤ nI (vlE (E (i / 36))) + 10000 + nI (dr (i % 36)) → wp_X9_way_172 x1 (nI s) x3 most x5 K161 post (m + 1) tall x8 (nI (i + 1)) μ1) ∧ (¬ nI (vlE (E (i % 36))) ≤ nI (vlE (E (i / 36))) + 10000 + nI (dr (i % 36)) → vp_in (nI (i / 36)) 36 ∧ vp_in (nI (i % 36)) 36 ∧ vp_in (nI (i % 36)) 36 ∧ wp_X9_way_172 x1 (nI s) x3 most x5 K161 post (m + 1) tall 1 (nI (i + 1)) (su μ1 19 0 (i % 36) (nI (vlE (E (i / 36))) + 10000 + nI (dr (i % 36))))) := by
          intro hop
          have ev : nI (vlE (E (i / 36))) + 10000 + nI (dr (i % 36)) = nI (10000 * (p.1 + 1) + (p.2 + dr (i % 36))) := by
            rw [show (10000 : Int32) = nI 10000 from rfl, nI_add, nI_add, hp]
            unfold vlE
            dsimp only
            congr 1
            omega
          rw [ev, nI_leI (by omega) (by omega)]
          refine ⟨fun z => skip (fun q hq _ _ => ?_), fun z => ⟨hvc, hvd, hvd, ?_⟩⟩
          · rw [hp] at hq
            have := Option.some.inj hq
            subst this
            exact z
          · obtain ⟨t, ht, hn⟩ := hb
            have hms := ms_relax (E := E) (k := p.1 + 1) (v := p.2 + dr (i % 36)) hd36 (by omega)
            refine ih (i + 1) _ (rlE E (i % 36) (p.1 + 1) (p.2 + dr (i % 36))) 1 (by omega) ?_ ?_ (RI_relax hR hs hd hp ht hn hop (by omega)) (Or.inr ⟨rfl, ?_⟩)
            · intro c o k hc2
              unfold su
              rw [if_neg (by omega)]
              exact ho c o k hc2
            · intro c hc2
              unfold rlE
              by_cases ec : c = i % 36
              · rw [ec, su_eq, if_pos rfl]
                rfl
              · rw [su_nk' ec, if_neg ec]
                exact hC c hc2
            · rcases hx with ⟨_, b, _⟩ | ⟨_, b⟩ <;> omega
        refine ⟨fun z => absurd z (by decide), fun _ => ⟨hvd, fun z => ?_, fun z => ⟨hvd, fun y => ?_, fun y => ⟨hvd, fun q => ?_, fun q => ?_⟩⟩⟩⟩
        · exact ⟨fun _ => closed (fun w => (opI_iff.mp w).1 z), fun w => absurd rfl w⟩
        · exact ⟨fun w => absurd w (by decide), fun _ => ⟨hvc, hvd, hvd, opened (opI_iff.mpr ⟨z, Or.inl y⟩)⟩⟩
        · refine ⟨fun _ => closed (fun w => ?_), fun w => absurd rfl w⟩
          rcases (opI_iff.mp w).2 with r | r
          · exact y r
          · exact (fa_of_lt r).2.1 q
        · exact ⟨fun w => absurd w (by decide), fun _ => ⟨hvc, hvd, hvd, opened (opI_iff.mpr ⟨z, Or.inr (fa_of_nle q)⟩)⟩⟩
      · exact ⟨fun _ => ⟨fun _ => skip (fun _ _ z => absurd z hb), fun w => absurd rfl w⟩, fun w => absurd rfl w⟩
