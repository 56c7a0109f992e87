/-! WAY: the class's walk as a whole -/
theorem BI_low {op : Nat → Prop} {dr : Nat → Nat} {s : Nat} {E : Ent} {Q : Nat → Nat} {kn i j : Nat} (h : BI op dr s E Q kn i j) (hs : s < 36) (hd : ∀ c, c < 36 → dr c ≤ 99) : kn ≤ 36 ∧ ∀ c p, E c = some p → c < 36 ∧ p.1 < 36 ∧ p.2 ≤ 3564 := by
  obtain ⟨b1, b2, b3, -, -, -, -⟩ := h
  have hk : kn ≤ 36 := by rw [b3]; exact cntE_le E 36
  refine ⟨hk, fun c p hp => ?_⟩
  obtain ⟨x1, x2, a, x3, x4⟩ := b2 c p hp
  obtain ⟨q, q1, q2⟩ := b1 a x3
  rw [x4, hp] at q1
  have := Option.some.inj q1
  subst this
  have := (Wp_ok hs hd _ _ _ x2).2.1
  exact ⟨x1, by omega, by omega⟩
theorem sp_walkC {σ : St} {dr : Nat → Nat} {L : Nat → Int32} {most tall x1 : Int32} {s : Nat} {post : St → Prop} (hH : HsC σ dr L) (hs : s < 36) (hx : x1 = nI s) (h : ∀ σ' E, offW σ σ' → Short (fun c => opI dr L most tall c = true) dr s E → (∀ c, c < 36 → σ' 25 0 c = o1 (E c) ∧ σ' 26 0 c = o2 (E c)) → post σ') : wp_X3_walk x1 most tall post σ := by
  subst hx
  have hd : ∀ c, c < 36 → dr c ≤ 99 := fun c hc => (hH c hc).2.2
  have inner : ∀ (i : Nat) (K57 : Int32 → St → Prop), (∀ σ2 E Q kn, offW σ σ2 → HoE σ2 E Q kn → BI (fun c => opI dr L most tall c = true) dr s E Q kn i 4 → i < kn → K57 (nI (i + 1)) σ2) → ∀ m j σ1 E Q kn, j + m = 4 → offW σ σ1 → HoE σ1 E Q kn → BI (fun c => opI dr L most tall c = true) dr s E Q kn i j → i < kn → wp_X3_walk_76 (nI s) most tall K57 post (m + 1) (nI i) (nI j) σ1 := by
    intro i K57 hK m
    induction m with
    | zero =>
      intro j σ1 E Q kn e ho hE hB hi
      have ej : j = 4 := by omega
      subst ej
      unfold wp_X3_walk_76
      rw [nI_1]
      exact ⟨fun _ => hK σ1 E Q kn ho hE hB hi, fun hc => absurd (nI_le (a := 4) (b := 4) (by decide) (by decide)) hc⟩
    | succ m ih =>
      intro j σ1 E Q kn e ho hE hB hi
      obtain ⟨hk36, hlow⟩ := BI_low hB hs hd
      obtain ⟨p, p1, p2⟩ := hB.1 i hi
      obtain ⟨l1, l2, l3⟩ := hlow _ _ p1
      unfold wp_X3_walk_76 wp_X3_walk_145
      have hv : vp_in (nI i) 36 := pk_in i 36 (by omega)
      refine ⟨fun hc => absurd hc (nI_ge (a := j) (b := 4) (by omega) (by decide)), fun _ => ⟨hv, ?_⟩⟩
      rw [nI_clamp (by omega), hE.2.1 i hi, nI_1]
      refine sp_besideC l1 (by omega) rfl rfl ?_
      cases hn : nbS (Q i) j with
      | none =>
        refine ⟨fun _ => ?_, fun hc => absurd rfl hc⟩
        exact ih (j + 1) σ1 E Q kn (by omega) ho hE (BI_skip hB (fun d hd2 => by rw [hn] at hd2; exact absurd hd2 (by simp))) hi
      | some d =>
        have hdl := nbS_lt l1 hn
        refine ⟨fun hc => absurd hc (nI_m1 (by omega)), fun _ => ?_⟩
        refine sp_isOpenC (hH.off ho) hdl rfl ?_
        refine ⟨fun hc => ?_, fun hc => ?_⟩
        · have hno := bi_0.mp hc
          exact ih (j + 1) σ1 E Q kn (by omega) ho hE (BI_skip hB (fun d2 hd2 => by rw [hn] at hd2; rw [← Option.some.inj hd2]; exact hno)) hi
        · have hop := bi_1.mp hc
          have hq : vp_in (nI (Q i)) 36 := pk_in (Q i) 36 l1
          have es : stE E (Q i) = p.1 := by unfold stE; rw [p1]; rfl
          have eu : suE E (Q i) = p.2 := by unfold suE; rw [p1]; rfl
          have hB2 := BI_enter hB hi (by omega) hn hop
          rw [hE.2.1 i hi, nI_clamp (by omega), (hE.1 _ l1).1, (hE.1 _ l1).2, p1]
          refine ⟨hv, hq, hv, hq, ?_⟩
          have ek : o1 (some p) + 1 = nI (p.1 + 1) := nI_1 p.1
          rw [ek]
          rw [es, eu] at hB2
          refine sp_enterC (hH.off ho) hE hdl (k := p.1 + 1) (m := p.2) (by omega) (by omega) (fun q hq2 => ?_) hk36 (fun hn0 => ?_) rfl rfl rfl (fun σ3 o3 hE3 => ?_)
          · have := hlow d q hq2
            omega
          · have hc3 := hB.2.2.1
            have := cntE_lt hn0 36 hdl
            omega
          · refine ih (j + 1) σ3 _ _ _ (by omega) (ho.trans o3) hE3 hB2 ?_
            unfold enK
            split <;> omega
  have outer : ∀ m i σ1 E Q kn, i + m = 36 → offW σ σ1 → HoE σ1 E Q kn → BI (fun c => opI dr L most tall c = true) dr s E Q kn i 0 → wp_X3_walk_57 (nI s) most tall post (m + 1) (nI i) σ1 := by
    intro m
    induction m with
    | zero =>
      intro i σ1 E Q kn e ho hE hB
      have ei : i = 36 := by omega
      subst ei
      obtain ⟨hk36, hlow⟩ := BI_low hB hs hd
      unfold wp_X3_walk_57 wp_X3_walk_157
      exact ⟨fun _ => h σ1 E ho (BI_end hB hk36) hE.1, fun hc => absurd (nI_le (a := 36) (b := 36) (by decide) (by decide)) hc⟩
    | succ m ih =>
      intro i σ1 E Q kn e ho hE hB
      obtain ⟨hk36, hlow⟩ := BI_low hB hs hd
      unfold wp_X3_walk_57 wp_X3_walk_157
      refine ⟨fun hc => absurd hc (nI_ge (a := i) (b := 36) (by omega) (by decide)), fun _ => ?_⟩
      rw [hE.2.2, nI_leI (by omega) (by omega)]
      refine ⟨fun hc => h σ1 E ho (BI_end hB hc) hE.1, fun hc => ?_⟩
      exact ⟨5, inner i _ (fun σ2 E2 Q2 kn2 o2 hE2 hB2 hi2 => ih (i + 1) σ2 E2 Q2 kn2 (by omega) o2 hE2 (BI_next hB2 hi2)) 4 0 σ1 E Q kn (by omega) ho hE hB (by omega)⟩
  have e0 : ∀ (n : Nat), cntE (fun _ => none) n = 0 := by
    intro n
    unfold cntE
    exact smN_zero n
  have first : ∀ m i σ1, i + m = 36 → offW σ σ1 → (∀ c, c < i → σ1 25 0 c = -1 ∧ σ1 26 0 c = -1) → wp_X3_walk_3 (nI s) most tall post (m + 1) (nI i) σ1 := by
    intro m
    induction m with
    | zero =>
      intro i σ1 e ho hz
      have ei : i = 36 := by omega
      subst ei
      unfold wp_X3_walk_3 wp_X3_walk_54
      refine ⟨fun _ => ?_, fun hc => absurd (nI_le (a := 36) (b := 36) (by decide) (by decide)) hc⟩
      have o2 : offW σ (su σ1 22 0 5 0) := by
        intro c o k hc
        unfold su
        rw [if_neg (by omega)]
        exact ho c o k hc
      have hE0 : HoE (su σ1 22 0 5 0) (fun _ => none) (fun _ => 0) 0 := ⟨fun c hc => ⟨(su_nc rfl).trans (hz c hc).1, (su_nc rfl).trans (hz c hc).2⟩, fun a ha => absurd ha (by omega), su_eq⟩
      refine sp_isOpenC (hH.off o2) hs rfl ⟨fun hc => ?_, fun hc => ?_⟩
      · have hno := bi_0.mp hc
        refine ⟨37, outer 36 0 _ _ _ 0 (by omega) o2 hE0 ⟨fun a ha => absurd ha (by omega), fun c p hp => absurd hp (by simp), (e0 36).symm, fun a b _ hb => absurd hb (by omega), fun b hb => absurd hb (by omega), fun a t d ha => absurd ha (by omega), fun z => absurd z hno⟩⟩
      · have hop := bi_1.mp hc
        refine sp_enterC (hH.off o2) hE0 hs (k := 0) (m := 0) (by decide) (by decide) (fun q hq2 => absurd hq2 (by simp)) (by decide) (fun _ => by decide) rfl rfl rfl (fun σ3 o3 hE3 => ?_)
        have eK : enK (fun _ => none) s 0 = 1 := rfl
        have f1 : enE (fun _ => none) s 0 (0 + dr s) s = some (0, dr s) := by
          unfold enE
          rw [if_pos rfl, Nat.zero_add]
        have f2 : ∀ c, ¬ c = s → enE (fun _ => none) s 0 (0 + dr s) c = none := fun c hc => if_neg hc
        have q1 : enQ (fun _ => none) (fun _ => 0) s 0 0 = s := by unfold enQ; simp
        rw [eK] at hE3
        generalize enE (fun _ => none) s 0 (0 + dr s) = E' at f1 f2 hE3
        generalize enQ (fun _ => none) (fun _ => 0) s 0 = Q' at q1 hE3
        refine ⟨37, outer 36 0 σ3 E' Q' 1 (by omega) (o2.trans o3) hE3 ⟨fun a ha => ?_, fun c p hp => ?_, ?_, fun a b hab hb => ?_, fun b hb _ => ?_, fun a t d ha ht hat => ?_, fun _ => ⟨_, f1, rfl, Nat.le_refl _⟩⟩⟩
        · rw [show a = 0 by omega, q1]
          exact ⟨_, f1, Nat.le_refl 0⟩
        · by_cases e : c = s
          · rw [e, f1] at hp
            have := Option.some.inj hp
            subst this
            rw [e]
            exact ⟨hs, ⟨rfl, hop, rfl⟩, 0, by decide, q1⟩
          · rw [f2 c e] at hp
            exact absurd hp (by simp)
        · have := cntE_new (E := fun _ => none) (F := E') (d := s) rfl (by rw [f1]; rfl) f2 36 hs
          rw [this, e0]
        · rw [show a = 0 by omega, show b = 0 by omega]
          exact Nat.le_refl _
        · rw [show b = 0 by omega]
          omega
        · exact absurd hat (by omega)
    | succ m ih =>
      intro i σ1 e ho hz
      unfold wp_X3_walk_3
      have hv : vp_in (nI i) 36 := pk_in i 36 (by omega)
      refine ⟨fun hc => absurd hc (nI_ge (a := i) (b := 36) (by omega) (by decide)), fun _ => ⟨hv, hv, ?_⟩⟩
      rw [nI_clamp (by omega), nI_1]
      refine ih (i + 1) _ (by omega) ?_ (fun c hc => ?_)
      · intro c o k hc
        unfold su
        rw [if_neg (by omega), if_neg (by omega)]
        exact ho c o k hc
      · by_cases ec : c = i
        · rw [ec]
          exact ⟨(su_nc rfl).trans su_eq, su_eq⟩
        · exact ⟨(su_nc rfl).trans ((su_nk' ec).trans (hz c (by omega)).1), (su_nk' ec).trans ((su_nc rfl).trans (hz c (by omega)).2)⟩
  exact ⟨37, first 36 0 σ (by omega) offW.rf (fun c hc => absurd hc (by omega))⟩
