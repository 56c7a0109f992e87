/-! WHOLE: now, keep, back -/
theorem pub_now {σ μ : St} (h : Inv σ μ) (x1 : Int32) : wp_X8_now x1 (fun r σ' => wp_X9_now x1 (fun r' μ' => r' = r ∧ Inv σ' μ') μ) σ := by
  have h0 := h
  obtain ⟨⟨N, la, T, B, len, dr, L, a1, a2, a3, a4, a5, a6, a7, a8, a9, a10⟩, ⟨⟨t, q, k1, k2, k3, k4, k5, k6⟩, _, _⟩, hF⟩ := h0
  unfold wp_X8_now wp_X8_now_144
  refine c_within (fun hx => ⟨n00, fun _ => ?_⟩) (fun hx => ⟨fun _ => ?_, n10⟩)
  · unfold wp_X9_now
    exact m_in (a := 0) (b := 6) rfl rfl (fun _ => ⟨n00, fun _ => ⟨rfl, h⟩⟩) (fun q => absurd q hx)
  · have eM : ∀ P : Int32 → St → Prop, wp_X9_fell 2 P μ = P (bi (fellS (N 7) (q.1 t) = true)) μ := fun P => e_fellM k3 (a2.1 7 (by decide)) (by decide) (by omega) rfl
    have eL : ∀ P : Int32 → St → Prop, wp_X9_leansAt 2 P μ = P (q.1 t) μ := fun P => e_leansAt k3 (by decide) (by omega) rfl
    have into : ∀ {P : Int32 → St → Prop}, ((¬ (μ 13 0 2) = (-1) → ((x1 = 0 → P (q.1 t + 1000000) μ) ∧ (¬ x1 = 0 → ((x1 = 1 → P (q.2.1 + 1000000) μ) ∧ (¬ x1 = 1 → ((x1 = 2 → P (q.2.2.1 + 1000) μ) ∧ (¬ x1 = 2 → ((x1 = 3 → P (nI t) μ) ∧ (¬ x1 = 3 → ((x1 = 4 → P (q.2.2.2 + 1000) μ) ∧ (¬ x1 = 4 → ((x1 = 5 → P (bi (fellS (N 7) (q.1 t) = true)) μ) ∧ (¬ x1 = 5 → P (μ 13 0 2) μ))))))))))))) ∧ ((μ 13 0 2) = (-1) → P (-4) μ)) → wp_X9_now x1 P μ := by
      intro P hP
      unfold wp_X9_now wp_X9_now_131
      refine m_in (a := 0) (b := 6) rfl rfl (fun q => absurd hx q) (fun _ => ⟨fun _ => ?_, n10⟩)
      rw [eL, eM, k3.1, k3.2.1, k3.2.2.1, k3.2.2.2.1]
      refine ⟨fun z => ?_, hP.2⟩
      have := hP.1 z
      by_cases hf : fellS (N 7) (q.1 t) = true
      · rw [bi_t hf] at this ⊢
        refine ⟨this.1, fun z0 => ⟨(this.2 z0).1, fun z1 => ⟨((this.2 z0).2 z1).1, fun z2 => ⟨(((this.2 z0).2 z1).2 z2).1, fun z3 => ⟨((((this.2 z0).2 z1).2 z2).2 z3).1, fun z4 => ⟨fun z5 => ⟨n10, fun _ => (((((this.2 z0).2 z1).2 z2).2 z3).2 z4).1 z5⟩, (((((this.2 z0).2 z1).2 z2).2 z3).2 z4).2⟩⟩⟩⟩⟩⟩
      · rw [bi_f hf] at this ⊢
        refine ⟨this.1, fun z0 => ⟨(this.2 z0).1, fun z1 => ⟨((this.2 z0).2 z1).1, fun z2 => ⟨(((this.2 z0).2 z1).2 z2).1, fun z3 => ⟨((((this.2 z0).2 z1).2 z2).2 z3).1, fun z4 => ⟨fun z5 => ⟨fun _ => (((((this.2 z0).2 z1).2 z2).2 z3).2 z4).1 z5, n00⟩, (((((this.2 z0).2 z1).2 z2).2 z3).2 z4).2⟩⟩⟩⟩⟩⟩
    rw [k5]
    rw [k5] at k6
    rcases k6 with k6 | ⟨th, hth, k6⟩
    · rw [k6]
      rw [k6] at into
      exact c_isThing (fun _ => ⟨n00, fun _ => into ⟨fun z => absurd rfl z, fun _ => ⟨rfl, h⟩⟩⟩) (fun z => absurd z (by decide))
    · rw [k6]
      rw [k6] at into
      have hne : ¬ nI th = -1 := nI_m1 (by omega)
      refine c_isThing (fun z => absurd (in_nat (m := 0) (n := 3) (by decide) (by decide) (by omega) (by omega)) z) (fun _ => ⟨fun _ => ?_, n10⟩)
      rw [e_fellC (b := N 7) (x := q.1 t) (a1 7 (by decide)) k2.2.1, k2.1, k2.2.1, k2.2.2.1, k2.2.2.2.1, k2.2.2.2.2.1, k5, k6]
      have go : ∀ {r : Int32}, ((x1 = 0 → (q.1 t + 1000000 = r ∧ Inv σ μ)) ∧ (¬ x1 = 0 → ((x1 = 1 → (q.2.1 + 1000000 = r ∧ Inv σ μ)) ∧ (¬ x1 = 1 → ((x1 = 2 → (q.2.2.1 + 1000 = r ∧ Inv σ μ)) ∧ (¬ x1 = 2 → ((x1 = 3 → (nI t = r ∧ Inv σ μ)) ∧ (¬ x1 = 3 → ((x1 = 4 → (q.2.2.2 + 1000 = r ∧ Inv σ μ)) ∧ (¬ x1 = 4 → ((x1 = 5 → (bi (fellS (N 7) (q.1 t) = true) = r ∧ Inv σ μ)) ∧ (¬ x1 = 5 → (nI th = r ∧ Inv σ μ))))))))))))) → wp_X9_now x1 (fun r' μ' => r' = r ∧ Inv σ μ') μ := fun hr => into ⟨fun _ => hr, fun z => absurd z hne⟩
      refine ⟨fun z => go (sel_t z ⟨rfl, h⟩), fun z0 => ⟨fun z => go (sel_f z0 (sel_t z ⟨rfl, h⟩)), fun z1 => ⟨fun z => go (sel_f z0 (sel_f z1 (sel_t z ⟨rfl, h⟩))), fun z2 => ⟨fun z => go (sel_f z0 (sel_f z1 (sel_f z2 (sel_t z ⟨rfl, h⟩)))), fun z3 => ⟨fun z => go (sel_f z0 (sel_f z1 (sel_f z2 (sel_f z3 (sel_t z ⟨rfl, h⟩))))), fun z4 => ⟨fun z => ⟨fun y => go (sel_f z0 (sel_f z1 (sel_f z2 (sel_f z3 (sel_f z4 (sel_t z ⟨y, h⟩)))))), fun y => go (sel_f z0 (sel_f z1 (sel_f z2 (sel_f z3 (sel_f z4 (sel_t z ⟨bi_t (bi_1.mp y), h⟩))))))⟩, fun z5 => go (sel_f z0 (sel_f z1 (sel_f z2 (sel_f z3 (sel_f z4 (sel_f z5 ⟨rfl, h⟩))))))⟩⟩⟩⟩⟩⟩
theorem sp_copyM {μ : St} {a b t : Nat} {q : Q4} {x1 x2 : Int32} {post : St → Prop} (ha : a ≤ 4) (hb : b ≤ 4) (hne : ¬ a = b) (e1 : x1 = nI a) (e2 : x2 = nI b) (hB : Row μ a t q) (ht : t ≤ 400) (h : ∀ μ', offRo b μ μ' → Row μ' b t q → μ' 13 0 b = μ 13 0 a → post μ') : wp_X9_copy x1 x2 post μ := by
  subst e1
  subst e2
  have loop : ∀ m i μ1, i + m = 402 → (∀ c o k, ¬ (c = 8 ∧ 402 * b ≤ k ∧ k < 402 * b + 402) → μ1 c o k = μ c o k) → (∀ k, k < i → μ1 8 0 (402 * b + k) = μ 8 0 (402 * a + k)) → wp_X9_copy_2 (nI a) (nI b) post (m + 1) (nI i) μ1 := by
    intro m
    induction m with
    | zero =>
      intro i μ1 e ho hk
      have e2 : i = 402 := by omega
      subst e2
      unfold wp_X9_copy_2
      have Va : vp_in (nI a) 5 := pk_in a 5 (by omega)
      have Vb : vp_in (nI b) 5 := pk_in b 5 (by omega)
      refine ⟨fun _ => ⟨Va, Vb, Va, Vb, Va, Vb, Va, Vb, Va, Vb, ?_⟩, fun hc => absurd (nI_le (a := 402) (b := 402) (by decide) (by decide)) hc⟩
      rw [nI_clamp (by omega), nI_clamp (by omega)]
      obtain ⟨r1, r2, r3, r4, r5⟩ := hB
      refine h _ ?_ ⟨?_, ?_, ?_, ?_, fun j hj => ?_⟩ ?_
      · intro c o k hc
        unfold su
        rw [if_neg (by omega), if_neg (by omega), if_neg (by omega), if_neg (by omega), if_neg (by omega)]
        exact ho c o k (by omega)
      · exact (su_nc rfl).trans ((su_nc rfl).trans (su_eq.trans ((ho 11 0 a (by omega)).trans r1)))
      · exact (su_nc rfl).trans ((su_nc rfl).trans ((su_nc rfl).trans ((su_nc rfl).trans (su_eq.trans ((ho 9 0 a (by omega)).trans r2)))))
      · exact (su_nc rfl).trans ((su_nc rfl).trans ((su_nc rfl).trans (su_eq.trans ((ho 10 0 a (by omega)).trans r3))))
      · exact (su_nc rfl).trans (su_eq.trans ((ho 12 0 a (by omega)).trans r4))
      · exact (su_nc rfl).trans ((su_nc rfl).trans ((su_nc rfl).trans ((su_nc rfl).trans ((su_nc rfl).trans ((hk j (by omega)).trans (r5 j hj))))))
      · exact su_eq.trans (ho 13 0 a (by omega))
    | succ m ih =>
      intro i μ1 e ho hk
      unfold wp_X9_copy_2
      rw [m402 rfl, m402 rfl, nI_clamp (n := 402 * a + i) (by omega), nI_clamp (n := 402 * b + i) (by omega), nI_1]
      refine ⟨fun hc => absurd hc (nI_ge (a := i) (b := 402) (by omega) (by decide)), fun _ => ⟨pk_in (402 * a + i) 2010 (by omega), pk_in (402 * b + i) 2010 (by omega), ?_⟩⟩
      refine ih (i + 1) _ (by omega) ?_ (fun k hk2 => ?_)
      · intro c o k hc
        unfold su
        rw [if_neg (by omega)]
        exact ho c o k hc
      · by_cases ek : k = i
        · subst ek
          rw [su_eq]
          exact ho 8 0 _ (by omega)
        · rw [su_nk' (by omega)]
          exact hk k (by omega)
  exact ⟨403, loop 402 0 μ (by omega) (fun _ _ _ _ => rfl) (fun k hk => absurd hk (Nat.not_lt_zero k))⟩
theorem pub_keep {σ μ : St} (h : Inv σ μ) (x1 : Int32) : wp_X8_keep x1 (fun r σ' => wp_X9_keep x1 (fun r' μ' => r' = r ∧ Inv σ' μ') μ) σ := by
  have h0 := h
  obtain ⟨_, ⟨⟨t, q, k1, k2, k3, k4, k5, k6⟩, _, _⟩, hF⟩ := h0
  unfold wp_X8_keep
  refine c_within (fun hx => ⟨n00, fun _ => ?_⟩) (fun hx => ⟨fun _ => ?_, n10⟩)
  · unfold wp_X9_keep
    exact m_in (a := 0) (b := 1) rfl rfl (fun _ => ⟨n00, fun _ => ⟨rfl, h⟩⟩) (fun q => absurd q hx)
  · obtain ⟨i, -, hi, e⟩ := nat_in (m := 0) (n := 1) hx (by decide) (by decide)
    subst e
    have into : ∀ {P : Int32 → St → Prop}, ((¬ (μ 13 0 2) = (-1) → wp_X9_copy 2 (3 + nI i) (fun σ2 => P 1 σ2) μ) ∧ ((μ 13 0 2) = (-1) → P (-4) μ)) → wp_X9_keep (nI i) P μ := by
      intro P hP
      unfold wp_X9_keep
      exact m_in (a := 0) (b := 1) rfl rfl (fun q => absurd hx q) (fun _ => ⟨fun _ => hP, n10⟩)
    have k7 := k6
    rw [k5]
    rw [k5] at k6
    rcases k6 with k6 | ⟨th, hth, k6⟩
    · rw [k6]
      exact c_isThing (fun _ => ⟨n00, fun _ => into ⟨fun z => absurd k6 z, fun _ => ⟨rfl, h⟩⟩⟩) (fun z => absurd z (by decide))
    · rw [k6]
      refine c_isThing (fun z => absurd (in_nat (m := 0) (n := 3) (by decide) (by decide) (by omega) (by omega)) z) (fun _ => ⟨fun _ => ⟨pk_in i 2 (by omega), ?_⟩, n10⟩)
      rw [nI_clamp (by omega)]
      refine sp_copyC (by omega) k2 (fun σ' o1 e1 b1 => into ⟨fun _ => ?_, fun z => absurd (k6.symm.trans z) (nI_m1 (by omega))⟩)
      refine sp_copyM (a := 2) (b := 3 + i) (by decide) (by omega) (by omega) rfl (nI_add 3 i) k3 k1 (fun μ' o2 r2 e2 => ⟨rfl, ?_⟩)
      refine h.ball (o := 1 + i) (r := 3 + i) (by omega) (by omega) o1 o2 ⟨t, q, k1, b1, r2, k4, by rw [e1, e2]; exact k5, ?_⟩
      rw [e1]
      exact k7
theorem pub_back {σ μ : St} (h : Inv σ μ) (x1 : Int32) : wp_X8_back x1 (fun r σ' => wp_X9_back x1 (fun r' μ' => r' = r ∧ Inv σ' μ') μ) σ := by
  have h0 := h
  obtain ⟨_, ⟨_, K1, K2⟩, hF⟩ := h0
  unfold wp_X8_back
  refine c_within (fun hx => ⟨n00, fun _ => ?_⟩) (fun hx => ⟨fun _ => ?_, n10⟩)
  · unfold wp_X9_back
    exact m_in (a := 0) (b := 1) rfl rfl (fun _ => ⟨n00, fun _ => ⟨rfl, h⟩⟩) (fun q => absurd q hx)
  · obtain ⟨i, -, hi, e⟩ := nat_in (m := 0) (n := 1) hx (by decide) (by decide)
    subst e
    have K : KB σ μ (1 + i) (3 + i) := by
      rcases (show i = 0 ∨ i = 1 by omega) with z | z
      · subst z
        exact K1
      · subst z
        exact K2
    obtain ⟨t, q, k1, k2, k3, k4, k5, k6⟩ := K
    have X3 : 3 + nI i = nI (3 + i) := nI_add 3 i
    have into : ∀ {P : Int32 → St → Prop}, ((¬ (μ 13 0 (3 + i)) = (-1) → wp_X9_copy (nI (3 + i)) 2 (fun σ2 => P (σ2 11 0 2) σ2) μ) ∧ ((μ 13 0 (3 + i)) = (-1) → P (-4) μ)) → wp_X9_back (nI i) P μ := by
      intro P hP
      unfold wp_X9_back
      refine m_in (a := 0) (b := 1) rfl rfl (fun q => absurd hx q) (fun _ => ⟨fun _ => ?_, n10⟩)
      rw [X3, nI_clamp (by omega)]
      exact ⟨pk_in (3 + i) 5 (by omega), hP⟩
    have V2 : vp_in (nI i) 2 := pk_in i 2 (by omega)
    rw [nI_clamp (by omega)]
    refine ⟨V2, ?_⟩
    have k7 := k6
    rw [k5]
    rw [k5] at k6
    rcases k6 with k6 | ⟨th, hth, k6⟩
    · rw [k6]
      exact c_isThing (fun _ => ⟨n00, fun _ => into ⟨fun z => absurd k6 z, fun _ => ⟨rfl, h⟩⟩⟩) (fun z => absurd z (by decide))
    · rw [k6]
      refine c_isThing (fun z => absurd (in_nat (m := 0) (n := 3) (by decide) (by decide) (by omega) (by omega)) z) (fun _ => ⟨fun _ => ⟨V2, ?_⟩, n10⟩)
      refine sp_copyC (by omega) k2 (fun σ' o1 e1 b1 => into ⟨fun _ => ?_, fun z => absurd (k6.symm.trans z) (nI_m1 (by omega))⟩)
      refine sp_copyM (a := 3 + i) (b := 2) (by omega) (by decide) (by omega) rfl rfl k3 k1 (fun μ' o2 r2 e2 => ⟨?_, ?_⟩)
      · rw [r2.1, b1.1]
      · refine h.ball (o := 0) (r := 2) (by omega) (by omega) o1 o2 ⟨t, q, k1, b1, r2, k4, by rw [e1, e2]; exact k5, ?_⟩
        rw [e1]
        exact k7
