/-! PURE: one tick of the reference -/
def RuM (μ : St) (N : Nat → Int32) (la : Nat) : Prop := μ 0 0 28 = N 0 ∧ μ 0 0 29 = N 1 ∧ μ 0 0 30 = nI la ∧ μ 0 0 31 = N 9 ∧ μ 0 0 11 = N 3 ∧ μ 0 0 12 = N 4 ∧ μ 0 0 13 = N 5 ∧ μ 0 0 14 = N 6 ∧ μ 0 0 15 = N 7 ∧ μ 0 0 16 = N 8 ∧ N 2 = nI la ∧ la ≤ 6 ∧ NB N
def ThM (μ : St) (kd own lg : Int32) (ob : Nat) : Prop := μ 0 0 32 = kd ∧ μ 0 0 33 = own ∧ μ 0 0 34 = lg ∧ own = nI ob ∧ ob ≤ 9 ∧ 0 < lg
def offR (r : Nat) (μ μ' : St) : Prop := ∀ c o k, ¬ ((c = 8 ∧ 402 * r ≤ k ∧ k < 402 * r + 402) ∨ ((c = 9 ∨ c = 10 ∨ c = 11 ∨ c = 12) ∧ k = r)) → μ' c o k = μ c o k
theorem e_minds {μ : St} {N : Nat → Int32} {la : Nat} {s b : Int32} {post : Int32 → St → Prop} (hR : RuM μ N la) : wp_X9_minds s b post μ = post (mind N s b) μ := by
  obtain ⟨a1, a2, a3, a4, a5, a6, a7, a8, a9, a10, a11, a12, a13⟩ := hR
  unfold wp_X9_minds wp_X9_minds_19 wp_X9_minds_71 mind lim
  rw [a1, a2, a5, a6]
  by_cases h1 : N 4 ≤ s
  · by_cases h2 : (N 0 * s + N 1 * (s - b)) / 10 ≤ N 3 <;> by_cases h3 : -(N 3) ≤ (N 0 * s + N 1 * (s - b)) / 10 <;> simp [h1, h2, h3]
  · by_cases h4 : s ≤ -(N 4)
    · by_cases h2 : (N 0 * s + N 1 * (s - b)) / 10 ≤ N 3 <;> by_cases h3 : -(N 3) ≤ (N 0 * s + N 1 * (s - b)) / 10 <;> simp [h1, h2, h3, h4]
    · simp [h1, h4]
theorem m402 {r j : Nat} {x : Int32} (hx : x = nI r) : 402 * x + nI j = nI (402 * r + j) := by
  subst hx
  show nI 402 * nI r + nI j = _
  rw [pk_mul, nI_add]
theorem m402' {r : Nat} {x : Int32} (hx : x = nI r) : 402 * x = nI (402 * r) := by
  subst hx
  show nI 402 * nI r = _
  rw [pk_mul]
theorem e_leansAt {μ : St} {r t : Nat} {q : Q4} {x : Int32} {post : Int32 → St → Prop} (hB : Row μ r t q) (hr : r ≤ 4) (ht : t ≤ 401) (hx : x = nI r) : wp_X9_leansAt x post μ = post (q.1 t) μ := by
  obtain ⟨b1, b2, b3, b4, b5⟩ := hB
  unfold wp_X9_leansAt
  have ec : x.toNatClampNeg = r := by rw [hx, nI_clamp (by omega)]
  rw [ec, b1, m402 hx, nI_clamp (by omega), b5 t (Nat.le_refl t)]
  have v1 : vp_in x 5 := by rw [hx]; exact vp_in_nI (by omega) (by decide)
  have v2 : vp_in (nI (402 * r + t)) 2010 := vp_in_nI (by omega) (by decide)
  simp [v1, v2]
theorem sp_movesM {μ : St} {r t la ob : Nat} {q : Q4} {N : Nat → Int32} {kd own lg x : Int32} {post : Int32 → St → Prop} (hB : Row μ r t q) (hR : RuM μ N la) (hT : ThM μ kd own lg ob) (hr : r ≤ 4) (ht : t ≤ 401) (hx : x = nI r) (h : post (mvS N (agoS la kd ob) q.1 t q.2.2.1) μ) : wp_X9_moves x post μ := by
  have hR' := hR
  obtain ⟨a1, a2, a3, a4, a5, a6, a7, a8, a9, a10, a11, a12, a13⟩ := hR'
  obtain ⟨t1, t2, t3, t4, t5, t6⟩ := hT
  obtain ⟨b1, b2, b3, b4, b5⟩ := hB
  have ec : x.toNatClampNeg = r := by rw [hx, nI_clamp (by omega)]
  have v1 : vp_in x 5 := by rw [hx]; exact vp_in_nI (by omega) (by decide)
  have ele : (if kd = 3 then ob else 0) ≤ 9 := by split <;> omega
  have hago : agoS la kd ob ≤ 15 := by unfold agoS; omega
  have k79 : wp_X9_moves_79 x post (q.1 (t - agoS la kd ob)) (402 * x) (nI (t - (agoS la kd ob + 1))) μ := by
    unfold wp_X9_moves_79 wp_X9_moves_154
    rw [m402 hx, nI_clamp (by omega), b5 _ (by omega)]
    refine ⟨vp_in_nI (by omega) (by decide), ?_⟩
    rw [e_minds hR, ec, b3, a7]
    refine ⟨v1, ?_⟩
    unfold mvS at h
    generalize mind N (q.1 (t - agoS la kd ob)) (q.1 (t - (agoS la kd ob + 1))) = w at h
    unfold lim at h
    refine ⟨fun h1 => ⟨fun h2 => ?_, fun h2 => ⟨v1, ?_⟩⟩, fun h1 => ⟨v1, ?_⟩⟩
    · rw [if_pos h1, if_pos h2, ii_cancel] at h; exact h
    · rw [if_pos h1, if_neg h2] at h; exact h
    · rw [if_neg h1] at h; exact h
  have k50 : wp_X9_moves_50 x post (nI (agoS la kd ob)) (nI t) (402 * x) (nI (t - agoS la kd ob)) μ := by
    unfold wp_X9_moves_50
    rw [m402 hx, nI_clamp (by omega), b5 _ (by omega)]
    refine ⟨vp_in_nI (by omega) (by decide), fun h1 => ?_, fun h1 => ?_⟩
    · rw [nI_1, nI_leI (by omega) (by omega)] at h1
      have e : t - (agoS la kd ob + 1) = 0 := by omega
      rw [e] at k79
      exact k79
    · rw [nI_1, nI_leI (by omega) (by omega)] at h1
      have e : nI t - nI (agoS la kd ob) - 1 = nI (t - (agoS la kd ob + 1)) := by
        rw [ii_subsub, nI_1, nI_sub_pos (by omega)]
      rw [e]
      exact k79
  have k20 : ∀ y z : Int32, y + z = nI (agoS la kd ob) → wp_X9_moves_20 x post y z μ := by
    intro y z e
    unfold wp_X9_moves_20
    rw [e, ec, b1]
    refine ⟨v1, fun h1 => ?_, fun h1 => ?_⟩
    · rw [nI_leI (by omega) (by omega)] at h1
      have e2 : t - agoS la kd ob = 0 := by omega
      rw [e2] at k50
      exact k50
    · rw [nI_leI (by omega) (by omega)] at h1
      rw [nI_sub_pos (by omega)]
      exact k50
  unfold wp_X9_moves
  refine ⟨fun h1 => k20 _ _ ?_, fun h1 => k20 _ _ ?_⟩
  · rw [t1] at h1
    rw [a3, ii_zero]
    simp [agoS, h1]
  · rw [t1] at h1
    rw [a3, t2, t4, nI_add]
    simp [agoS, h1]
theorem sp_tickM {μ : St} {r t la ob : Nat} {q : Q4} {N : Nat → Int32} {kd own lg x x2 bl gu : Int32} {mi : Bool} {post : St → Prop} (hB : Row μ r t q) (hR : RuM μ N la) (hT : ThM μ kd own lg ob) (hr : r ≤ 4) (ht : t ≤ 400) (hx : x = nI r) (hmi : x2 = bi (mi = true)) (hbl : bl = N 8 + gu) (h : ∀ μ', offR r μ μ' → Row μ' r (t + 1) (stepS N kd own lg (agoS la kd ob) mi gu t q) → post μ') : wp_X9_tick x x2 bl post μ := by
  have hR' := hR
  obtain ⟨a1, a2, a3, a4, a5, a6, a7, a8, a9, a10, a11, a12, a13⟩ := hR'
  have hT' := hT
  obtain ⟨t1, t2, t3, t4, t5, t6⟩ := hT'
  have hB' := hB
  obtain ⟨b1, b2, b3, b4, b5⟩ := hB'
  have ec : x.toNatClampNeg = r := by rw [hx, nI_clamp (by omega)]
  have v1 : vp_in x 5 := by rw [hx]; exact vp_in_nI (by omega) (by decide)
  have hl0 : ¬ lg = 0 := fun e => (fa_of_lt t6).2.2.2.2 e
  have k127 : ∀ xs0 xs1 m : Int32, xs0 + xs1 = leanS kd own lg (q.1 t) q.2.1 (pullS N t) → m = mS N (agoS la kd ob) mi t q → wp_X9_tick_127 x x2 bl post (q.1 t) q.2.1 m xs0 xs1 μ := by
    intro xs0 xs1 m e1 e2
    unfold wp_X9_tick_127
    rw [ec, e1, b1, b3, nI_1, m402 hx, nI_clamp (by omega)]
    refine ⟨v1, v1, v1, v1, v1, v1, v1, v1, vp_in_nI (by omega) (by decide), ?_⟩
    have ev : q.2.1 + leanS kd own lg (q.1 t) q.2.1 (pullS N t) + bl = vS N kd own lg gu t q := by
      rw [hbl]
      unfold vS
      rw [ii_assoc, ii_assoc (leanS _ _ _ _ _ _)]
    rw [ev, ii_addsub]
    refine h _ ?_ ?_
    · intro c o' k hn
      have n8 : ¬ (c = 8 ∧ k = 402 * r + (t + 1) ∧ o' = 0) := fun z => hn (Or.inl ⟨z.1, by omega, by omega⟩)
      have n9 : ∀ d, (d = 9 ∨ d = 10 ∨ d = 11 ∨ d = 12) → ¬ (c = d ∧ k = r ∧ o' = 0) := by
        intro d hd z
        refine hn (Or.inr ⟨?_, z.2.1⟩)
        rw [z.1]
        exact hd
      have e9 := n9 9 (by decide)
      have e10 := n9 10 (by decide)
      have e11 := n9 11 (by decide)
      have e12 := n9 12 (by decide)
      simp [su, n8, e9, e10, e11, e12]
    · refine ⟨?_, ?_, ?_, ?_, ?_⟩
      · rw [su_nc rfl, su_eq]
      · rw [su_nc rfl, su_nc rfl, su_nc rfl, su_nc rfl, su_eq]
        rfl
      · rw [su_nc rfl, su_nc rfl, su_nc rfl, su_eq, e2]
        rfl
      · rw [su_nc rfl, su_nc rfl, su_eq, e2]
        rfl
      · intro j hj
        by_cases hj1 : j = t + 1
        · subst hj1
          rw [su_eq, e2]
          simp [stepS, upd]
        · have hne : ¬ 402 * r + j = 402 * r + (t + 1) := by omega
          have e1 : ∀ τ : St, ∀ y : Int32, su τ 8 0 (402 * r + (t + 1)) y 8 0 (402 * r + j) = τ 8 0 (402 * r + j) := by
            intro τ y
            simp [su, hj1]
          rw [e1, su_nc rfl, su_nc rfl, su_nc rfl, su_nc rfl, b5 j (by omega)]
          simp [stepS, upd, hj1]
  have k62 : ∀ m : Int32, m = mS N (agoS la kd ob) mi t q → wp_X9_tick_62 x x2 bl post (q.1 t) q.2.1 m (pullS N t) μ := by
    intro m e
    unfold wp_X9_tick_62 wp_X9_tick_100
    rw [t1, t2, t3]
    refine ⟨hl0, fun h1 => ⟨fun h2 => k127 _ _ _ ?_ e, fun h2 => k127 _ _ _ ?_ e⟩, fun h1 => ⟨fun h2 => k127 _ _ _ ?_ e, fun h2 => k127 _ _ _ ?_ e⟩⟩
    · rw [ii_szero, ii_zero]; simp [leanS, h1, h2]
    · rw [ii_szero]; simp [leanS, h2]
    · rw [ii_zero]; simp [leanS, h1]
    · exfalso; rw [h1] at h2; revert h2; decide
  have k28 : ∀ m : Int32, m = mS N (agoS la kd ob) mi t q → wp_X9_tick_28 x x2 bl post (q.1 t) q.2.1 m μ := by
    intro m e
    unfold wp_X9_tick_28
    rw [ec, b1, par_C (by omega), a8, a4]
    refine ⟨v1, fun hz => ?_, fun hz => ?_⟩
    · have : pullS N t = N 6 - N 9 := if_neg hz
      rw [← this]; exact k62 m e
    · have : pullS N t = N 6 + N 9 := if_pos hz
      rw [← this]; exact k62 m e
  unfold wp_X9_tick
  rw [e_leansAt hB hr (by omega) hx, ec, b2]
  refine ⟨v1, fun hz => k28 0 ?_, fun hz => sp_movesM hB hR hT hr (by omega) hx (k28 _ ?_)⟩
  · rw [hmi, bi_0] at hz; simp [mS, hz]
  · rw [hmi, bi_1] at hz; simp [mS, hz]
