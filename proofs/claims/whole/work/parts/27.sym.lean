/-! PURE: bounds of a tick; without WIND left is as right -/
def ab (a : Int32) (A : Nat) : Prop := a.toInt.natAbs ≤ A
theorem ab.mono {a : Int32} {A B : Nat} (h : ab a A) (hAB : A ≤ B) : ab a B := Nat.le_trans h hAB
theorem ab_addI {a b : Int32} {A B : Nat} (ha : ab a A) (hb : ab b B) (h : A + B < 2147483648) : (a + b).toInt = a.toInt + b.toInt := by
  unfold ab at *
  exact i_add (by omega) (by omega)
theorem ab_add {a b : Int32} {A B : Nat} (ha : ab a A) (hb : ab b B) (h : A + B < 2147483648) : ab (a + b) (A + B) := by
  have e := ab_addI ha hb h
  unfold ab at *
  rw [e]; omega
theorem ab_subI {a b : Int32} {A B : Nat} (ha : ab a A) (hb : ab b B) (h : A + B < 2147483648) : (a - b).toInt = a.toInt - b.toInt := by
  unfold ab at *
  exact i_sub (by omega) (by omega)
theorem ab_sub {a b : Int32} {A B : Nat} (ha : ab a A) (hb : ab b B) (h : A + B < 2147483648) : ab (a - b) (A + B) := by
  have e := ab_subI ha hb h
  unfold ab at *
  rw [e]; omega
theorem ab_negI {a : Int32} {A : Nat} (ha : ab a A) (h : A < 2147483648) : (-a).toInt = -a.toInt := by
  unfold ab at *
  exact i_neg (by omega)
theorem ab_neg {a : Int32} {A : Nat} (ha : ab a A) (h : A < 2147483648) : ab (-a) A := by
  have e := ab_negI ha h
  unfold ab at *
  rw [e]; omega
theorem ab_mulI {a b : Int32} {A B : Nat} (ha : ab a A) (hb : ab b B) (h : A * B < 2147483648) : (a * b).toInt = a.toInt * b.toInt ∧ ab (a * b) (A * B) := by
  unfold ab at *
  have h1 : (a.toInt * b.toInt).natAbs ≤ A * B := by rw [Int.natAbs_mul]; exact Nat.mul_le_mul ha hb
  have e : (a * b).toInt = a.toInt * b.toInt := i_mul (by omega) (by omega)
  exact ⟨e, by rw [e]; exact h1⟩
theorem ab_mul {a b : Int32} {A B : Nat} (ha : ab a A) (hb : ab b B) (h : A * B < 2147483648) : ab (a * b) (A * B) := (ab_mulI ha hb h).2
theorem ab_div {a b : Int32} {A : Nat} (ha : ab a A) (h : A < 2147483648) : ab (a / b) A := by
  unfold ab at *
  rw [i_div (by omega)]
  exact Nat.le_trans (Int.natAbs_tdiv_le_natAbs _ _) ha
theorem neg_div {a b : Int32} {A : Nat} (ha : ab a A) (h : A < 2147483648) : (-a) / b = -(a / b) := by
  have h1 := ab_negI ha h
  have h2 := ab_div (b := b) ha h
  have h3 := ab_negI h2 h
  have h4 := ab_neg ha h
  unfold ab at *
  apply i_ext
  rw [i_div (by omega), h1, h3, i_div (by omega), Int.neg_tdiv]
theorem ab_lim {x m : Int32} {M : Nat} (hm : 0 ≤ m.toInt) (hM : ab m M) (hM2 : M < 2147483648) : ab (lim x m) M := by
  have hn := ab_negI hM hM2
  unfold lim
  split
  · split
    · rename_i h1 h2
      rw [fa_le] at h1 h2
      rw [hn] at h2
      unfold ab at *
      omega
    · exact ab_neg hM hM2
  · exact hM
theorem lim_neg {x m : Int32} {X M : Nat} (hx : ab x X) (hX : X < 2147483648) (hm : 0 ≤ m.toInt) (hM : ab m M) (hM2 : M < 2147483648) : lim (-x) m = -(lim x m) := by
  have n1 := ab_negI hx hX
  have n2 := ab_negI hM hM2
  unfold lim
  by_cases h1 : x ≤ m <;> by_cases h2 : -m ≤ x <;> by_cases h3 : -x ≤ m <;> by_cases h4 : -m ≤ -x <;> simp only [h1, h2, h3, h4, if_true, if_false, Int32.neg_neg] <;> rw [fa_le] at h1 h2 h3 h4 <;> rw [n2] at h2 h4 <;> rw [n1] at h3 h4
  all_goals first | rfl | (exfalso; omega) | (apply i_ext; simp only [n1, n2]; omega)
theorem NB.at {N : Nat → Int32} (h : NB N) (k : Nat) {lo hi : Int} (hk : k < 10) (e1 : (tLeast.getD k 0).toInt = lo) (e2 : (tMost.getD k 0).toInt = hi) : lo ≤ (N k).toInt ∧ (N k).toInt ≤ hi := by
  have := h k hk
  rw [e1, e2] at this
  exact this
theorem NB.ab {N : Nat → Int32} (h : NB N) : ab (N 0) 40 ∧ ab (N 1) 40 ∧ ab (N 3) 99 ∧ ab (N 4) 99 ∧ ab (N 5) 999 ∧ ab (N 6) 99 ∧ ab (N 7) 999 ∧ ab (N 8) 20 ∧ ab (N 9) 99 ∧ 0 ≤ (N 3).toInt ∧ 0 ≤ (N 5).toInt := by
  have h0 := h.at 0 (lo := 0) (hi := 40) (by decide) (by decide) (by decide)
  have h1 := h.at 1 (lo := 0) (hi := 40) (by decide) (by decide) (by decide)
  have h3 := h.at 3 (lo := 1) (hi := 99) (by decide) (by decide) (by decide)
  have h4 := h.at 4 (lo := 0) (hi := 99) (by decide) (by decide) (by decide)
  have h5 := h.at 5 (lo := 0) (hi := 999) (by decide) (by decide) (by decide)
  have h6 := h.at 6 (lo := 1) (hi := 99) (by decide) (by decide) (by decide)
  have h7 := h.at 7 (lo := 1) (hi := 999) (by decide) (by decide) (by decide)
  have h8 := h.at 8 (lo := 0) (hi := 20) (by decide) (by decide) (by decide)
  have h9 := h.at 9 (lo := 0) (hi := 99) (by decide) (by decide) (by decide)
  unfold Jvm.Pilot.@@N@@.ab
  refine ⟨?_, ?_, ?_, ?_, ?_, ?_, ?_, ?_, ?_, ?_, ?_⟩ <;> omega
theorem ab_num {N : Nat → Int32} (hN : NB N) {s b : Int32} (hs : ab s 999) (hb : ab b 999) : ab (N 0 * s + N 1 * (s - b)) 119880 := by
  obtain ⟨n0, n1, -⟩ := hN.ab
  have h1 := ab_mul n0 hs (by decide)
  have h2 := ab_mul n1 (ab_sub hs hb (by decide)) (by decide)
  exact (ab_add h1 h2 (by decide)).mono (by decide)
theorem ab_mind {N : Nat → Int32} (hN : NB N) (s b : Int32) : ab (mind N s b) 99 := by
  obtain ⟨-, -, n3, -, -, -, -, -, -, p3, -⟩ := hN.ab
  unfold mind
  split
  · exact ab_lim p3 n3 (by decide)
  · show (0 : Int32).toInt.natAbs ≤ 99
    decide
theorem mind_neg {N : Nat → Int32} (hN : NB N) {s b : Int32} (hs : ab s 999) (hb : ab b 999) : mind N (-s) (-b) = -(mind N s b) := by
  obtain ⟨n0, n1, n3, n4, -, -, -, -, -, p3, -⟩ := hN.ab
  have hn := ab_num hN hs hb
  have e : N 0 * -s + N 1 * (-s - -b) = -(N 0 * s + N 1 * (s - b)) := by
    have e1 : -s - -b = -(s - b) := by
      rw [Int32.sub_neg, Int32.neg_sub, ii_sub, ii_comm]
    rw [e1, Int32.mul_neg, Int32.mul_neg, Int32.neg_add]
    exact (ii_sub _ _).symm
  have c1 : (N 4 ≤ -s ∨ -s ≤ -(N 4)) ↔ (N 4 ≤ s ∨ s ≤ -(N 4)) := by
    have a1 := ab_negI hs (by decide)
    have a2 := ab_negI n4 (by decide)
    rw [fa_le, fa_le, fa_le, fa_le, a1, a2]
    omega
  unfold mind
  rw [e]
  by_cases hc : N 4 ≤ s ∨ s ≤ -(N 4)
  · rw [if_pos hc, if_pos (c1.mpr hc), neg_div hn (by decide), lim_neg (ab_div hn (by decide)) (by decide) p3 n3 (by decide)]
  · rw [if_neg hc, if_neg (fun z => hc (c1.mp z)), Int32.neg_zero]
/-- the foot stays on the FLOOR; M is at most 99 -/
theorem mv_bounds {N : Nat → Int32} (hN : NB N) {f w : Int32} (hf : f.toInt.natAbs ≤ (N 5).toInt.natAbs) (hw : ab w 99) : ab (lim (f + w) (N 5) - f) 99 ∧ (f + (lim (f + w) (N 5) - f)).toInt.natAbs ≤ (N 5).toInt.natAbs := by
  obtain ⟨-, -, -, -, n5, -, -, -, -, -, p5⟩ := hN.ab
  have hf' : ab f 999 := Nat.le_trans hf n5
  have hfw := ab_addI hf' hw (by decide)
  have hl := ab_lim (x := f + w) p5 n5 (by decide)
  have hs := ab_subI hl hf' (by decide)
  have hn := ab_negI n5 (by decide)
  have e2 : f + (lim (f + w) (N 5) - f) = lim (f + w) (N 5) := by
    rw [← ii_addsub, ii_cancel]
  rw [e2]
  constructor
  · unfold ab
    rw [hs]
    unfold lim
    split
    · split
      · unfold ab at *; omega
      · rename_i h1 h2
        rw [fa_le] at h1 h2
        unfold ab at *; omega
    · rename_i h1
      rw [fa_le] at h1
      unfold ab at *; omega
  · have h9 : ab (lim (f + w) (N 5)) (N 5).toInt.natAbs := ab_lim p5 (Nat.le_refl _) (by unfold ab at n5; omega)
    exact h9
