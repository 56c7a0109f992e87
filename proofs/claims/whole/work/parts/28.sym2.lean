theorem ab_nI {n : Nat} (h : n < 2147483648) : ab (nI n) n := by
  unfold ab
  rw [nI_toInt (by omega)]
  omega
theorem ab_pull {N : Nat → Int32} (hN : NB N) (t : Nat) : ab (pullS N t) 198 := by
  obtain ⟨-, -, -, -, -, n6, -, -, n9, -, -⟩ := hN.ab
  unfold pullS
  split
  · exact ab_add n6 n9 (by decide)
  · exact ab_sub n6 n9 (by decide)
theorem ab_lean {kd own lg x v pull : Int32} (ho : ab own 9) (hx : ab x 999) (hv : ab v 2100) (hp : ab pull 198) : ab (leanS kd own lg x v pull) 216702 := by
  have h1 := ab_div (b := lg) (ab_mul hx hp (by decide)) (by decide)
  have h2 := ab_div (b := 10) (ab_mul hx ho (by decide)) (by decide)
  have h3 := ab_div (b := 20) (ab_mul hv ho (by decide)) (by decide)
  unfold leanS
  split
  · exact (ab_sub h1 h2 (by decide)).mono (by decide)
  · split
    · exact (ab_add h1 h3 (by decide)).mono (by decide)
    · exact h1.mono (by decide)
theorem lean_neg {kd own lg x v pull : Int32} (ho : ab own 9) (hx : ab x 999) (hv : ab v 2100) (hp : ab pull 198) : leanS kd own lg (-x) (-v) pull = -(leanS kd own lg x v pull) := by
  have h1 := ab_mul hx hp (by decide)
  have h2 := ab_mul hx ho (by decide)
  have h3 := ab_mul hv ho (by decide)
  unfold leanS
  rw [Int32.neg_mul, Int32.neg_mul, Int32.neg_mul, neg_div h1 (by decide), neg_div h2 (by decide), neg_div h3 (by decide)]
  split
  · rw [Int32.sub_neg, Int32.neg_sub, ii_sub, ii_comm]
  · split
    · rw [Int32.neg_add]
      exact (ii_sub _ _).symm
    · rfl
/-- bounds of a state, while nothing has fallen -/
def BQ (N : Nat → Int32) (t : Nat) (q : Q4) : Prop := (∀ j, j ≤ t → ab (q.1 j) 999) ∧ ab q.2.1 2100 ∧ q.2.2.1.toInt.natAbs ≤ (N 5).toInt.natAbs
theorem step_bounds {N : Nat → Int32} {kd own lg gu : Int32} {ago t : Nat} {mi : Bool} {q : Q4} (hN : NB N) (ho : ab own 9) (hg : ab gu 99) (hq : BQ N t q) :
    ab (vS N kd own lg gu t q) 218921 ∧ ab (mS N ago mi t q) 99 ∧ (q.2.2.1 + mS N ago mi t q).toInt.natAbs ≤ (N 5).toInt.natAbs ∧ ab (q.1 t + (vS N kd own lg gu t q - mS N ago mi t q)) 220019 ∧ (q.1 t + (vS N kd own lg gu t q - mS N ago mi t q)).toInt = (q.1 t).toInt + ((vS N kd own lg gu t q).toInt - (mS N ago mi t q).toInt) := by
  obtain ⟨q1, q2, q3⟩ := hq
  obtain ⟨-, -, -, -, n5, -, -, n8, -, -, -⟩ := hN.ab
  have hx := q1 t (Nat.le_refl t)
  have hl := ab_lean (kd := kd) (lg := lg) ho hx q2 (ab_pull hN t)
  have hv : ab (vS N kd own lg gu t q) 218921 := by
    unfold vS
    exact (ab_add q2 (ab_add (ab_add hl n8 (by decide)) hg (by decide)) (by decide)).mono (by decide)
  have hm : ab (mS N ago mi t q) 99 ∧ (q.2.2.1 + mS N ago mi t q).toInt.natAbs ≤ (N 5).toInt.natAbs := by
    unfold mS
    split
    · exact mv_bounds hN q3 (ab_mind hN _ _)
    · rw [ii_zero]
      exact ⟨by show (0 : Int32).toInt.natAbs ≤ 99; decide, q3⟩
  have hs := ab_sub hv hm.1 (by decide)
  have e1 := ab_subI hv hm.1 (by decide)
  have e2 := ab_addI hx hs (by decide)
  refine ⟨hv, hm.1, hm.2, (ab_add hx hs (by decide)).mono (by decide), ?_⟩
  rw [e2, e1]
theorem ab_of_fell {N : Nat → Int32} {x : Int32} (hN : NB N) (h : fellS (N 7) x = false) : ab x 999 := by
  have h1 := hN.bound
  have h2 := fell_bound (by omega) h
  unfold ab
  omega
/-- what isn't fallen keeps its bounds -/
theorem step_BQ {N : Nat → Int32} {kd own lg gu : Int32} {ago t : Nat} {mi : Bool} {q : Q4} (hN : NB N) (ho : ab own 9) (hg : ab gu 99) (hq : BQ N t q) (hf : fellS (N 7) ((stepS N kd own lg ago mi gu t q).1 (t + 1)) = false) : BQ N (t + 1) (stepS N kd own lg ago mi gu t q) := by
  obtain ⟨b1, b2, b3, b4, b5⟩ := step_bounds (kd := kd) (lg := lg) (ago := ago) (mi := mi) hN ho hg hq
  have hx' := ab_of_fell hN hf
  have ex : (stepS N kd own lg ago mi gu t q).1 (t + 1) = q.1 t + (vS N kd own lg gu t q - mS N ago mi t q) := by simp [stepS, upd]
  rw [ex] at hx'
  have hx := hq.1 t (Nat.le_refl t)
  refine ⟨fun j hj => ?_, ?_, ?_⟩
  · by_cases h : j = t + 1
    · subst h; rw [ex]; exact hx'
    · show ab (upd q.1 (t + 1) _ j) 999
      rw [pk_un h]
      exact hq.1 j (by omega)
  · show ab (vS N kd own lg gu t q) 2100
    unfold ab at *
    omega
  · exact b3
theorem run_BQ {N : Nat → Int32} {kd own lg x0 v0 : Int32} {ago : Nat} {mi : Bool} (hN : NB N) (ho : ab own 9) (hv : ab v0 2100) : ∀ t, (∀ s, s ≤ t → fallS N kd own lg ago mi x0 v0 s = false) → BQ N t (runS N kd own lg ago mi x0 v0 t) := by
  intro t
  induction t with
  | zero =>
    intro h
    refine ⟨fun j hj => ab_of_fell hN (h 0 (Nat.le_refl 0)), hv, ?_⟩
    show (0 : Int32).toInt.natAbs ≤ _
    exact Nat.zero_le _
  | succ t ih =>
    intro h
    exact step_BQ hN ho (by show (0 : Int32).toInt.natAbs ≤ 99; decide) (ih (fun s hs => h s (by omega))) (h (t + 1) (Nat.le_refl _))
def ngQ (t : Nat) (q q' : Q4) : Prop := (∀ j, j ≤ t → q'.1 j = -(q.1 j)) ∧ q'.2.1 = -q.2.1 ∧ q'.2.2.1 = -q.2.2.1
theorem step_neg {N : Nat → Int32} {kd own lg : Int32} {ago t : Nat} {q q' : Q4} {mi : Bool} (hN : NB N) (h8 : N 8 = 0) (ho : ab own 9) (hq : BQ N t q) (hn : ngQ t q q') : ngQ (t + 1) (stepS N kd own lg ago mi 0 t q) (stepS N kd own lg ago mi 0 t q') := by
  obtain ⟨n1, n2, n3⟩ := hn
  have hq0 := hq
  obtain ⟨q1, q2, q3⟩ := hq0
  obtain ⟨-, -, -, -, n5, -, -, -, -, -, p5⟩ := hN.ab
  have hx := q1 t (Nat.le_refl t)
  have ev : vS N kd own lg 0 t q' = -(vS N kd own lg 0 t q) := by
    unfold vS
    rw [n1 t (Nat.le_refl t), n2, h8, lean_neg ho hx q2 (ab_pull hN t), ii_zero, ii_zero, ii_zero, ii_zero, Int32.neg_add]
    exact (ii_sub _ _).symm
  have em : mS N ago mi t q' = -(mS N ago mi t q) := by
    unfold mS
    split
    · unfold mvS
      rw [n1 _ (by omega), n1 _ (by omega), n3, mind_neg hN (q1 _ (by omega)) (q1 _ (by omega))]
      have hf : ab q.2.2.1 999 := Nat.le_trans q3 n5
      have hw := ab_mind hN (q.1 (t - ago)) (q.1 (t - (ago + 1)))
      generalize mind N (q.1 (t - ago)) (q.1 (t - (ago + 1))) = w at hw ⊢
      have e : -q.2.2.1 + -w = -(q.2.2.1 + w) := by
        rw [Int32.neg_add]; exact (ii_sub _ _).symm
      rw [e, lim_neg (ab_add hf hw (by decide)) (by decide) p5 n5 (by decide), Int32.sub_neg, Int32.neg_sub, ii_sub, ii_comm]
    · rw [Int32.neg_zero]
  refine ⟨fun j hj => ?_, ev, ?_⟩
  · by_cases h : j = t + 1
    · subst h
      simp only [stepS, pk_us]
      rw [n1 t (Nat.le_refl t), ev, em, Int32.sub_neg, Int32.neg_add, ii_sub (-(q.1 t)), Int32.neg_sub, ii_sub (mS N ago mi t q), ii_comm (-(vS N kd own lg 0 t q))]
    · show upd q'.1 (t + 1) _ j = -(upd q.1 (t + 1) _ j)
      rw [pk_un h, pk_un h]
      exact n1 j (by omega)
  · show q'.2.2.1 + mS N ago mi t q' = -(q.2.2.1 + mS N ago mi t q)
    rw [n3, em, Int32.neg_add]
    exact (ii_sub _ _).symm
theorem fell_neg {b x : Int32} {X : Nat} (hb : ab b 999) (hx : ab x X) (hX : X < 2147483648) : fellS b (-x) = fellS b x := by
  have h1 := ab_negI hx hX
  have h2 := ab_negI hb (by decide)
  unfold fellS
  by_cases c1 : b < x <;> by_cases c2 : -b ≤ x <;> by_cases c3 : b < -x <;> by_cases c4 : -b ≤ -x <;> simp only [c1, c2, c3, c4, decide_true, decide_false, Bool.not_true, Bool.not_false, Bool.or_true, Bool.or_false, Bool.true_or, Bool.false_or] <;> rw [fa_lt] at c1 c3 <;> rw [fa_le] at c2 c4 <;> rw [h2] at c2 c4 <;> rw [h1] at c3 c4 <;> exfalso <;> omega
theorem run_neg {N : Nat → Int32} {kd own lg x0 : Int32} {ago : Nat} {mi : Bool} (hN : NB N) (h8 : N 8 = 0) (ho : ab own 9) : ∀ t, (∀ s, s < t → fallS N kd own lg ago mi x0 0 s = false) → ngQ t (runS N kd own lg ago mi x0 0 t) (runS N kd own lg ago mi (-x0) 0 t) := by
  intro t
  induction t with
  | zero =>
    intro _
    exact ⟨fun j hj => rfl, Int32.neg_zero.symm, Int32.neg_zero.symm⟩
  | succ t ih =>
    intro h
    have hb := run_BQ (kd := kd) (lg := lg) (x0 := x0) (v0 := 0) (ago := ago) (mi := mi) hN ho (by show (0 : Int32).toInt.natAbs ≤ 2100; decide) t (fun s hs => h s (by omega))
    exact step_neg hN h8 ho hb (ih (fun s hs => h s (by omega)))
theorem lastF_cong {F G : Nat → Bool} : ∀ n t, (∀ s, t ≤ s → (∀ r, t ≤ r → r < s → F r = false) → F s = G s) → lastF F n t = lastF G n t
  | 0, t, _ => rfl
  | n + 1, t, h => by
    rw [lastF, lastF, ← h t (Nat.le_refl t) (fun r h1 h2 => by omega)]
    cases hF : F t with
    | true => simp
    | false =>
      simp only [Bool.false_eq_true, if_false]
      refine lastF_cong n (t + 1) (fun s hs hr => h s (by omega) (fun r h1 h2 => ?_))
      by_cases e : r = t
      · subst e; exact hF
      · exact hr r (by omega) h2
/-- without WIND all goes to the left as it goes to the right -/
theorem kept_neg {N : Nat → Int32} {kd own lg x0 : Int32} {ago most X : Nat} {mi : Bool} (hN : NB N) (h8 : N 8 = 0) (ho : ab own 9) (hx : ab x0 X) (hX : X < 2147483648) : lastF (fallS N kd own lg ago mi x0 0) most 0 = lastF (fallS N kd own lg ago mi (-x0) 0) most 0 := by
  refine lastF_cong most 0 (fun s _ hr => ?_)
  have hr' : ∀ r, r < s → fallS N kd own lg ago mi x0 0 r = false := fun r h => hr r (Nat.zero_le r) h
  have hn := run_neg (kd := kd) (lg := lg) (x0 := x0) (ago := ago) (mi := mi) hN h8 ho s hr'
  obtain ⟨-, -, -, -, -, -, n7, -⟩ := hN.ab
  unfold fallS xS
  rw [hn.1 s (Nat.le_refl s)]
  cases s with
  | zero => exact (fell_neg n7 hx hX).symm
  | succ t =>
    have hb := run_BQ (kd := kd) (lg := lg) (x0 := x0) (v0 := 0) (ago := ago) (mi := mi) hN ho (by show (0 : Int32).toInt.natAbs ≤ 2100; decide) t (fun s hs => hr' s (by omega))
    have h4 := (step_bounds (kd := kd) (lg := lg) (ago := ago) (mi := mi) (gu := 0) hN ho (by show (0 : Int32).toInt.natAbs ≤ 99; decide) hb).2.2.2.1
    have e : (runS N kd own lg ago mi x0 0 (t + 1)).1 (t + 1) = (runS N kd own lg ago mi x0 0 t).1 t + (vS N kd own lg 0 t (runS N kd own lg ago mi x0 0 t) - mS N ago mi t (runS N kd own lg ago mi x0 0 t)) := by
      show (stepS N kd own lg ago mi 0 t (runS N kd own lg ago mi x0 0 t)).1 (t + 1) = _
      simp [stepS, upd]
    rw [e]
    exact (fell_neg n7 h4 (by decide)).symm
