/-! PURE: LONG and the greatest HEIGHT -/
def sqS (h w : Nat → Int32) : Nat → Int32
  | 0 => 0
  | n + 1 => sqS h w n + h n * h n * w n
def moS (h w : Nat → Int32) : Nat → Int32
  | 0 => 0
  | n + 1 => moS h w n + h n * w n
def tlS (h : Nat → Int32) : Nat → Int32
  | 0 => 0
  | n + 1 => if tlS h n < h n then h n else tlS h n
def lgS (h w : Nat → Int32) (n : Nat) : Int32 := if n = 0 then -1 else sqS h w n / moS h w n
def LB (h w : Nat → Int32) (n : Nat) : Prop := ∀ i, i < n → (1 ≤ (h i).toInt ∧ (h i).toInt ≤ 300) ∧ 1 ≤ (w i).toInt ∧ (w i).toInt ≤ 99
theorem sums_ok {h w : Nat → Int32} : ∀ n, n ≤ 4 → LB h w n → ((n : Int) ≤ (moS h w n).toInt ∧ (moS h w n).toInt ≤ 29700 * n) ∧ (moS h w n).toInt ≤ (sqS h w n).toInt ∧ (sqS h w n).toInt ≤ 8910000 * n
  | 0, _, _ => by
    simp only [moS, sqS]
    decide
  | n + 1, hn, hb => by
    obtain ⟨⟨i1, i2⟩, i3, i4⟩ := sums_ok n (by omega) (fun i hi => hb i (by omega))
    obtain ⟨⟨a1, a2⟩, b1, b2⟩ := hb n (by omega)
    have hh : ab (h n) 300 := by unfold ab; omega
    have hw : ab (w n) 99 := by unfold ab; omega
    obtain ⟨e1, f1⟩ := ab_mulI hh hh (by decide)
    obtain ⟨e2, f2⟩ := ab_mulI f1 hw (by decide)
    obtain ⟨e3, f3⟩ := ab_mulI hh hw (by decide)
    have p3 : 1 ≤ (h n).toInt * (w n).toInt := by
      have := Int.mul_le_mul a1 b1 (by decide) (by omega)
      omega
    have p2 : (h n).toInt * (w n).toInt ≤ (h n).toInt * (h n).toInt * (w n).toInt := by
      have h1 : (h n).toInt * 1 ≤ (h n).toInt * (h n).toInt := Int.mul_le_mul_of_nonneg_left a1 (by omega)
      rw [Int.mul_one] at h1
      exact Int.mul_le_mul_of_nonneg_right h1 (by omega)
    have hm : ab (moS h w n) 118800 := by unfold ab; omega
    have hs : ab (sqS h w n) 35640000 := by unfold ab; omega
    have g1 := ab_addI hm f3 (by decide)
    have g2 := ab_addI hs f2 (by decide)
    rw [e3] at g1
    rw [e2, e1] at g2
    have u3 : (h n).toInt * (w n).toInt ≤ 29700 := by
      have := Int.mul_le_mul a2 b2 (by omega) (by decide)
      omega
    have u2 : (h n).toInt * (h n).toInt * (w n).toInt ≤ 8910000 := by
      have h1 := Int.mul_le_mul a2 a2 (by omega) (by decide)
      have h2 := Int.mul_le_mul h1 b2 (by omega) (by decide)
      omega
    show ((((n + 1 : Nat) : Int)) ≤ (moS h w n + h n * w n).toInt ∧ (moS h w n + h n * w n).toInt ≤ 29700 * ((n + 1 : Nat) : Int)) ∧ (moS h w n + h n * w n).toInt ≤ (sqS h w n + h n * h n * w n).toInt ∧ (sqS h w n + h n * h n * w n).toInt ≤ 8910000 * ((n + 1 : Nat) : Int)
    rw [g1, g2]
    omega
theorem lg_pos {h w : Nat → Int32} {n : Nat} (h0 : 0 < n) (hn : n ≤ 4) (hb : LB h w n) : 1 ≤ (lgS h w n).toInt ∧ (lgS h w n).toInt ≤ 35640000 := by
  obtain ⟨⟨i1, i2⟩, i3, i4⟩ := sums_ok n hn hb
  unfold lgS
  rw [if_neg (by omega), i_div (by omega)]
  have e := Int.tdiv_eq_ediv_of_nonneg (a := (sqS h w n).toInt) (b := (moS h w n).toInt) (by omega)
  rw [e]
  constructor
  · exact Int.le_ediv_of_mul_le (by omega) (by omega)
  · exact Int.le_trans (Int.ediv_le_self _ (by omega)) (by omega)
theorem lg_pos' {h w : Nat → Int32} {n : Nat} (h0 : 0 < n) (hn : n ≤ 4) (hb : LB h w n) : 0 < lgS h w n := by
  rw [fa_lt]
  have := (lg_pos h0 hn hb).1
  have h0 : (0 : Int32).toInt = 0 := by decide
  omega
def offT (o : Nat) (σ σ' : St) : Prop := ∀ c o' k, ¬ (c = 2 ∧ o' = o ∧ (k = 3 ∨ k = 4)) → σ' c o' k = σ c o' k
theorem sp_measureC {σ : St} {o n : Nat} {post : St → Prop} (hn : n ≤ 4) (e2 : σ 2 o 2 = nI n) (hb : LB (fun i => σ 3 o i) (fun i => σ 4 o i) n) (h : ∀ σ', offT o σ σ' → σ' 2 o 3 = lgS (fun i => σ 3 o i) (fun i => σ 4 o i) n → σ' 2 o 4 = tlS (fun i => σ 3 o i) n → post σ') : wp_X6_measure o post σ := by
  have loop : ∀ m i σ1, i + m = n → (∀ c o' k, ¬ (c = 2 ∧ o' = o ∧ k = 4) → σ1 c o' k = σ c o' k) → σ1 2 o 4 = tlS (fun i => σ 3 o i) i → wp_X6_measure_11 o post (m + 1) (sqS (fun i => σ 3 o i) (fun i => σ 4 o i) i) (moS (fun i => σ 3 o i) (fun i => σ 4 o i) i) (nI i) σ1 := by
    intro m
    induction m with
    | zero =>
      intro i σ1 e hf ht
      have ei : i = n := by omega
      subst ei
      obtain ⟨⟨i1, i2⟩, i3, i4⟩ := sums_ok i hn hb
      have e2' : σ1 2 o 2 = nI i := by rw [hf 2 o 2 (by omega), e2]
      have h0 : (0 : Int32).toInt = 0 := by decide
      unfold wp_X6_measure_11 wp_X6_measure_93
      rw [e2']
      have fin : ∀ v, v = lgS (fun i => σ 3 o i) (fun i => σ 4 o i) i → post (su σ1 2 o 3 v) := by
        intro v hv
        refine h _ (fun c o' k hk => ?_) (by rw [su_eq, hv]) (by rw [su_nk rfl, ht])
        have n3 : ¬ (c = 2 ∧ k = 3 ∧ o' = o) := fun z => hk ⟨z.1, z.2.2, Or.inl z.2.1⟩
        have n4 : ¬ (c = 2 ∧ o' = o ∧ k = 4) := fun z => hk ⟨z.1, z.2.1, Or.inr z.2.2⟩
        rw [show su σ1 2 o 3 v c o' k = σ1 c o' k by simp [su, n3]]
        exact hf c o' k n4
      refine ⟨fun _ => ⟨fun hm => fin _ ?_, fun hm => ⟨fun hz => ?_, fin _ ?_⟩⟩, fun hc => absurd (nI_le (Nat.le_refl i) (by omega)) hc⟩
      · rw [fa_le, h0] at hm
        have : i = 0 := by omega
        simp [lgS, this]
      · apply hm
        rw [hz]
        decide
      · have : ¬ i = 0 := by
          intro z
          apply hm
          rw [z]
          show (0 : Int32) ≤ 0
          decide
        simp [lgS, this]
    | succ m ih =>
      intro i σ1 e hf ht
      have e2' : σ1 2 o 2 = nI n := by rw [hf 2 o 2 (by omega), e2]
      have v4 : vp_in (nI i) 4 := vp_in_nI (by omega) (by decide)
      unfold wp_X6_measure_11
      rw [e2', nI_clamp (by omega), hf 3 o i (by omega), hf 4 o i (by omega), ht, nI_1]
      refine ⟨fun hc => absurd hc (nI_ge (a := i) (b := n) (by omega) (by omega)), fun _ => ⟨v4, v4, v4, v4, v4, v4, ?_⟩⟩
      refine ih (i + 1) _ (by omega) (fun c o' k hk => ?_) ?_
      · have n4 : ¬ (c = 2 ∧ k = 4 ∧ o' = o) := fun z => hk ⟨z.1, z.2.2, z.2.1⟩
        rw [show ∀ v, su σ1 2 o 4 v c o' k = σ1 c o' k by intro v; simp [su, n4]]
        exact hf c o' k hk
      · rw [su_eq]
        rfl
  unfold wp_X6_measure
  refine ⟨n + 1, loop n 0 _ (by omega) (fun c o' k hk => ?_) (by rw [su_eq]; rfl)⟩
  have n4 : ¬ (c = 2 ∧ k = 4 ∧ o' = o) := fun z => hk ⟨z.1, z.2.2, z.2.1⟩
  simp [su, n4]
theorem m8 {t i : Nat} {x y : Int32} (hx : x = nI t) (hy : y = nI i) : 8 * x + 2 * y = nI (8 * t + 2 * i) := by
  subst hx; subst hy
  show nI 8 * nI t + nI 2 * nI i = _
  rw [pk_mul, pk_mul, nI_add]
theorem sp_longOfM {μ : St} {t n : Nat} {x : Int32} {post : Int32 → St → Prop} (ht : t ≤ 3) (hn : n ≤ 4) (hx : x = nI t) (e5 : μ 5 0 t = nI n) (hb : LB (fun i => μ 6 0 (8 * t + 2 * i)) (fun i => μ 6 0 (8 * t + 2 * i + 1)) n) (h : post (lgS (fun i => μ 6 0 (8 * t + 2 * i)) (fun i => μ 6 0 (8 * t + 2 * i + 1)) n) μ) : wp_X9_longOf x post μ := by
  have ec : x.toNatClampNeg = t := by rw [hx, nI_clamp (by omega)]
  have v1 : vp_in x 4 := by rw [hx]; exact vp_in_nI (by omega) (by decide)
  have loop : ∀ m i, i + m = n → wp_X9_longOf_7 x post (m + 1) (sqS (fun i => μ 6 0 (8 * t + 2 * i)) (fun i => μ 6 0 (8 * t + 2 * i + 1)) i) (moS (fun i => μ 6 0 (8 * t + 2 * i)) (fun i => μ 6 0 (8 * t + 2 * i + 1)) i) (nI i) μ := by
    intro m
    induction m with
    | zero =>
      intro i e
      have ei : i = n := by omega
      subst ei
      obtain ⟨⟨i1, i2⟩, i3, i4⟩ := sums_ok i hn hb
      have h0 : (0 : Int32).toInt = 0 := by decide
      unfold wp_X9_longOf_7 wp_X9_longOf_88
      rw [ec, e5]
      refine ⟨v1, fun _ => ⟨fun hm => ⟨hm, ?_⟩, fun hm => ?_⟩, fun hc => absurd (nI_le (Nat.le_refl i) (by omega)) hc⟩
      · have : ¬ i = 0 := by
          intro z
          apply hm
          rw [z]
          rfl
        unfold lgS at h
        rw [if_neg this] at h
        exact h
      · rw [fa_eq, h0] at hm
        have : i = 0 := by omega
        unfold lgS at h
        rw [if_pos this] at h
        exact h
    | succ m ih =>
      intro i e
      unfold wp_X9_longOf_7
      rw [ec, e5, m8 hx rfl, nI_1, nI_clamp (by omega), nI_clamp (by omega), nI_1]
      refine ⟨v1, fun hc => absurd hc (nI_ge (a := i) (b := n) (by omega) (by omega)), fun _ => ⟨vp_in_nI (by omega) (by decide), vp_in_nI (by omega) (by decide), ?_⟩⟩
      exact ih (i + 1) (by omega)
  exact ⟨n + 1, loop n 0 (by omega)⟩
theorem sp_greatestM {μ : St} {t n : Nat} {x : Int32} {post : Int32 → St → Prop} (ht : t ≤ 3) (hn : n ≤ 4) (hx : x = nI t) (e5 : μ 5 0 t = nI n) (h : post (tlS (fun i => μ 6 0 (8 * t + 2 * i)) n) μ) : wp_X9_greatest x post μ := by
  have ec : x.toNatClampNeg = t := by rw [hx, nI_clamp (by omega)]
  have v1 : vp_in x 4 := by rw [hx]; exact vp_in_nI (by omega) (by decide)
  have loop : ∀ m i, i + m = n → wp_X9_greatest_4 x post (m + 1) (tlS (fun i => μ 6 0 (8 * t + 2 * i)) i) (nI i) μ := by
    intro m
    induction m with
    | zero =>
      intro i e
      have ei : i = n := by omega
      subst ei
      unfold wp_X9_greatest_4
      rw [ec, e5]
      exact ⟨v1, fun _ => h, fun hc => absurd (nI_le (Nat.le_refl i) (by omega)) hc⟩
    | succ m ih =>
      intro i e
      unfold wp_X9_greatest_4 wp_X9_greatest_48
      rw [ec, e5, m8 hx rfl, nI_clamp (by omega), nI_1]
      have hv : vp_in (nI (8 * t + 2 * i)) 32 := vp_in_nI (by omega) (by decide)
      have hi := ih (i + 1) (by omega)
      refine ⟨v1, fun hc => absurd hc (nI_ge (a := i) (b := n) (by omega) (by omega)), fun _ => ⟨hv, fun hc => ?_, fun hc => ⟨hv, ?_⟩⟩⟩
      · have e1 : tlS (fun i => μ 6 0 (8 * t + 2 * i)) (i + 1) = tlS (fun i => μ 6 0 (8 * t + 2 * i)) i := by
          rw [tlS, if_neg]
          intro z
          exact (fa_of_lt z).2.1 hc
        rw [e1] at hi
        exact hi
      · have e1 : tlS (fun i => μ 6 0 (8 * t + 2 * i)) (i + 1) = μ 6 0 (8 * t + 2 * i) := by
          rw [tlS, if_pos (fa_of_nle hc)]
        rw [e1] at hi
        exact hi
  exact ⟨n + 1, loop n 0 (by omega)⟩
