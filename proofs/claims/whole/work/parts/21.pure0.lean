/-! PURE: numbers of 32 bits as whole numbers -/
theorem i_lo (a : Int32) : -2147483648 ≤ a.toInt := Int32.le_toInt a
theorem i_hi (a : Int32) : a.toInt < 2147483648 := Int32.toInt_lt a
theorem i_add {a b : Int32} (h1 : -2147483648 ≤ a.toInt + b.toInt) (h2 : a.toInt + b.toInt < 2147483648) : (a + b).toInt = a.toInt + b.toInt := by
  rw [Int32.toInt_add]; exact Int.bmod_eq_of_le (by omega) (by omega)
theorem i_sub {a b : Int32} (h1 : -2147483648 ≤ a.toInt - b.toInt) (h2 : a.toInt - b.toInt < 2147483648) : (a - b).toInt = a.toInt - b.toInt := by
  rw [Int32.toInt_sub]; exact Int.bmod_eq_of_le (by omega) (by omega)
theorem i_mul {a b : Int32} (h1 : -2147483648 ≤ a.toInt * b.toInt) (h2 : a.toInt * b.toInt < 2147483648) : (a * b).toInt = a.toInt * b.toInt := by
  rw [Int32.toInt_mul]; exact Int.bmod_eq_of_le (by omega) (by omega)
theorem i_neg {a : Int32} (h : -2147483648 < a.toInt) : (-a).toInt = -a.toInt := by
  have := i_hi a
  rw [Int32.toInt_neg]; exact Int.bmod_eq_of_le (by omega) (by omega)
theorem i_div {a b : Int32} (h : -2147483648 < a.toInt) : (a / b).toInt = a.toInt.tdiv b.toInt := by
  rw [Int32.toInt_div]
  have h2 := i_hi a
  have h3 : (a.toInt.tdiv b.toInt).natAbs ≤ a.toInt.natAbs := by
    rw [Int.natAbs_tdiv]; exact Nat.div_le_self _ _
  exact Int.bmod_eq_of_le (by omega) (by omega)
theorem i_ext {a b : Int32} (h : a.toInt = b.toInt) : a = b := Int32.toInt_inj.mp h
theorem br2 {c A B : Prop} [Decidable c] : ((c → A) ∧ (¬ c → B)) = if c then A else B := by
  by_cases h : c <;> simp [h]
theorem br2' {c A B : Prop} [Decidable c] : ((¬ c → A) ∧ (c → B)) = if c then B else A := by
  by_cases h : c <;> simp [h]
theorem bool0 : narrow .boolean (.int 0) = .int 0 := by decide
theorem bool1 : narrow .boolean (.int 1) = .int 1 := by decide
def bi (p : Prop) [Decidable p] : Int32 := if p then 1 else 0
theorem bi_nar (p : Prop) [Decidable p] : narrow .boolean (.int (bi p)) = .int (bi p) := by unfold bi; split <;> decide
theorem bi_0 {p : Prop} [Decidable p] : bi p = 0 ↔ ¬ p := by unfold bi; split <;> simp_all
theorem bi_1 {p : Prop} [Decidable p] : ¬ bi p = 0 ↔ p := by unfold bi; split <;> simp_all
theorem bi_t {p : Prop} [Decidable p] (h : p) : bi p = 1 := if_pos h
theorem bi_f {p : Prop} [Decidable p] (h : ¬ p) : bi p = 0 := if_neg h
/-! leaves of the class -/
def lim (x m : Int32) : Int32 := if x ≤ m then (if -m ≤ x then x else -m) else m
theorem e_limited {x m : Int32} {post : Int32 → St → Prop} {σ : St} : wp_X8_limited x m post σ = post (lim x m) σ := by
  unfold wp_X8_limited wp_X8_limited_19 lim
  simp only [br2]
  by_cases h1 : x ≤ m <;> by_cases h2 : -m ≤ x <;> simp [h1, h2]
theorem e_within {x a b : Int32} {post : Int32 → St → Prop} {σ : St} : wp_X8_within x a b post σ = post (bi (a ≤ x ∧ x ≤ b)) σ := by
  unfold wp_X8_within wp_X8_within_14 wp_X8_within_15
  by_cases h1 : x < a
  · have h3 : ¬ (a ≤ x ∧ x ≤ b) := fun h => (fa_of_lt h1).2.1 h.1
    simp [h1, bi, h3, bool0]
  · have h1' := fa_of_nlt h1
    by_cases h2 : b < x
    · have h3 : ¬ (a ≤ x ∧ x ≤ b) := fun h => (fa_of_lt h2).2.1 h.2
      simp [h1, h2, bi, h3, bool0]
    · have h3 : (a ≤ x ∧ x ≤ b) := ⟨h1', fa_of_nlt h2⟩
      simp [h1, h2, bi, h3, bool1]
theorem e_isThing {x : Int32} {post : Int32 → St → Prop} {σ : St} : wp_X8_isThing x post σ = post (bi (0 ≤ x ∧ x ≤ 3)) σ := by
  unfold wp_X8_isThing
  rw [e_within]
  simp [bi_nar]
/-- a number in bounds is a small natural number -/
theorem nat_of {x b : Int32} {n : Nat} (h : 0 ≤ x ∧ x ≤ b) (hb : b.toInt = n) : ∃ j : Nat, j ≤ n ∧ x = nI j := by
  have h1 := (fa_le _ _).mp h.1
  have h2 := (fa_le _ _).mp h.2
  have h0 : (0 : Int32).toInt = 0 := by decide
  refine ⟨x.toInt.toNat, by omega, i_ext ?_⟩
  have := i_hi x
  rw [nI_toInt (by omega)]
  omega
theorem vin_of {x b : Int32} {n : Nat} (h : 0 ≤ x ∧ x ≤ b) (hb : b.toInt = n) : vp_in x (n + 1) := by
  have h1 := (fa_le _ _).mp h.1
  have h2 := (fa_le _ _).mp h.2
  have h0 : (0 : Int32).toInt = 0 := by decide
  rw [vp_in_iff]
  omega
theorem e_hasLumps {x : Int32} {post : Int32 → St → Prop} {σ : St} (h : 0 ≤ x ∧ x ≤ 3) : wp_X8_hasLumps x post σ = post (bi (¬ σ 2 x.toNatClampNeg 2 ≤ 0)) σ := by
  have hv : vp_in x 4 := vin_of h (by decide : (3 : Int32).toInt = (3 : Nat))
  unfold wp_X8_hasLumps wp_X8_hasLumps_20
  by_cases h1 : σ 2 x.toNatClampNeg 2 ≤ 0 <;> simp [h1, hv, bi, bool0, bool1]
def refS (x : Int32) (as : Prop) [Decidable as] (has : Prop) [Decidable has] : Int32 := if 0 ≤ x ∧ x ≤ 3 then (if as then (if has then 0 else -4) else -3) else -2
theorem e_refusal {x a : Int32} {post : Int32 → St → Prop} {σ : St} : wp_X8_refusal x a post σ = post (refS x (¬ a = 0) (¬ σ 2 x.toNatClampNeg 2 ≤ 0)) σ := by
  unfold wp_X8_refusal wp_X8_refusal_31 refS
  rw [e_isThing]
  by_cases h : 0 ≤ x ∧ x ≤ 3
  · rw [bi_t h, e_hasLumps h]
    by_cases h1 : a = 0 <;> by_cases h2 : σ 2 x.toNatClampNeg 2 ≤ 0 <;> simp [h, h1, h2, bi]
  · rw [bi_f h]
    simp [h]
theorem e_in {x a b : Int32} {la lb : Int64} {post : Int32 → St → Prop} {σ : St} (ha : la = Int32.toInt64 a) (hb : lb = Int32.toInt64 b) : wp_X9_in (Int32.toInt64 x) la lb post σ = post (bi (a ≤ x ∧ x ≤ b)) σ := by
  subst ha; subst hb
  unfold wp_X9_in wp_X9_in_17 wp_X9_in_18
  simp only [lg_cmp_lt, lg_cmp_gt, fa_wide_lt]
  by_cases h1 : x < a
  · have h3 : ¬ (a ≤ x ∧ x ≤ b) := fun h => (fa_of_lt h1).2.1 h.1
    simp [h1, bi, h3, bool0]
  · have h1' := fa_of_nlt h1
    by_cases h2 : b < x
    · have h3 : ¬ (a ≤ x ∧ x ≤ b) := fun h => (fa_of_lt h2).2.1 h.2
      simp [h1, h2, bi, h3, bool0]
    · have h3 : (a ≤ x ∧ x ≤ b) := ⟨h1', fa_of_nlt h2⟩
      simp [h1, h2, bi, h3, bool1]
theorem e_isThingM {x : Int32} {post : Int32 → St → Prop} {σ : St} : wp_X9_isThing x post σ = post (bi (0 ≤ x ∧ x ≤ 3)) σ := by
  unfold wp_X9_isThing
  rw [e_in (a := 0) (b := 3) (by decide) (by decide)]
  simp [bi_nar]
theorem e_isX {x : Int32} {post : Int32 → St → Prop} {σ : St} : wp_X9_isX x post σ = post (bi (-999 ≤ x ∧ x ≤ 999)) σ := by
  unfold wp_X9_isX
  rw [e_in (a := -999) (b := 999) (by decide) (by decide)]
  simp [bi_nar]
theorem e_isV {x : Int32} {post : Int32 → St → Prop} {σ : St} : wp_X9_isV x post σ = post (bi (-99 ≤ x ∧ x ≤ 99)) σ := by
  unfold wp_X9_isV
  rw [e_in (a := -99) (b := 99) (by decide) (by decide)]
  simp [bi_nar]
theorem e_isK {x : Int32} {post : Int32 → St → Prop} {σ : St} : wp_X9_isK x post σ = post (bi (0 ≤ x ∧ x ≤ 20)) σ := by
  unfold wp_X9_isK
  rw [e_in (a := 0) (b := 20) (by decide) (by decide)]
  simp [bi_nar]
theorem e_isCell {x : Int32} {post : Int32 → St → Prop} {σ : St} : wp_X9_isCell x post σ = post (bi (0 ≤ x ∧ x ≤ 35)) σ := by
  unfold wp_X9_isCell
  rw [e_in (a := 0) (b := 35) (by decide) (by decide)]
  simp [bi_nar]
