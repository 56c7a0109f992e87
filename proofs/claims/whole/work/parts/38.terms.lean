/-! PURE: lowest terms, by 2 and 5 and by Euclid -/
theorem cop_2 {A : Nat} (h : ¬ A % 2 = 0) : Nat.Coprime A 2 := by
  unfold Nat.Coprime
  rw [Nat.gcd_comm, Nat.gcd_rec, show A % 2 = 1 by omega]
  decide
theorem cop_5 {A : Nat} (h : ¬ A % 5 = 0) : Nat.Coprime A 5 := by
  unfold Nat.Coprime
  rw [Nat.gcd_comm, Nat.gcd_rec]
  have : A % 5 = 1 ∨ A % 5 = 2 ∨ A % 5 = 3 ∨ A % 5 = 4 := by omega
  rcases this with e | e | e | e <;> rw [e] <;> decide
theorem sp_divisorM {μ : St} {a b : Nat} {x0 x1 : Int32} {post : Int32 → St → Prop} (ha : a < 2 ^ 31) (hb : b < 2 ^ 31) (hx0 : x0 = nI a) (hx1 : x1 = nI b) (h : post (nI (Nat.gcd a b)) μ) : wp_X9_divisor x0 x1 post μ := by
  subst hx0; subst hx1
  have loop : ∀ n u v, u < 2 ^ 31 → v < 2 ^ 31 → v ≤ n → Nat.gcd u v = Nat.gcd a b → wp_X9_divisor_4 (nI a) (nI b) post (n + 1) (nI u) (nI v) μ := by
    intro n
    induction n with
    | zero =>
      intro u v hu hv hn he
      have e : v = 0 := Nat.le_zero.mp hn
      subst e
      unfold wp_X9_divisor_4
      refine ⟨fun _ => ?_, fun hc => absurd rfl hc⟩
      rw [Nat.gcd_zero_right] at he
      rw [he]; exact h
    | succ n ih =>
      intro u v hu hv hn he
      unfold wp_X9_divisor_4
      have e0 : nI v = 0 ↔ v = 0 := nI_eq (b := 0) hv (by decide)
      rw [e0]
      refine ⟨fun hz => ?_, fun hz => ⟨hz, ?_⟩⟩
      · subst hz
        rw [Nat.gcd_zero_right] at he
        rw [he]; exact h
      · have hlt : u % v < v := Nat.mod_lt _ (by omega)
        rw [pk_rem hu (by omega) hv]
        refine ih v (u % v) hv (by omega) (by omega) ?_
        rw [← he, Nat.gcd_comm u v, Nat.gcd_rec v u, Nat.gcd_comm]
  exact ⟨b + 1, loop b a b ha hb (Nat.le_refl _) rfl⟩
theorem even_iff {A : Nat} (h : A < 2 ^ 31) : (nI A - nI A / 2 * 2 = 0 ↔ A % 2 = 0) ∧ nI A / 2 = nI (A / 2) := by
  refine ⟨?_, pk_div (d := 2) h (by decide) (by decide)⟩
  rw [show nI A - nI A / 2 * 2 = nI (A % 2) from pk_rem (d := 2) h (by decide) (by decide)]
  exact nI_eq (b := 0) (by omega) (by decide)
theorem five_iff {A : Nat} (h : A < 2 ^ 31) : (nI A - nI A / 5 * 5 = 0 ↔ A % 5 = 0) ∧ nI A / 5 = nI (A / 5) := by
  refine ⟨?_, pk_div (d := 5) h (by decide) (by decide)⟩
  rw [show nI A - nI A / 5 * 5 = nI (A % 5) from pk_rem (d := 5) h (by decide) (by decide)]
  exact nI_eq (b := 0) (by omega) (by decide)
/-- what the class has struck out so far -/
def LT (a n i A B : Nat) : Prop := ∃ e f, e ≤ i ∧ f ≤ i ∧ A * (2 ^ e * 5 ^ f) = a ∧ B = 2 ^ (n - e) * 5 ^ (n - f) ∧ (e < i → ¬ A % 2 = 0) ∧ (f < i → ¬ A % 5 = 0)
theorem LT_end {a n A B : Nat} (h : LT a n n A B) : A = a / Nat.gcd a (10 ^ n) ∧ B = 10 ^ n / Nat.gcd a (10 ^ n) ∧ 0 < Nat.gcd a (10 ^ n) := by
  obtain ⟨e, f, he, hf, hA, hB, h2, h5⟩ := h
  have e10 : 10 ^ n = B * (2 ^ e * 5 ^ f) := by
    rw [hB, show (10 : Nat) = 2 * 5 from rfl, Nat.mul_pow]
    have p2 : 2 ^ n = 2 ^ (n - e) * 2 ^ e := by rw [← Nat.pow_add, Nat.sub_add_cancel he]
    have p5 : 5 ^ n = 5 ^ (n - f) * 5 ^ f := by rw [← Nat.pow_add, Nat.sub_add_cancel hf]
    rw [p2, p5]
    simp only [Nat.mul_assoc, Nat.mul_left_comm, Nat.mul_comm]
  have c2 : Nat.Coprime A (2 ^ (n - e)) := by
    by_cases hz : e = n
    · rw [hz, Nat.sub_self]
      exact Nat.coprime_one_right A
    · exact Nat.Coprime.pow_right _ (cop_2 (h2 (by omega)))
  have c5 : Nat.Coprime A (5 ^ (n - f)) := by
    by_cases hz : f = n
    · rw [hz, Nat.sub_self]
      exact Nat.coprime_one_right A
    · exact Nat.Coprime.pow_right _ (cop_5 (h5 (by omega)))
  have cAB : Nat.gcd A B = 1 := by
    rw [hB]
    exact Nat.Coprime.mul_right c2 c5
  have hpos : 0 < 2 ^ e * 5 ^ f := Nat.mul_pos (Nat.pow_pos (by decide)) (Nat.pow_pos (by decide))
  have hg : Nat.gcd a (10 ^ n) = 2 ^ e * 5 ^ f := by
    rw [← hA, e10, Nat.gcd_mul_right, cAB, Nat.one_mul]
  rw [hg]
  refine ⟨?_, ?_, hpos⟩
  · rw [← hA, Nat.mul_div_cancel _ hpos]
  · rw [e10, Nat.mul_div_cancel _ hpos]
theorem pow_half {m : Nat} (b : Nat) (h : 0 < m) (hb : 0 < b) (X : Nat) : b ^ m * X / b = b ^ (m - 1) * X := by
  rw [show b ^ m = b ^ (m - 1) * b by rw [← Nat.pow_succ]; congr 1; omega]
  rw [Nat.mul_right_comm, Nat.mul_div_cancel _ hb]
theorem LT_two {a n i A B : Nat} (h : LT a n i A B) (hi : i < n) : (A % 2 = 0 → ∃ e f, e ≤ i + 1 ∧ f ≤ i ∧ (A / 2) * (2 ^ e * 5 ^ f) = a ∧ B / 2 = 2 ^ (n - e) * 5 ^ (n - f) ∧ (e < i + 1 → ¬ (A / 2) % 2 = 0) ∧ (f < i → ¬ (A / 2) % 5 = 0)) ∧ (¬ A % 2 = 0 → ∃ e f, e ≤ i + 1 ∧ f ≤ i ∧ A * (2 ^ e * 5 ^ f) = a ∧ B = 2 ^ (n - e) * 5 ^ (n - f) ∧ (e < i + 1 → ¬ A % 2 = 0) ∧ (f < i → ¬ A % 5 = 0)) := by
  obtain ⟨e, f, he, hf, hA, hB, h2, h5⟩ := h
  refine ⟨fun hz => ?_, fun hz => ⟨e, f, by omega, hf, hA, hB, fun _ => hz, h5⟩⟩
  have ee : e = i := by
    rcases Nat.lt_or_ge e i with z | z
    · exact absurd hz (h2 z)
    · omega
  refine ⟨e + 1, f, by omega, hf, ?_, ?_, fun hc => by omega, fun hc => ?_⟩
  · rw [← hA, Nat.pow_succ]
    have : A / 2 * 2 = A := by omega
    calc A / 2 * (2 ^ e * 2 * 5 ^ f) = A / 2 * 2 * (2 ^ e * 5 ^ f) := by simp only [Nat.mul_assoc, Nat.mul_left_comm, Nat.mul_comm]
      _ = A * (2 ^ e * 5 ^ f) := by rw [this]
  · rw [hB, pow_half 2 (by omega) (by decide)]
    congr 1
  · have := h5 hc
    omega
theorem LT_five {a n i A B : Nat} (hi : i < n) (h : ∃ e f, e ≤ i + 1 ∧ f ≤ i ∧ A * (2 ^ e * 5 ^ f) = a ∧ B = 2 ^ (n - e) * 5 ^ (n - f) ∧ (e < i + 1 → ¬ A % 2 = 0) ∧ (f < i → ¬ A % 5 = 0)) : (A % 5 = 0 → LT a n (i + 1) (A / 5) (B / 5)) ∧ (¬ A % 5 = 0 → LT a n (i + 1) A B) := by
  obtain ⟨e, f, he, hf, hA, hB, h2, h5⟩ := h
  refine ⟨fun hz => ?_, fun hz => ⟨e, f, he, by omega, hA, hB, h2, fun _ => hz⟩⟩
  have ee : f = i := by
    rcases Nat.lt_or_ge f i with z | z
    · exact absurd hz (h5 z)
    · omega
  refine ⟨e, f + 1, he, by omega, ?_, ?_, fun hc => ?_, fun hc => by omega⟩
  · rw [← hA, Nat.pow_succ]
    have : A / 5 * 5 = A := by omega
    calc A / 5 * (2 ^ e * (5 ^ f * 5)) = A / 5 * 5 * (2 ^ e * 5 ^ f) := by simp only [Nat.mul_assoc, Nat.mul_left_comm, Nat.mul_comm]
      _ = A * (2 ^ e * 5 ^ f) := by rw [this]
  · rw [hB, Nat.mul_comm, pow_half 5 (by omega) (by decide), Nat.mul_comm]
    congr 1
  · have := h2 hc
    omega
theorem sp_termsC {σ : St} {a n : Nat} {x0 x1 x2 : Int32} {post : Int32 → St → Prop} (hn : n ≤ 6) (ha : a ≤ 10 ^ n) (hx0 : x0 = nI a) (hx1 : x1 = nI n) (h : post (if x2 = 0 then nI (a / Nat.gcd a (10 ^ n)) else nI (10 ^ n / Nat.gcd a (10 ^ n))) σ) : wp_X8_lowestTerms x0 x1 x2 post σ := by
  subst hx0; subst hx1
  have h10 : 10 ^ n ≤ 1000000 := Nat.pow_le_pow_right (n := 10) (by decide) hn
  have loop : ∀ m i A B, i + m = n → A ≤ a → B ≤ 10 ^ n → LT a n i A B → wp_X8_lowestTerms_13 (nI a) (nI n) x2 post (m + 1) (nI A) (nI B) (nI i) σ := by
    intro m
    induction m with
    | zero =>
      intro i A B e hA hB hL
      have ei : i = n := by omega
      subst ei
      obtain ⟨e1, e2, -⟩ := LT_end hL
      unfold wp_X8_lowestTerms_13 wp_X8_lowestTerms_67
      refine ⟨fun _ => ⟨fun hc => ?_, fun hc => ?_⟩, fun hc => absurd (nI_le (Nat.le_refl i) (by omega)) hc⟩
      · rw [if_neg hc, ← e2] at h; exact h
      · rw [if_pos hc, ← e1] at h; exact h
    | succ m ih =>
      intro i A B e hA hB hL
      obtain ⟨g1, g2⟩ := even_iff (A := A) (by omega)
      obtain ⟨l1, l2⟩ := LT_two hL (by omega)
      have dB2 : nI B / 2 = nI (B / 2) := pk_div (d := 2) (by omega) (by decide) (by decide)
      have k35 : ∀ A B, A ≤ a → B ≤ 10 ^ n → (∃ e f, e ≤ i + 1 ∧ f ≤ i ∧ A * (2 ^ e * 5 ^ f) = a ∧ B = 2 ^ (n - e) * 5 ^ (n - f) ∧ (e < i + 1 → ¬ A % 2 = 0) ∧ (f < i → ¬ A % 5 = 0)) → wp_X8_lowestTerms_35 (nI a) (nI n) x2 (fun y0 y1 y2 τ => wp_X8_lowestTerms_13 (nI a) (nI n) x2 post (m + 1) y0 y1 y2 τ) post (nI A) (nI B) (nI i) σ := by
        intro A B hA hB hL
        obtain ⟨g1, g2⟩ := five_iff (A := A) (by omega)
        obtain ⟨l1, l2⟩ := LT_five (by omega) hL
        have dB5 : nI B / 5 = nI (B / 5) := pk_div (d := 5) (by omega) (by decide) (by decide)
        unfold wp_X8_lowestTerms_35 wp_X8_lowestTerms_51
        rw [g1, g2, dB5, nI_1]
        refine ⟨fun hc => ih (i + 1) A B (by omega) hA hB (l2 hc), fun hc => ih (i + 1) (A / 5) (B / 5) (by omega) (by omega) (by omega) (l1 hc)⟩
      unfold wp_X8_lowestTerms_13
      refine ⟨fun hc => absurd hc (nI_ge (a := i) (b := n) (by omega) (by omega)), fun _ => ?_⟩
      rw [g1, g2, dB2]
      exact ⟨fun hc => k35 A B hA hB (l2 hc), fun hc => k35 (A / 2) (B / 2) (by omega) (by omega) (l1 hc)⟩
  unfold wp_X8_lowestTerms
  refine sp_power (b := 10) (n := n) rfl rfl (by omega) ⟨n + 1, ?_⟩
  refine loop n 0 a (10 ^ n) (by omega) (Nat.le_refl _) (Nat.le_refl _) ⟨0, 0, Nat.le_refl _, Nat.le_refl _, by simp, ?_, fun hc => by omega, fun hc => by omega⟩
  rw [Nat.sub_zero, show (10 : Nat) = 2 * 5 from rfl, Nat.mul_pow]
