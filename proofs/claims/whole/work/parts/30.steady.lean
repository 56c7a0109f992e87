/-! PURE: STEADY, LINE -/
def iI (i : Int) : Int32 := Int32.ofInt i
theorem iI_toInt {i : Int} (h1 : -2147483648 ≤ i) (h2 : i < 2147483648) : (iI i).toInt = i := Int32.toInt_ofInt_of_le h1 h2
theorem iI_nat (n : Nat) : iI (n : Int) = nI n := rfl
theorem iI_of (x : Int32) : iI x.toInt = x := by
  apply i_ext
  rw [iI_toInt (i_lo x) (i_hi x)]
theorem iI_add {i j : Int} (h1 : -1000000 ≤ i) (h2 : i ≤ 1000000) (h3 : -1000000 ≤ j) (h4 : j ≤ 1000000) : iI i + iI j = iI (i + j) := by
  apply i_ext
  have e1 := iI_toInt (i := i) (by omega) (by omega)
  have e2 := iI_toInt (i := j) (by omega) (by omega)
  rw [iI_toInt (by omega) (by omega), i_add (by omega) (by omega), e1, e2]
theorem iI_neg {i : Int} (h1 : -1000000 ≤ i) (h2 : i ≤ 1000000) : -(iI i) = iI (-i) := by
  apply i_ext
  have e1 := iI_toInt (i := i) (by omega) (by omega)
  rw [iI_toInt (by omega) (by omega), i_neg (by omega), e1]
theorem iI_lt {i j : Int} (h1 : -1000000 ≤ i) (h2 : i ≤ 1000000) (h3 : -1000000 ≤ j) (h4 : j ≤ 1000000) : iI i < iI j ↔ i < j := by
  rw [fa_lt, iI_toInt (by omega) (by omega), iI_toInt (by omega) (by omega)]
theorem iI_le {i j : Int} (h1 : -1000000 ≤ i) (h2 : i ≤ 1000000) (h3 : -1000000 ≤ j) (h4 : j ≤ 1000000) : iI i ≤ iI j ↔ i ≤ j := by
  rw [fa_le, iI_toInt (by omega) (by omega), iI_toInt (by omega) (by omega)]
theorem ab_iI {i : Int} {A : Nat} (h : i.natAbs ≤ A) (hA : A < 2147483648) : ab (iI i) A := by
  unfold ab
  rw [iI_toInt (by omega) (by omega)]
  exact h
/-- KEPT from X = i, V = 0, minded -/
def Kz (N : Nat → Int32) (kd own lg : Int32) (ago : Nat) (i : Int) : Nat := lastF (fallS N kd own lg ago true (iI i) 0) 400 0
theorem Kz_le {N : Nat → Int32} {kd own lg : Int32} {ago : Nat} {i : Int} : Kz N kd own lg ago i ≤ 400 := by
  have := (lastF_bounds (F := fallS N kd own lg ago true (iI i) 0) 400 0).2
  unfold Kz
  omega
theorem Kz_neg {N : Nat → Int32} {kd own lg : Int32} {ago : Nat} {i : Int} (hN : NB N) (h8 : N 8 = 0) (ho : ab own 9) (hi : i.natAbs ≤ 1000) : Kz N kd own lg ago (-i) = Kz N kd own lg ago i := by
  unfold Kz
  rw [← iI_neg (by omega) (by omega)]
  exact (kept_neg hN h8 ho (ab_iI hi (by decide)) (by decide)).symm
def MinK (g : Int → Nat) (k : Nat) (m : Nat) : Prop := m ≤ 400 ∧ (∀ i : Int, -(k : Int) ≤ i → i ≤ k → m ≤ g i) ∧ (m = 400 ∨ ∃ i : Int, -(k : Int) ≤ i ∧ i ≤ k ∧ m = g i)
theorem MinK.uni {g : Int → Nat} {k m m' : Nat} (h : MinK g k m) (h' : MinK g k m') : m = m' := by
  obtain ⟨a1, a2, a3⟩ := h
  obtain ⟨b1, b2, b3⟩ := h'
  have c1 : m ≤ m' := by
    rcases b3 with e | ⟨i, i1, i2, e⟩
    · omega
    · rw [e]; exact a2 i i1 i2
  have c2 : m' ≤ m := by
    rcases a3 with e | ⟨i, i1, i2, e⟩
    · omega
    · rw [e]; exact b2 i i1 i2
  omega
theorem min_nI {a b : Nat} (ha : a < 2 ^ 31) (hb : b < 2 ^ 31) : (if nI a < nI b then nI a else nI b) = nI (min a b) := by
  by_cases h : a < b
  · rw [if_pos ((nI_ltI ha hb).mpr h), Nat.min_eq_left (by omega)]
  · rw [if_neg (fun z => h ((nI_ltI ha hb).mp z)), Nat.min_eq_right (by omega)]
theorem sp_leastM {μ : St} {N : Nat → Int32} {kd own lg x1 : Int32} {la ob k : Nat} {post : Int32 → St → Prop} (hR : RuM μ N la) (hT : ThM μ kd own lg ob) (hk : k ≤ 20) (hx : x1 = nI k) (h : ∀ m μ', MinK (Kz N kd own lg (agoS la kd ob)) k m → offR 0 μ μ' → post (nI m) μ') : wp_X9_least x1 post μ := by
  subst hx
  have loop : ∀ (n : Nat) (i : Int) (m : Nat) (μ1 : St), i + (n : Int) = (k : Int) + 1 → -(k : Int) ≤ i → offR 0 μ μ1 → m ≤ 400 → (∀ j : Int, -(k : Int) ≤ j → j < i → m ≤ Kz N kd own lg (agoS la kd ob) j) → (m = 400 ∨ ∃ j : Int, -(k : Int) ≤ j ∧ j < i ∧ m = Kz N kd own lg (agoS la kd ob) j) → wp_X9_least_7 (nI k) post (n + 1) (nI m) (iI i) μ1 := by
    intro n
    induction n with
    | zero =>
      intro i m μ1 e hi ho hm h1 h2
      unfold wp_X9_least_7 wp_X9_least_44
      refine ⟨fun _ => h m μ1 ⟨hm, fun j j1 j2 => h1 j j1 (by omega), ?_⟩ ho, fun hc => ?_⟩
      · rcases h2 with e2 | ⟨j, j1, j2, e2⟩
        · exact Or.inl e2
        · exact Or.inr ⟨j, j1, by omega, e2⟩
      · exfalso
        apply hc
        rw [← iI_nat, iI_lt (by omega) (by omega) (by omega) (by omega)]
        omega
    | succ n ih =>
      intro i m μ1 e hi ho hm h1 h2
      unfold wp_X9_least_7 wp_X9_least_44 wp_X9_least_37
      have hlt : i ≤ k := by omega
      refine ⟨fun hc => ?_, fun _ => ⟨fun hc => ?_, fun _ => ?_⟩⟩
      · exfalso
        rw [← iI_nat, iI_lt (by omega) (by omega) (by omega) (by omega)] at hc
        omega
      · have hm0 : m = 0 := by
          have := (nI_leI (a := m) (b := 0) (by omega) (by decide)).mp hc
          omega
        subst hm0
        refine h 0 μ1 ⟨Nat.zero_le _, fun j _ _ => Nat.zero_le _, ?_⟩ ho
        rcases h2 with e2 | ⟨j, j1, j2, e2⟩
        · omega
        · exact Or.inr ⟨j, j1, by omega, e2⟩
      · refine sp_lastsM (hR.off ho) (hT.off ho) (mi := true) (by decide) (fun μ2 ho2 => ?_)
        have e1 : iI i + 1 = iI (i + 1) := iI_add (j := 1) (by omega) (by omega) (by decide) (by decide)
        rw [e1]
        have hK : lastF (fallS N kd own lg (agoS la kd ob) true (iI i) 0) 400 0 = Kz N kd own lg (agoS la kd ob) i := rfl
        rw [hK]
        have hKl := Kz_le (N := N) (kd := kd) (own := own) (lg := lg) (ago := agoS la kd ob) (i := i)
        refine ⟨fun hc => ?_, fun hc => ?_⟩
        · rw [nI_leI (by omega) (by omega)] at hc
          refine ih (i + 1) m μ2 (by omega) (by omega) (ho.trans ho2) hm (fun j j1 j2 => ?_) ?_
          · by_cases hj : j = i
            · rw [hj]; exact hc
            · exact h1 j j1 (by omega)
          · rcases h2 with e2 | ⟨j, j1, j2, e2⟩
            · exact Or.inl e2
            · exact Or.inr ⟨j, j1, by omega, e2⟩
        · rw [nI_leI (by omega) (by omega)] at hc
          refine ih (i + 1) _ μ2 (by omega) (by omega) (ho.trans ho2) hKl (fun j j1 j2 => ?_) (Or.inr ⟨i, by omega, by omega, rfl⟩)
          by_cases hj : j = i
          · rw [hj]; exact Nat.le_refl _
          · have := h1 j j1 (by omega); omega
  unfold wp_X9_least
  refine ⟨2 * k + 1 + 1, ?_⟩
  have e : -nI k = iI (-(k : Int)) := by rw [← iI_nat, iI_neg (by omega) (by omega)]
  rw [e]
  exact loop (2 * k + 1) (-(k : Int)) 400 μ (by omega) (by omega) offR.rf (Nat.le_refl _) (fun j j1 j2 => by omega) (Or.inl rfl)
theorem e_leftmost {σ : St} {x : Int32} {post : Int32 → St → Prop} : wp_X4_leftmost x post σ = post (if σ 6 1 8 = 0 then 0 else -x) σ := by
  unfold wp_X4_leftmost wp_X4_leftmost_16
  by_cases h : σ 6 1 8 = 0 <;> simp [h]
/-- left of the leftmost nothing is new -/
def lmS (N : Nat → Int32) (k : Nat) : Int := if N 8 = 0 then 0 else -(k : Int)
theorem lm_all {N : Nat → Int32} {kd own lg : Int32} {ago k : Nat} {P : Nat → Prop} (hN : NB N) (ho : ab own 9) (hk : k ≤ 20) (h : ∀ i : Int, lmS N k ≤ i → i ≤ k → P (Kz N kd own lg ago i)) : ∀ i : Int, -(k : Int) ≤ i → i ≤ k → P (Kz N kd own lg ago i) := by
  intro i h1 h2
  unfold lmS at h
  by_cases h8 : N 8 = 0
  · rw [if_pos h8] at h
    by_cases hi : 0 ≤ i
    · exact h i hi h2
    · rw [← Kz_neg hN h8 ho (by omega)]
      exact h (-i) (by omega) (by omega)
  · rw [if_neg h8] at h
    exact h i h1 h2
theorem lm_in {N : Nat → Int32} {k : Nat} : -(k : Int) ≤ lmS N k ∧ lmS N k ≤ k := by
  unfold lmS
  split <;> omega
theorem sp_leastFromC {σ : St} {N : Nat → Int32} {kd own lg x2 : Int32} {th la ob k : Nat} {post : Int32 → St → Prop} (hT : ThC σ th kd own lg ob) (hR : RuC σ 1 N la) (hk : k ≤ 20) (hx : x2 = nI k) (h : ∀ m σ', MinK (Kz N kd own lg (agoS la kd ob)) k m → offK σ σ' → post (nI m) σ') : wp_X4_leastFrom th x2 post σ := by
  subst hx
  have hown : ab own 9 := by
    rw [hT.2.2.2.1]
    exact (ab_nI (by have := hT.2.2.2.2.1; omega)).mono hT.2.2.2.2.1
  have hlm := lm_in (N := N) (k := k)
  have loop : ∀ (n : Nat) (i : Int) (m : Nat) (σ1 : St), i + (n : Int) = (k : Int) + 1 → lmS N k ≤ i → offK σ σ1 → m ≤ 400 → (∀ j : Int, lmS N k ≤ j → j < i → m ≤ Kz N kd own lg (agoS la kd ob) j) → (m = 400 ∨ ∃ j : Int, lmS N k ≤ j ∧ j < i ∧ m = Kz N kd own lg (agoS la kd ob) j) → wp_X4_leastFrom_11 th (nI k) post (n + 1) (nI m) (iI i) σ1 := by
    intro n
    induction n with
    | zero =>
      intro i m σ1 e hi ho hm h1 h2
      unfold wp_X4_leastFrom_11
      refine ⟨fun _ => h m σ1 ⟨hm, ?_, ?_⟩ ho, fun hc => ?_⟩
      · exact lm_all (P := fun z => m ≤ z) hR.2.2.2 hown hk (fun j j1 j2 => h1 j j1 (by omega))
      · rcases h2 with e2 | ⟨j, j1, j2, e2⟩
        · exact Or.inl e2
        · exact Or.inr ⟨j, by omega, by omega, e2⟩
      · exfalso
        apply hc
        rw [← iI_nat, iI_lt (by omega) (by omega) (by omega) (by omega)]
        omega
    | succ n ih =>
      intro i m σ1 e hi ho hm h1 h2
      unfold wp_X4_leastFrom_11
      have hlt : i ≤ k := by omega
      refine ⟨fun hc => ?_, fun _ => ?_⟩
      · exfalso
        rw [← iI_nat, iI_lt (by omega) (by omega) (by omega) (by omega)] at hc
        omega
      · refine sp_lastsC (hT.off ho) (hR.off ho) (Nat.le_refl 400) rfl (fun σ2 ho2 => ?_)
        have e1 : iI i + 1 = iI (i + 1) := iI_add (j := 1) (by omega) (by omega) (by decide) (by decide)
        have hK : lastF (fallS N kd own lg (agoS la kd ob) true (iI i) 0) 400 0 = Kz N kd own lg (agoS la kd ob) i := rfl
        have hKl := Kz_le (N := N) (kd := kd) (own := own) (lg := lg) (ago := agoS la kd ob) (i := i)
        rw [e1, hK, min_nI (by omega) (by omega)]
        refine ih (i + 1) _ σ2 (by omega) (by omega) (ho.trans ho2) (by omega) (fun j j1 j2 => ?_) ?_
        · by_cases hj : j = i
          · rw [hj]; omega
          · have := h1 j j1 (by omega); omega
        · rcases Nat.lt_or_ge (Kz N kd own lg (agoS la kd ob) i) m with z | z
          · exact Or.inr ⟨i, hi, by omega, by omega⟩
          · rcases h2 with e2 | ⟨j, j1, j2, e2⟩
            · exact Or.inl (by omega)
            · exact Or.inr ⟨j, j1, by omega, by omega⟩
  unfold wp_X4_leastFrom
  rw [e_leftmost, hR.1 8 (by decide)]
  have e : (if N 8 = 0 then 0 else -nI k) = iI (lmS N k) := by
    unfold lmS
    split
    · rfl
    · rw [← iI_nat, iI_neg (by omega) (by omega)]
  rw [e]
  refine ⟨((k : Int) + 1 - lmS N k).toNat + 1, ?_⟩
  exact loop _ (lmS N k) 400 σ (by omega) (Int.le_refl _) offK.rf (Nat.le_refl _) (fun j j1 j2 => by omega) (Or.inl rfl)
