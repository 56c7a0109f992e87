/-! PURE: BEST of the reference -/
def RM2 (μ : St) (N : Nat → Int32) (la : Nat) : Prop := μ 0 0 30 = nI la ∧ μ 0 0 31 = N 9 ∧ μ 0 0 11 = N 3 ∧ μ 0 0 12 = N 4 ∧ μ 0 0 13 = N 5 ∧ μ 0 0 14 = N 6 ∧ μ 0 0 15 = N 7 ∧ μ 0 0 16 = N 8 ∧ N 2 = nI la ∧ la ≤ 6 ∧ NB N
def offM2 (μ μ' : St) : Prop := ∀ c o k, ¬ ((c = 0 ∧ 28 ≤ k ∧ k ≤ 29) ∨ (c = 8 ∧ k < 402) ∨ ((c = 9 ∨ c = 10 ∨ c = 11 ∨ c = 12) ∧ k = 0)) → μ' c o k = μ c o k
theorem offM2.trans {a b c : St} (h1 : offM2 a b) (h2 : offM2 b c) : offM2 a c := fun x y z h => (h2 x y z h).trans (h1 x y z h)
theorem RM2.ab {μ μ' : St} {N : Nat → Int32} {la a b : Nat} (h : RM2 μ N la) (ho : offM2 μ μ') (ha : a ≤ 20) (hb : b ≤ 20) (e28 : μ' 0 0 28 = nI a) (e29 : μ' 0 0 29 = nI b) : RuM μ' (Nab N a b) la := by
  obtain ⟨h30, h31, h11, h12, h13, h14, h15, h16, h2, h3, h4⟩ := h
  have e : ∀ k, (k < 28 ∨ 29 < k) → μ' 0 0 k = μ 0 0 k := fun k hk => ho 0 0 k (by omega)
  have g : ∀ k, 2 ≤ k → Nab N a b k = N k := by
    intro k hk
    unfold Nab
    rw [if_neg (by omega), if_neg (by omega)]
  unfold RuM
  rw [e28, e29, e 30 (by decide), e 31 (by decide), e 11 (by decide), e 12 (by decide), e 13 (by decide), e 14 (by decide), e 15 (by decide), e 16 (by decide), g 9 (by decide), g 3 (by decide), g 4 (by decide), g 5 (by decide), g 6 (by decide), g 7 (by decide), g 8 (by decide), g 2 (by decide)]
  exact ⟨rfl, rfl, h30, h31, h11, h12, h13, h14, h15, h16, h2, h3, Nab_NB h4 ha hb⟩
theorem ThM.offM2 {μ μ' : St} {kd own lg : Int32} {ob : Nat} (h : ThM μ kd own lg ob) (ho : offM2 μ μ') : ThM μ' kd own lg ob := by
  have e : ∀ k, 29 < k → μ' 0 0 k = μ 0 0 k := fun k hk => ho 0 0 k (by omega)
  unfold ThM
  rw [e 32 (by decide), e 33 (by decide), e 34 (by decide)]
  exact h
theorem offR.M2 {a b : St} (h : offR 0 a b) : offM2 a b := fun c o k hn => h c o k (by omega)
theorem sp_bestM {μ : St} {N : Nat → Int32} {kd own lg x1 x2 x3 : Int32} {la ob k : Nat} {post : Int32 → St → Prop} (hT : ThM μ kd own lg ob) (hR : RM2 μ N la) (hk : k ≤ 4) (hx : x2 = nI k) (hx3 : x3 = 0 ∨ x3 = 1 ∨ x3 = 2) (h : ∀ (j : Nat) μ', BstIs (SxS N kd own lg (agoS la kd ob) k) j → offM2 μ μ' → post (if x3 = 0 then nI (SxS N kd own lg (agoS la kd ob) k j) else if x3 = 1 then nI (j / 21) else nI (j % 21)) μ') : ∃ nn, wp_X9_best_63 x1 x2 x3 post nn (-1) 0 0 μ := by
  subst hx
  have hS : ∀ i, SxS N kd own lg (agoS la kd ob) k i < 2 ^ 31 := by
    intro i
    have := SxS_le (N := N) (kd := kd) (own := own) (lg := lg) (ago := agoS la kd ob) (k := k) (r := i)
    omega
  have en : -nI k = iI (-(k : Int)) := by rw [← iI_nat, iI_neg (by omega) (by omega)]
  have outer : ∀ (n r j : Nat) b μ1, r + n = 441 → Cur (SxS N kd own lg (agoS la kd ob) k) r b j → offM2 μ μ1 → wp_X9_best_63 x1 (nI k) x3 post (n + 1) b (nI j) (nI r) μ1 := by
    intro n
    induction n with
    | zero =>
      intro r j b μ1 e hC ho
      have er : r = 441 := by omega
      subst er
      obtain ⟨f1, f2⟩ := hC.fin (P := 0) (by decide) (Nat.le_refl _) (fun i i1 i2 => by omega)
      have := h j μ1 f1 ho
      have hj := f1.1
      have ed : nI j / 21 = nI (j / 21) := pk_div (d := 21) (by omega) (by decide) (by decide)
      have em : nI j - nI j / 21 * 21 = nI (j % 21) := pk_rem (d := 21) (by omega) (by decide) (by decide)
      unfold wp_X9_best_63 wp_X9_best_186
      rw [em, ed, f2]
      refine ⟨fun _ => ?_, fun hc => absurd (nI_le (a := 441) (b := 441) (by decide) (by decide)) hc⟩
      rcases hx3 with e3 | e3 | e3
      · subst e3
        rw [if_pos rfl] at this
        exact ⟨fun hc => absurd rfl hc, fun _ => this⟩
      · subst e3
        rw [if_neg (by decide), if_pos rfl] at this
        exact ⟨fun _ => ⟨fun hc => absurd rfl hc, fun _ => this⟩, fun hc => absurd hc (by decide)⟩
      · subst e3
        rw [if_neg (by decide), if_neg (by decide)] at this
        exact ⟨fun _ => ⟨fun _ => this, fun hc => absurd hc (by decide)⟩, fun hc => absurd hc (by decide)⟩
    | succ n ih =>
      intro r j b μ1 e hC ho
      have ed : nI r / 21 = nI (r / 21) := pk_div (d := 21) (by omega) (by decide) (by decide)
      have em : nI r - nI r / 21 * 21 = nI (r % 21) := pk_rem (d := 21) (by omega) (by decide) (by decide)
      unfold wp_X9_best_63
      refine ⟨fun hc => absurd hc (nI_ge (a := r) (b := 441) (by omega) (by decide)), fun _ => ?_⟩
      rw [em, ed]
      have ho2 : offM2 μ (su (su μ1 0 0 28 (nI (r / 21))) 0 0 29 (nI (r % 21))) := by
        intro c o z hz
        have n0 : ¬ (c = 0 ∧ z = 28 ∧ o = 0) := by omega
        have n1 : ¬ (c = 0 ∧ z = 29 ∧ o = 0) := by omega
        rw [← ho c o z hz]
        simp [su, n0, n1]
      have hr1 : r / 21 ≤ 20 := by omega
      have hr2 : r % 21 ≤ 20 := by omega
      have inner : ∀ (n2 m : Nat) μ2, m + n2 = 2 * k + 1 → offM2 μ μ2 → μ2 0 0 28 = nI (r / 21) → μ2 0 0 29 = nI (r % 21) → wp_X9_best_96 x1 (nI k) x3 (fun y0 y1 y2 τ => wp_X9_best_63 x1 (nI k) x3 post (n + 1) y0 y1 y2 τ) post (n2 + 1) b (nI j) (nI r) (nI (suF (Kz (Nab N (r / 21) (r % 21)) kd own lg (agoS la kd ob)) (-(k : Int)) m)) (iI (-(k : Int) + m)) μ2 := by
        intro n2
        induction n2 with
        | zero =>
          intro m μ2 e2 ho3 g28 g29
          have em2 : m = 2 * k + 1 := by omega
          subst em2
          unfold wp_X9_best_96 wp_X9_best_135 wp_X9_best_151
          refine ⟨fun _ => ?_, fun hc => ?_⟩
          · have eS : suF (Kz (Nab N (r / 21) (r % 21)) kd own lg (agoS la kd ob)) (-(k : Int)) (2 * k + 1) = SxS N kd own lg (agoS la kd ob) k r := rfl
            rw [eS, nI_1]
            refine ⟨fun hc => ⟨fun _ => ?_, fun hc2 => absurd hc hc2⟩, fun hc => ⟨fun hc2 => absurd hc2 hc, fun _ => ?_⟩⟩
            · exact ih (r + 1) j b μ2 (by omega) (hC.step_no hS hc) ho3
            · exact ih (r + 1) r _ μ2 (by omega) (hC.step_yes hS hc) ho3
          · exfalso
            apply hc
            rw [← iI_nat, iI_lt (by omega) (by omega) (by omega) (by omega)]
            omega
        | succ n2 ih2 =>
          intro m μ2 e2 ho3 g28 g29
          unfold wp_X9_best_96
          refine ⟨fun hc => ?_, fun _ => ?_⟩
          · exfalso
            rw [← iI_nat, iI_lt (by omega) (by omega) (by omega) (by omega)] at hc
            omega
          · refine sp_lastsM (hR.ab ho3 hr1 hr2 g28 g29) (hT.offM2 ho3) (mi := true) (by decide) (fun μ3 ho4 => ?_)
            have hK : lastF (fallS (Nab N (r / 21) (r % 21)) kd own lg (agoS la kd ob) true (iI (-(k : Int) + m)) 0) 400 0 = Kz (Nab N (r / 21) (r % 21)) kd own lg (agoS la kd ob) (-(k : Int) + m) := rfl
            have e1 : iI (-(k : Int) + m) + 1 = iI (-(k : Int) + ((m + 1 : Nat) : Int)) := by
              rw [show (1 : Int32) = iI 1 from rfl, iI_add (by omega) (by omega) (by decide) (by decide), show -(k : Int) + (m : Int) + 1 = -(k : Int) + ((m + 1 : Nat) : Int) by omega]
            rw [hK, nI_add, e1]
            refine ih2 (m + 1) μ3 (by omega) (ho3.trans ho4.M2) ?_ ?_
            · rw [ho4 0 0 28 (by omega), g28]
            · rw [ho4 0 0 29 (by omega), g29]
      refine ⟨2 * k + 1 + 1, ?_⟩
      have := inner (2 * k + 1) 0 _ (by omega) ho2 (by rw [su_nk rfl, su_eq]) (by rw [su_eq])
      rw [show (-(k : Int) + ((0 : Nat) : Int)) = -(k : Int) by omega, ← en] at this
      exact this
  exact ⟨442, outer 441 0 0 (-1) μ (by omega) (Or.inl ⟨rfl, rfl, rfl⟩) (fun _ _ _ _ => rfl)⟩
