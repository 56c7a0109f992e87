/-! PURE: BEST -/
def Nab (N : Nat → Int32) (a b : Nat) : Nat → Int32 := fun k => if k = 0 then nI a else if k = 1 then nI b else N k
theorem Nab_NB {N : Nat → Int32} {a b : Nat} (h : NB N) (ha : a ≤ 20) (hb : b ≤ 20) : NB (Nab N a b) := by
  intro k hk
  unfold Nab
  by_cases h0 : k = 0
  · subst h0
    rw [if_pos rfl, nI_toInt (by omega)]
    have e1 : (tLeast.getD 0 0).toInt = 0 := by decide
    have e2 : (tMost.getD 0 0).toInt = 40 := by decide
    omega
  · by_cases h1 : k = 1
    · subst h1
      rw [if_neg (by decide), if_pos rfl, nI_toInt (by omega)]
      have e1 : (tLeast.getD 1 0).toInt = 0 := by decide
      have e2 : (tMost.getD 1 0).toInt = 40 := by decide
      omega
    · rw [if_neg h0, if_neg h1]
      exact h k hk
/-- sums upwards and downwards -/
def suF (g : Int → Nat) (lo : Int) : Nat → Nat
  | 0 => 0
  | n + 1 => suF g lo n + g (lo + n)
def sdF (g : Int → Nat) (hi : Int) : Nat → Nat
  | 0 => 0
  | n + 1 => sdF g hi n + g (hi - n)
theorem suF_front (g : Int → Nat) : ∀ (n : Nat) (lo : Int), suF g lo (n + 1) = g lo + suF g (lo + 1) n
  | 0, lo => by simp [suF]
  | n + 1, lo => by
    rw [suF, suF_front g n lo, suF]
    have e : lo + ((n + 1 : Nat) : Int) = lo + 1 + (n : Int) := by omega
    rw [e]
    omega
theorem sd_su (g : Int → Nat) : ∀ (n : Nat) (hi : Int), sdF g hi n = suF g (hi - n + 1) n
  | 0, hi => rfl
  | n + 1, hi => by
    rw [sdF, sd_su g n hi, suF_front]
    have e1 : hi - ((n + 1 : Nat) : Int) + 1 = hi - (n : Int) := by omega
    have e2 : hi - ((n + 1 : Nat) : Int) + 1 + 1 = hi - (n : Int) + 1 := by omega
    rw [e2, e1]
    omega
theorem sdF_le {g : Int → Nat} (hg : ∀ i, g i ≤ 400) (hi : Int) : ∀ n m : Nat, sdF g hi (n + m) ≤ sdF g hi n + 400 * m
  | n, 0 => by simp
  | n, m + 1 => by
    have h1 := sdF_le hg hi n m
    have h2 := hg (hi - ((n + m : Nat) : Int))
    show sdF g hi (n + m) + g (hi - ((n + m : Nat) : Int)) ≤ _
    omega
theorem suF_le {g : Int → Nat} (hg : ∀ i, g i ≤ 400) (lo : Int) : ∀ n : Nat, suF g lo n ≤ 400 * n
  | 0 => Nat.le_refl _
  | n + 1 => by
    have h1 := suF_le hg lo n
    have h2 := hg (lo + n)
    rw [suF]; omega
def totK (g : Int → Nat) (k : Nat) : Nat := suF g (-(k : Int)) (2 * k + 1)
theorem totK_sd (g : Int → Nat) (k : Nat) : totK g k = sdF g k (2 * k + 1) := by
  rw [sd_su]
  have e : (k : Int) - ((2 * k + 1 : Nat) : Int) + 1 = -(k : Int) := by omega
  rw [e]
  rfl
/-- the first of the best of rules 0 .. 440 -/
def BstIs (S : Nat → Nat) (j : Nat) : Prop := j < 441 ∧ (∀ i, i < 441 → S i ≤ S j) ∧ ∀ i, i < j → S i < S j
theorem BstIs.uni {S : Nat → Nat} {i j : Nat} (h : BstIs S i) (h' : BstIs S j) : i = j := by
  rcases Nat.lt_trichotomy i j with z | z | z
  · have := h'.2.2 i z
    have := h.2.1 j h'.1
    omega
  · exact z
  · have := h.2.2 j z
    have := h'.2.1 i h.1
    omega
/-- so far: nothing yet, or the first of the best below idx -/
def Cur (S : Nat → Nat) (idx : Nat) (b : Int32) (j : Nat) : Prop := (idx = 0 ∧ b = -1 ∧ j = 0) ∨ (j < idx ∧ b = nI (S j) ∧ (∀ i, i < idx → S i ≤ S j) ∧ ∀ i, i < j → S i < S j)
theorem sp_togetherC {σ : St} {N : Nat → Int32} {kd own lg x2 b : Int32} {th la ob k : Nat} {bI : Int} {post : Int32 → St → Prop} (hT : ThC σ th kd own lg ob) (hR : RuC σ 1 N la) (hk : k ≤ 4) (hx : x2 = nI k) (hb : b = iI bI) (hb1 : -1 ≤ bI) (hb2 : bI ≤ 10000) (h : ∀ (r : Nat) σ', r ≤ 10000 → (bI < (totK (Kz N kd own lg (agoS la kd ob)) k : Int) → r = totK (Kz N kd own lg (agoS la kd ob)) k) → ((totK (Kz N kd own lg (agoS la kd ob)) k : Int) ≤ bI → (r : Int) ≤ bI) → offK σ σ' → post (nI r) σ') : wp_X4_together th x2 b post σ := by
  subst hx; subst hb
  have hg : ∀ i, Kz N kd own lg (agoS la kd ob) i ≤ 400 := fun i => Kz_le
  have en : -nI k = iI (-(k : Int)) := by rw [← iI_nat, iI_neg (by omega) (by omega)]
  have loop : ∀ (n m : Nat) (σ1 : St), m + n = 2 * k + 1 → offK σ σ1 → wp_X4_together_14 th (nI k) (iI bI) post (n + 1) (nI (sdF (Kz N kd own lg (agoS la kd ob)) k m + 400 * n)) (iI ((k : Int) - m)) σ1 := by
    intro n
    induction n with
    | zero =>
      intro m σ1 e ho
      unfold wp_X4_together_14 wp_X4_together_53
      have em : m = 2 * k + 1 := by omega
      have hs := suF_le hg (-(k : Int)) (2 * k + 1)
      refine ⟨fun _ => h _ σ1 ?_ (fun _ => ?_) (fun hc => ?_) ho, fun hc => ?_⟩
      · rw [em, ← totK_sd]; unfold totK; omega
      · rw [em, ← totK_sd]; omega
      · rw [em, ← totK_sd]; omega
      · exfalso
        apply hc
        rw [en, iI_lt (by omega) (by omega) (by omega) (by omega)]
        omega
    | succ n ih =>
      intro m σ1 e ho
      have hsm := sdF_le hg k 0 m
      rw [Nat.zero_add] at hsm
      have hs0 : sdF (Kz N kd own lg (agoS la kd ob)) k 0 = 0 := rfl
      have htot : totK (Kz N kd own lg (agoS la kd ob)) k ≤ sdF (Kz N kd own lg (agoS la kd ob)) k m + 400 * (n + 1) := by
        rw [totK_sd, ← e]
        exact sdF_le hg k m (n + 1)
      unfold wp_X4_together_14 wp_X4_together_53
      refine ⟨fun hc => ?_, fun _ => ⟨fun hc => ?_, fun _ => ?_⟩⟩
      · exfalso
        rw [en, iI_lt (by omega) (by omega) (by omega) (by omega)] at hc
        omega
      · rw [← iI_nat, iI_le (by omega) (by omega) (by omega) (by omega)] at hc
        refine h _ σ1 (by omega) (fun hz => ?_) (fun _ => hc) ho
        omega
      · refine sp_lastsC (hT.off ho) (hR.off ho) (Nat.le_refl 400) rfl (fun σ2 ho2 => ?_)
        have hK : lastF (fallS N kd own lg (agoS la kd ob) true (iI ((k : Int) - m)) 0) 400 0 = Kz N kd own lg (agoS la kd ob) ((k : Int) - m) := rfl
        have hKl := hg ((k : Int) - m)
        have e1 : nI (sdF (Kz N kd own lg (agoS la kd ob)) k m + 400 * (n + 1)) - (400 - nI (Kz N kd own lg (agoS la kd ob) ((k : Int) - m))) = nI (sdF (Kz N kd own lg (agoS la kd ob)) k (m + 1) + 400 * n) := by
          show nI _ - (nI 400 - nI _) = _
          rw [nI_sub_pos hKl, nI_sub_pos (by omega), sdF]
          congr 1
          omega
        have e2 : iI ((k : Int) - m) + (-1) = iI ((k : Int) - ((m + 1 : Nat) : Int)) := by
          rw [iI_pred (by omega) (by omega)]
          congr 1
          omega
        rw [hK, e1, e2]
        exact ih (m + 1) σ2 (by omega) (ho.trans ho2)
  unfold wp_X4_together
  refine ⟨2 * k + 1 + 1, ?_⟩
  have e0 : 400 * (2 * nI k + 1) = nI (sdF (Kz N kd own lg (agoS la kd ob)) k 0 + 400 * (2 * k + 1)) := by
    show nI 400 * (nI 2 * nI k + 1) = _
    rw [pk_mul, nI_1, pk_mul, show sdF (Kz N kd own lg (agoS la kd ob)) k 0 = 0 from rfl, Nat.zero_add]
  have e1 : nI k = iI ((k : Int) - ((0 : Nat) : Int)) := by
    rw [← iI_nat, show ((k : Int) - ((0 : Nat) : Int)) = (k : Int) by omega]
  rw [e0]
  have := loop (2 * k + 1) 0 σ (by omega) offK.rf
  rw [← e1] at this
  exact this
/-- the class: all rules in their order, till nothing can be better -/
def Ru2 (σ : St) (N : Nat → Int32) (la : Nat) : Prop := (∀ k, 2 ≤ k → k < 10 → σ 6 1 k = N k) ∧ N 2 = nI la ∧ la ≤ 6 ∧ NB N
def off2 (σ σ' : St) : Prop := ∀ c o k, ¬ ((c = 6 ∧ o = 1 ∧ k < 2) ∨ ((c = 13 ∨ c = 14) ∧ (o = 3 ∨ o = 4))) → σ' c o k = σ c o k
theorem off2.trans {a b c : St} (h1 : off2 a b) (h2 : off2 b c) : off2 a c := fun x y z h => (h2 x y z h).trans (h1 x y z h)
theorem Ru2.ab {σ σ' : St} {N : Nat → Int32} {la a b : Nat} (h : Ru2 σ N la) (ho : off2 σ σ') (ha : a ≤ 20) (hb : b ≤ 20) : RuC (su (su σ' 6 1 0 (nI a)) 6 1 1 (nI b)) 1 (Nab N a b) la := by
  obtain ⟨h1, h2, h3, h4⟩ := h
  refine ⟨fun k hk => ?_, ?_, h3, Nab_NB h4 ha hb⟩
  · unfold Nab
    by_cases k0 : k = 0
    · subst k0; rw [if_pos rfl, su_nk rfl, su_eq]
    · by_cases k1 : k = 1
      · subst k1; rw [if_neg (by decide), if_pos rfl, su_eq]
      · rw [if_neg k0, if_neg k1]
        have e : (su (su σ' 6 1 0 (nI a)) 6 1 1 (nI b)) 6 1 k = σ' 6 1 k := by simp [su, k0, k1]
        rw [e, ho 6 1 k (by omega)]
        exact h1 k (by omega) hk
  · unfold Nab
    rw [if_neg (by decide), if_neg (by decide)]
    exact h2
theorem ThC.off2 {σ σ' : St} {kd own lg : Int32} {th ob : Nat} (h : ThC σ th kd own lg ob) (ho : off2 σ σ') : ThC σ' th kd own lg ob := by
  have e : ∀ k, σ' 2 th k = σ 2 th k := fun k => ho 2 th k (by omega)
  unfold ThC
  simp only [e]
  exact h
def SxS (N : Nat → Int32) (kd own lg : Int32) (ago k : Nat) (r : Nat) : Nat := totK (Kz (Nab N (r / 21) (r % 21)) kd own lg ago) k
theorem SxS_le {N : Nat → Int32} {kd own lg : Int32} {ago k r : Nat} : SxS N kd own lg ago k r ≤ 400 * (2 * k + 1) := suF_le (fun _ => Kz_le) _ _
theorem Cur.fin {S : Nat → Nat} {idx j P : Nat} {b : Int32} (h : Cur S idx b j) (h0 : 0 < idx) (hi : idx ≤ 441) (hrest : ∀ i, idx ≤ i → i < 441 → S i ≤ S j) : BstIs S j ∧ b = nI (S j) := by
  rcases h with ⟨e, -⟩ | ⟨a1, a2, a3, a4⟩
  · omega
  · refine ⟨⟨by omega, fun i hi2 => ?_, a4⟩, a2⟩
    rcases Nat.lt_or_ge i idx with z | z
    · exact a3 i z
    · exact hrest i z hi2
theorem Cur.step_no {S : Nat → Nat} {idx j : Nat} {b : Int32} (h : Cur S idx b j) (hS : ∀ i, S i < 2 ^ 31) (hb : nI (S idx) ≤ b) : Cur S (idx + 1) b j := by
  rcases h with ⟨e, e2, -⟩ | ⟨a1, a2, a3, a4⟩
  · exfalso
    rw [e2, fa_le, nI_toInt (hS idx)] at hb
    have : (-1 : Int32).toInt = -1 := by decide
    omega
  · refine Or.inr ⟨by omega, a2, fun i hi => ?_, a4⟩
    by_cases hi2 : i = idx
    · subst hi2
      rw [a2, nI_leI (hS i) (hS j)] at hb
      exact hb
    · exact a3 i (by omega)
theorem Cur.step_yes {S : Nat → Nat} {idx j : Nat} {b : Int32} (h : Cur S idx b j) (hS : ∀ i, S i < 2 ^ 31) (hb : ¬ nI (S idx) ≤ b) : Cur S (idx + 1) (nI (S idx)) idx := by
  refine Or.inr ⟨by omega, rfl, fun i hi => ?_, fun i hi => ?_⟩
  · by_cases hi2 : i = idx
    · subst hi2; exact Nat.le_refl _
    · rcases h with ⟨e, -⟩ | ⟨a1, a2, a3, a4⟩
      · omega
      · rw [a2, nI_leI (hS idx) (hS j)] at hb
        have := a3 i (by omega)
        omega
  · rcases h with ⟨e, -⟩ | ⟨a1, a2, a3, a4⟩
    · omega
    · rw [a2, nI_leI (hS idx) (hS j)] at hb
      have := a3 i hi
      omega
theorem sp_bestC {σ : St} {N : Nat → Int32} {kd own lg x2 x3 : Int32} {th la ob k : Nat} {post : Int32 → St → Prop} (hT : ThC σ th kd own lg ob) (hR : Ru2 σ N la) (hk : k ≤ 4) (hx : x2 = nI k) (hx3 : x3 = 0 ∨ x3 = 1 ∨ x3 = 2) (h : ∀ (j : Nat) σ', BstIs (SxS N kd own lg (agoS la kd ob) k) j → off2 σ σ' → post (if x3 = 0 then nI (SxS N kd own lg (agoS la kd ob) k j) else if x3 = 1 then nI (j / 21) else nI (j % 21)) σ') : wp_X4_bestRule th x2 x3 post σ := by
  subst hx
  have hS : ∀ i, SxS N kd own lg (agoS la kd ob) k i < 2 ^ 31 := by
    intro i
    have := SxS_le (N := N) (kd := kd) (own := own) (lg := lg) (ago := agoS la kd ob) (k := k) (r := i)
    omega
  have ep : 400 * (2 * nI k + 1) = nI (400 * (2 * k + 1)) := by
    show nI 400 * (nI 2 * nI k + 1) = _
    rw [pk_mul, nI_1, pk_mul]
  have fin : ∀ (j : Nat) b σ1, BstIs (SxS N kd own lg (agoS la kd ob) k) j → b = nI (SxS N kd own lg (agoS la kd ob) k j) → off2 σ σ1 → wp_X4_bestRule_111 th (nI k) x3 post b (nI (j / 21)) (nI (j % 21)) σ1 := by
    intro j b σ1 hB hb ho
    have := h j σ1 hB ho
    unfold wp_X4_bestRule_111 wp_X4_bestRule_130
    rw [hb]
    rcases hx3 with e | e | e
    · subst e
      rw [if_pos rfl] at this
      exact ⟨fun hc => absurd rfl hc, fun _ => this⟩
    · subst e
      rw [if_neg (by decide), if_pos rfl] at this
      exact ⟨fun _ => ⟨fun hc => absurd rfl hc, fun _ => this⟩, fun hc => absurd hc (by decide)⟩
    · subst e
      rw [if_neg (by decide), if_neg (by decide)] at this
      exact ⟨fun _ => ⟨fun _ => this, fun hc => absurd hc (by decide)⟩, fun hc => absurd hc (by decide)⟩
  have done : ∀ idx (j : Nat) b σ1, idx ≤ 441 → Cur (SxS N kd own lg (agoS la kd ob) k) idx b j → off2 σ σ1 → nI (400 * (2 * k + 1)) ≤ b → wp_X4_bestRule_111 th (nI k) x3 post b (nI (j / 21)) (nI (j % 21)) σ1 := by
    intro idx j b σ1 hi hC ho hb
    have h0 : 0 < idx := by
      rcases hC with ⟨e, e2, -⟩ | ⟨a1, -⟩
      · exfalso
        rw [e2, fa_le, nI_toInt (by omega)] at hb
        have : (-1 : Int32).toInt = -1 := by decide
        omega
      · omega
    have hbj : 400 * (2 * k + 1) ≤ SxS N kd own lg (agoS la kd ob) k j := by
      rcases hC with ⟨e, e2, -⟩ | ⟨a1, a2, -⟩
      · omega
      · rw [a2, nI_leI (by omega) (hS j)] at hb
        exact hb
    obtain ⟨f1, f2⟩ := hC.fin (P := 0) h0 hi (fun i _ _ => Nat.le_trans SxS_le hbj)
    exact fin j b σ1 f1 f2 ho
  have outer : ∀ (n a j : Nat) b σ1, a + n = 21 → Cur (SxS N kd own lg (agoS la kd ob) k) (21 * a) b j → off2 σ σ1 → wp_X4_bestRule_23 th (nI k) x3 post (n + 1) b (nI (j / 21)) (nI (j % 21)) (nI (400 * (2 * k + 1))) (nI a) σ1 := by
    intro n
    induction n with
    | zero =>
      intro a j b σ1 e hC ho
      have ea : a = 21 := by omega
      subst ea
      unfold wp_X4_bestRule_23
      refine ⟨fun _ => ?_, fun hc => absurd (nI_lt (a := 20) (b := 21) (by decide) (by decide)) hc⟩
      obtain ⟨f1, f2⟩ := hC.fin (P := 0) (by decide) (Nat.le_refl _) (fun i i1 i2 => by omega)
      exact fin j b σ1 f1 f2 ho
    | succ n ih =>
      intro a j b σ1 e hC ho
      unfold wp_X4_bestRule_23
      refine ⟨fun hc => absurd hc (nI_nlt (a := 20) (b := a) (by omega) (by omega)), fun _ => ⟨fun hc => done _ j b σ1 (by omega) hC ho hc, fun _ => ?_⟩⟩
      have inner : ∀ (n2 bb j2 : Nat) b2 σ2, bb + n2 = 21 → Cur (SxS N kd own lg (agoS la kd ob) k) (21 * a + bb) b2 j2 → off2 σ σ2 → wp_X4_bestRule_40 th (nI k) x3 (fun y0 y1 y2 y3 y4 τ => wp_X4_bestRule_23 th (nI k) x3 post (n + 1) y0 y1 y2 y3 y4 τ) post (n2 + 1) b2 (nI (j2 / 21)) (nI (j2 % 21)) (nI (400 * (2 * k + 1))) (nI a) (nI bb) σ2 := by
        intro n2
        induction n2 with
        | zero =>
          intro bb j2 b2 σ2 e2 hC2 ho2
          have eb : bb = 21 := by omega
          subst eb
          unfold wp_X4_bestRule_40 wp_X4_bestRule_105
          refine ⟨fun _ => ?_, fun hc => absurd (nI_lt (a := 20) (b := 21) (by decide) (by decide)) hc⟩
          rw [nI_1]
          exact ih (a + 1) j2 b2 σ2 (by omega) (by rw [show 21 * (a + 1) = 21 * a + 21 by omega]; exact hC2) ho2
        | succ n2 ih2 =>
          intro bb j2 b2 σ2 e2 hC2 ho2
          unfold wp_X4_bestRule_40 wp_X4_bestRule_105 wp_X4_bestRule_99
          refine ⟨fun hc => absurd hc (nI_nlt (a := 20) (b := bb) (by omega) (by omega)), fun _ => ⟨fun hc => ?_, fun _ => ?_⟩⟩
          · rw [nI_1]
            have d := done _ j2 b2 σ2 (by omega) hC2 ho2 hc
            show wp_X4_bestRule_23 th (nI k) x3 post (n + 1) b2 (nI (j2 / 21)) (nI (j2 % 21)) (nI (400 * (2 * k + 1))) (nI (a + 1)) σ2
            unfold wp_X4_bestRule_23
            exact ⟨fun _ => d, fun _ => ⟨fun _ => d, fun hc2 => absurd hc hc2⟩⟩
          · have ho3 : off2 σ (su (su σ2 6 1 0 (nI a)) 6 1 1 (nI bb)) := by
              intro c o z hz
              have n0 : ¬ (c = 6 ∧ z = 0 ∧ o = 1) := by omega
              have n1 : ¬ (c = 6 ∧ z = 1 ∧ o = 1) := by omega
              rw [← ho2 c o z hz]
              simp [su, n0, n1]
            have hR3 := hR.ab ho2 (a := a) (b := bb) (by omega) (by omega)
            have hT3 := hT.off2 ho3
            have eS : totK (Kz (Nab N a bb) kd own lg (agoS la kd ob)) k = SxS N kd own lg (agoS la kd ob) k (21 * a + bb) := by
              unfold SxS
              rw [show (21 * a + bb) / 21 = a by omega, show (21 * a + bb) % 21 = bb by omega]
            obtain ⟨bI, hbI, hb1, hb2⟩ : ∃ bI : Int, b2 = iI bI ∧ -1 ≤ bI ∧ bI ≤ 10000 := by
              rcases hC2 with ⟨-, e3, -⟩ | ⟨-, e3, -⟩
              · exact ⟨-1, by rw [e3]; decide, by decide, by decide⟩
              · have := SxS_le (N := N) (kd := kd) (own := own) (lg := lg) (ago := agoS la kd ob) (k := k) (r := j2)
                exact ⟨(SxS N kd own lg (agoS la kd ob) k j2 : Int), by rw [e3, iI_nat], by omega, by omega⟩
            refine sp_togetherC hT3 hR3 hk rfl hbI hb1 hb2 (fun r σ4 hr r1 r2 ho4 => ?_)
            rw [eS] at r1 r2
            have ho5 : off2 σ σ4 := ho3.trans (fun c o z hz => ho4 c o z (by omega))
            have hle : (nI r ≤ b2 ↔ nI (SxS N kd own lg (agoS la kd ob) k (21 * a + bb)) ≤ b2) := by
              have h9 := SxS_le (N := N) (kd := kd) (own := own) (lg := lg) (ago := agoS la kd ob) (k := k) (r := 21 * a + bb)
              rw [hbI, ← iI_nat, ← iI_nat, iI_le (by omega) (by omega) (by omega) (by omega), iI_le (by omega) (by omega) (by omega) (by omega)]
              rcases Int.lt_or_le bI (SxS N kd own lg (agoS la kd ob) k (21 * a + bb) : Int) with z | z
              · rw [r1 z]
              · have := r2 z
                constructor <;> intro _ <;> omega
            rw [nI_1]
            refine ⟨fun hc => ?_, fun hc => ?_⟩
            · exact ih2 (bb + 1) j2 b2 σ4 (by omega) (hC2.step_no hS (hle.mp hc)) ho5
            · have hc2 : ¬ nI (SxS N kd own lg (agoS la kd ob) k (21 * a + bb)) ≤ b2 := fun z => hc (hle.mpr z)
              have hr2 : r = SxS N kd own lg (agoS la kd ob) k (21 * a + bb) := by
                apply r1
                rcases Int.lt_or_le bI (SxS N kd own lg (agoS la kd ob) k (21 * a + bb) : Int) with z | z
                · exact z
                · exfalso
                  apply hc2
                  have h9 := SxS_le (N := N) (kd := kd) (own := own) (lg := lg) (ago := agoS la kd ob) (k := k) (r := 21 * a + bb)
                  rw [hbI, ← iI_nat, iI_le (by omega) (by omega) (by omega) (by omega)]
                  exact z
              rw [hr2]
              have := ih2 (bb + 1) (21 * a + bb) _ σ4 (by omega) (hC2.step_yes hS hc2) ho5
              rw [show (21 * a + bb) / 21 = a by omega, show (21 * a + bb) % 21 = bb by omega] at this
              exact this
      exact ⟨22, inner 21 0 j b σ1 (by omega) hC ho⟩
  unfold wp_X4_bestRule
  rw [ep]
  exact ⟨22, outer 21 0 0 (-1) σ (by omega) (Or.inl ⟨rfl, rfl, rfl⟩) (fun _ _ _ _ => rfl)⟩
