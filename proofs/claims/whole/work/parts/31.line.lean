/-! PURE: LINE -/
theorem iI_pred {i : Int} (h1 : -1000000 ≤ i) (h2 : i ≤ 1000000) : iI i + (-1) = iI (i - 1) := by
  have e : (-1 : Int32) = iI (-1) := by decide
  rw [e, iI_add h1 h2 (by decide) (by decide)]
  rfl
def allK (g : Int → Nat) (k : Nat) : Prop := ∀ i : Int, -(k : Int) ≤ i → i ≤ k → g i = 400
theorem sp_staysM {μ : St} {N : Nat → Int32} {kd own lg x1 : Int32} {la ob k : Nat} {post : Int32 → St → Prop} (hR : RuM μ N la) (hT : ThM μ kd own lg ob) (hk : k ≤ 20) (hx : x1 = nI k) (h1 : ∀ μ', allK (Kz N kd own lg (agoS la kd ob)) k → offR 0 μ μ' → post 1 μ') (h0 : ∀ μ', ¬ allK (Kz N kd own lg (agoS la kd ob)) k → offR 0 μ μ' → post 0 μ') : wp_X9_stays x1 post μ := by
  subst hx
  have stop : ∀ (n : Nat) (i : Int) (μ1 : St), -1000 ≤ i → i ≤ 1000 → offR 0 μ μ1 → ¬ allK (Kz N kd own lg (agoS la kd ob)) k → wp_X9_stays_5 (nI k) post (n + 1) 0 (iI i) μ1 := by
    intro n i μ1 _ _ ho hn
    unfold wp_X9_stays_5 wp_X9_stays_39
    exact ⟨fun _ => ⟨bool0, h0 μ1 hn ho⟩, fun _ => ⟨fun _ => ⟨bool0, h0 μ1 hn ho⟩, fun hc => absurd rfl hc⟩⟩
  have loop : ∀ (n : Nat) (i : Int) (μ1 : St), i + (n : Int) = (k : Int) + 1 → -(k : Int) ≤ i → offR 0 μ μ1 → (∀ j : Int, -(k : Int) ≤ j → j < i → Kz N kd own lg (agoS la kd ob) j = 400) → wp_X9_stays_5 (nI k) post (n + 2) 1 (iI i) μ1 := by
    intro n
    induction n with
    | zero =>
      intro i μ1 e hi ho hj
      unfold wp_X9_stays_5 wp_X9_stays_39
      refine ⟨fun _ => ⟨bool1, h1 μ1 (fun j j1 j2 => hj j j1 (by omega)) ho⟩, fun hc => ?_⟩
      exfalso
      apply hc
      rw [← iI_nat, iI_lt (by omega) (by omega) (by omega) (by omega)]
      omega
    | succ n ih =>
      intro i μ1 e hi ho hj
      unfold wp_X9_stays_5 wp_X9_stays_39 wp_X9_stays_32
      refine ⟨fun hc => ?_, fun _ => ⟨fun hc => absurd hc (by decide), fun _ => ?_⟩⟩
      · exfalso
        rw [← iI_nat, iI_lt (by omega) (by omega) (by omega) (by omega)] at hc
        omega
      · refine sp_lastsM (hR.off ho) (hT.off ho) (mi := true) (by decide) (fun μ2 ho2 => ?_)
        have e1 : iI i + 1 = iI (i + 1) := iI_add (j := 1) (by omega) (by omega) (by decide) (by decide)
        rw [e1]
        have hK : lastF (fallS N kd own lg (agoS la kd ob) true (iI i) 0) 400 0 = Kz N kd own lg (agoS la kd ob) i := rfl
        rw [hK]
        have hKl := Kz_le (N := N) (kd := kd) (own := own) (lg := lg) (ago := agoS la kd ob) (i := i)
        have e4 : nI (Kz N kd own lg (agoS la kd ob) i) = 400 ↔ Kz N kd own lg (agoS la kd ob) i = 400 := nI_eq (b := 400) (by omega) (by decide)
        rw [e4]
        refine ⟨fun hc => ?_, fun hc => ?_⟩
        · exact stop (n + 1) (i + 1) μ2 (by omega) (by omega) (ho.trans ho2) (fun z => hc (z i hi (by omega)))
        · refine ih (i + 1) μ2 (by omega) (by omega) (ho.trans ho2) (fun j j1 j2 => ?_)
          by_cases hji : j = i
          · rw [hji]; exact hc
          · exact hj j j1 (by omega)
  unfold wp_X9_stays
  refine ⟨2 * k + 1 + 2, ?_⟩
  have e : -nI k = iI (-(k : Int)) := by rw [← iI_nat, iI_neg (by omega) (by omega)]
  rw [e]
  exact loop (2 * k + 1) (-(k : Int)) μ (by omega) (by omega) offR.rf (fun j j1 j2 => by omega)
theorem ThC.own9 {σ : St} {th ob : Nat} {kd own lg : Int32} (hT : ThC σ th kd own lg ob) : ab own 9 := by
  rw [hT.2.2.2.1]
  exact (ab_nI (by have := hT.2.2.2.2.1; omega)).mono hT.2.2.2.2.1
theorem sp_isSteadyC {σ : St} {N : Nat → Int32} {kd own lg x2 : Int32} {th la ob k : Nat} {post : Int32 → St → Prop} (hT : ThC σ th kd own lg ob) (hR : RuC σ 1 N la) (hk : k ≤ 20) (hx : x2 = nI k) (h1 : ∀ σ', allK (Kz N kd own lg (agoS la kd ob)) k → offK σ σ' → post 1 σ') (h0 : ∀ σ', ¬ allK (Kz N kd own lg (agoS la kd ob)) k → offK σ σ' → post 0 σ') : wp_X4_isSteady th x2 post σ := by
  subst hx
  have hown := hT.own9
  have hlm := lm_in (N := N) (k := k)
  have loop : ∀ (n : Nat) (i : Int) (σ1 : St), lmS N k + (n : Int) = i + 1 → i ≤ k → offK σ σ1 → (∀ j : Int, i < j → j ≤ k → Kz N kd own lg (agoS la kd ob) j = 400) → wp_X4_isSteady_9 th (nI k) post (n + 1) (iI (lmS N k)) (iI i) σ1 := by
    intro n
    induction n with
    | zero =>
      intro i σ1 e hi ho hj
      unfold wp_X4_isSteady_9
      refine ⟨fun _ => h1 σ1 ?_ ho, fun hc => ?_⟩
      · exact lm_all (P := fun z => z = 400) hR.2.2.2 hown hk (fun j j1 j2 => hj j (by omega) j2)
      · exfalso
        apply hc
        rw [iI_lt (by omega) (by omega) (by omega) (by omega)]
        omega
    | succ n ih =>
      intro i σ1 e hi ho hj
      unfold wp_X4_isSteady_9
      refine ⟨fun hc => ?_, fun _ => ?_⟩
      · exfalso
        rw [iI_lt (by omega) (by omega) (by omega) (by omega)] at hc
        omega
      · refine sp_lastsC (hT.off ho) (hR.off ho) (Nat.le_refl 400) rfl (fun σ2 ho2 => ?_)
        have e1 : iI i + (-1) = iI (i - 1) := iI_pred (by omega) (by omega)
        rw [e1]
        have hK : lastF (fallS N kd own lg (agoS la kd ob) true (iI i) 0) 400 0 = Kz N kd own lg (agoS la kd ob) i := rfl
        rw [hK]
        have hKl := Kz_le (N := N) (kd := kd) (own := own) (lg := lg) (ago := agoS la kd ob) (i := i)
        have e4 : (400 : Int32) ≤ nI (Kz N kd own lg (agoS la kd ob) i) ↔ 400 ≤ Kz N kd own lg (agoS la kd ob) i := nI_leI (a := 400) (by decide) (by omega)
        rw [e4]
        refine ⟨fun hc => ?_, fun hc => ?_⟩
        · refine ih (i - 1) σ2 (by omega) (by omega) (ho.trans ho2) (fun j j1 j2 => ?_)
          by_cases hji : j = i
          · rw [hji]; omega
          · exact hj j (by omega) j2
        · exact h0 σ2 (fun z => hc (by rw [z i (by omega) hi]; exact Nat.le_refl _)) (ho.trans ho2)
  unfold wp_X4_isSteady
  rw [e_leftmost, hR.1 8 (by decide)]
  have e : (if N 8 = 0 then 0 else -nI k) = iI (lmS N k) := by
    unfold lmS
    split
    · rfl
    · rw [← iI_nat, iI_neg (by omega) (by omega)]
  rw [e, ← iI_nat]
  refine ⟨((k : Int) + 1 - lmS N k).toNat + 1, ?_⟩
  rw [iI_nat]
  exact loop _ k σ (by omega) (Int.le_refl _) offK.rf (fun j j1 j2 => by omega)
/-- what the reference may change besides its rows: the rule and the thing at hand -/
def offA (μ μ' : St) : Prop := ∀ c o k, ¬ (c = 0 ∧ 28 ≤ k ∧ k ≤ 34) → μ' c o k = μ c o k
def NumM (μ : St) (N : Nat → Int32) (la : Nat) : Prop := (∀ k, k < 10 → μ 0 0 (8 + k) = N k) ∧ N 2 = nI la ∧ la ≤ 6 ∧ NB N
def TgM (μ : St) (t : Nat) (kd own : Int32) (ob n : Nat) (h w : Nat → Int32) : Prop := μ 3 0 t = kd ∧ μ 4 0 t = own ∧ own = nI ob ∧ ob ≤ 9 ∧ μ 5 0 t = nI n ∧ n ≤ 4 ∧ (∀ i, i < n → μ 6 0 (8 * t + 2 * i) = h i ∧ μ 6 0 (8 * t + 2 * i + 1) = w i) ∧ LB h w n
theorem sums_congr {h w h' w' : Nat → Int32} : ∀ n, (∀ i, i < n → h i = h' i ∧ w i = w' i) → sqS h w n = sqS h' w' n ∧ moS h w n = moS h' w' n ∧ tlS h n = tlS h' n
  | 0, _ => ⟨rfl, rfl, rfl⟩
  | n + 1, hh => by
    obtain ⟨a, b, c⟩ := sums_congr n (fun i hi => hh i (by omega))
    obtain ⟨e1, e2⟩ := hh n (by omega)
    refine ⟨?_, ?_, ?_⟩
    · rw [sqS, sqS, a, e1, e2]
    · rw [moS, moS, b, e1, e2]
    · rw [tlS, tlS, c, e1]
theorem lg_congr {h w h' w' : Nat → Int32} {n : Nat} (hh : ∀ i, i < n → h i = h' i ∧ w i = w' i) : lgS h w n = lgS h' w' n := by
  obtain ⟨a, b, -⟩ := sums_congr n hh
  unfold lgS
  rw [a, b]
theorem LB_congr {h w h' w' : Nat → Int32} {n : Nat} (hh : ∀ i, i < n → h i = h' i ∧ w i = w' i) (hb : LB h' w' n) : LB h w n := by
  intro i hi
  obtain ⟨e1, e2⟩ := hh i hi
  rw [e1, e2]
  exact hb i hi
theorem sp_longM {μ : St} {t ob n : Nat} {kd own x : Int32} {h w : Nat → Int32} {post : Int32 → St → Prop} (hT : TgM μ t kd own ob n h w) (ht : t ≤ 3) (hx : x = nI t) (hp : post (lgS h w n) μ) : wp_X9_longOf x post μ := by
  obtain ⟨a1, a2, a3, a4, a5, a6, a7, a8⟩ := hT
  refine sp_longOfM ht a6 hx a5 (LB_congr a7 a8) ?_
  rw [lg_congr a7]
  exact hp
theorem sp_lookM {μ : St} {t ob n : Nat} {kd own x : Int32} {h w : Nat → Int32} {post : St → Prop} (hT : TgM μ t kd own ob n h w) (ht : t ≤ 3) (hx : x = nI t) (hp : post (su (su (su μ 0 0 32 kd) 0 0 33 own) 0 0 34 (lgS h w n))) : wp_X9_look x post μ := by
  have ec : x.toNatClampNeg = t := by rw [hx, nI_clamp (by omega)]
  have v1 : vp_in x 4 := by rw [hx]; exact vp_in_nI (by omega) (by decide)
  have hT0 := hT
  obtain ⟨a1, a2, a3, a4, a5, a6, a7, a8⟩ := hT0
  unfold wp_X9_look
  rw [ec, a1, a2]
  refine ⟨v1, v1, sp_longM (t := t) (kd := kd) (own := own) (ob := ob) ?_ ht hx hp⟩
  have e : ∀ c k, ¬ c = 0 → (su (su μ 0 0 32 kd) 0 0 33 own) c 0 k = μ c 0 k := by
    intro c k hc
    simp [su, hc]
  unfold TgM
  rw [e 3 _ (by decide), e 4 _ (by decide), e 5 _ (by decide)]
  refine ⟨a1, a2, a3, a4, a5, a6, fun i hi => ?_, a8⟩
  rw [e 6 _ (by decide), e 6 _ (by decide)]
  exact a7 i hi
theorem sp_asTold {μ : St} {t ob n la : Nat} {kd own x : Int32} {h w N : Nat → Int32} {post : St → Prop} (hN : NumM μ N la) (hT : TgM μ t kd own ob n h w) (ht : t ≤ 3) (hx : x = nI t) (hp : ∀ μ', offA μ μ' → RuM μ' N la → μ' 0 0 32 = kd → μ' 0 0 33 = own → μ' 0 0 34 = lgS h w n → post μ') : wp_X9_asTold x post μ := by
  obtain ⟨n1, n2, n3, n4⟩ := hN
  unfold wp_X9_asTold
  have e8 := n1 0 (by decide)
  have e9 := n1 1 (by decide)
  have e10 := n1 2 (by decide)
  have e17 := n1 9 (by decide)
  rw [show μ 0 0 8 = N 0 from e8, show μ 0 0 9 = N 1 from e9, show μ 0 0 10 = N 2 from e10, show μ 0 0 17 = N 9 from e17]
  have e : ∀ c k, ¬ c = 0 → (su (su (su (su μ 0 0 28 (N 0)) 0 0 29 (N 1)) 0 0 30 (N 2)) 0 0 31 (N 9)) c 0 k = μ c 0 k := by
    intro c k hc
    simp [su, hc]
  refine sp_lookM (t := t) (kd := kd) (own := own) (ob := ob) (n := n) (h := h) (w := w) ?_ ht hx ?_
  · obtain ⟨a1, a2, a3, a4, a5, a6, a7, a8⟩ := hT
    unfold TgM
    rw [e 3 _ (by decide), e 4 _ (by decide), e 5 _ (by decide)]
    refine ⟨a1, a2, a3, a4, a5, a6, fun i hi => ?_, a8⟩
    rw [e 6 _ (by decide), e 6 _ (by decide)]
    exact a7 i hi
  · refine hp _ ?_ ?_ ?_ ?_ ?_
    · intro c o k hk
      have hne : ∀ j, 28 ≤ j → j ≤ 34 → ¬ (c = 0 ∧ k = j ∧ o = 0) := fun j j1 j2 z => hk ⟨z.1, by omega, by omega⟩
      simp [su, hne 28, hne 29, hne 30, hne 31, hne 32, hne 33, hne 34]
    · have g3 := n1 3 (by decide)
      have g4 := n1 4 (by decide)
      have g5 := n1 5 (by decide)
      have g6 := n1 6 (by decide)
      have g7 := n1 7 (by decide)
      have g8 := n1 8 (by decide)
      unfold RuM
      simp [su, n2, n3, n4]
      exact ⟨g3, g4, g5, g6, g7, g8⟩
    · simp [su]
    · simp [su]
    · simp [su]
/-- LINE: the heights from which on all are steady -/
def LineIs (P : Nat → Prop) (r : Int32) : Prop := (∃ h : Nat, 1 ≤ h ∧ h ≤ 300 ∧ r = nI h ∧ (∀ j, h ≤ j → j ≤ 300 → P j) ∧ (h = 1 ∨ ¬ P (h - 1))) ∨ (r = -1 ∧ ¬ P 300)
theorem LineIs.uni {P : Nat → Prop} {r r' : Int32} (h : LineIs P r) (h' : LineIs P r') : r = r' := by
  rcases h with ⟨a, a1, a2, a3, a4, a5⟩ | ⟨a1, a2⟩ <;> rcases h' with ⟨b, b1, b2, b3, b4, b5⟩ | ⟨b1, b2⟩
  · have : a = b := by
      rcases Nat.lt_trichotomy a b with z | z | z
      · rcases b5 with e | e
        · omega
        · exact absurd (a4 (b - 1) (by omega) (by omega)) e
      · exact z
      · rcases a5 with e | e
        · omega
        · exact absurd (b4 (a - 1) (by omega) (by omega)) e
    rw [a3, b3, this]
  · exact absurd (a4 300 a2 (Nat.le_refl _)) b2
  · exact absurd (b4 300 b2 (Nat.le_refl _)) a2
  · rw [a1, b1]
theorem lg_one {h w : Nat → Int32} {n : Nat} (hn : 1 ≤ n) (hn2 : n ≤ 300) (e1 : h 0 = nI n) (e2 : w 0 = 1) : lgS h w 1 = nI n := by
  unfold lgS sqS moS sqS moS
  rw [if_neg (by decide), e1, e2]
  have z : ∀ a : Int32, 0 + a = a := fun a => Int32.zero_add a
  rw [z, z]
  show nI n * nI n * nI 1 / (nI n * nI 1) = nI n
  rw [pk_mul, pk_mul, pk_mul, Nat.mul_one, Nat.mul_one]
  have hq : n * n ≤ 90000 := by
    have := Nat.mul_le_mul hn2 hn2
    omega
  rw [pk_div (by omega) (by omega) (by omega), Nat.mul_div_cancel _ (by omega)]
/-- one height of the reference's LINE -/
theorem sp_lineM {μ : St} {N : Nat → Int32} {la k : Nat} {x1 : Int32} {post : Int32 → St → Prop} (hR : RuM μ N la) (h32 : μ 0 0 32 = 0) (h33 : μ 0 0 33 = 0) (hk : k ≤ 20) (hx : x1 = nI k) (hp : ∀ r μ', LineIs (fun j => allK (Kz N 0 0 (nI j) la) k) r → (∀ c o z, ¬ (c = 0 ∧ z = 34) → ¬ ((c = 8 ∧ z < 402) ∨ ((c = 9 ∨ c = 10 ∨ c = 11 ∨ c = 12) ∧ z = 0)) → μ' c o z = μ c o z) → post r μ') : ∃ nn, wp_X9_line_34 x1 post nn (-1) 1 300 μ := by
  have eago : agoS la 0 0 = la := by simp [agoS]
  have loop : ∀ (j : Nat) (fnd : Int32) (μ1 : St), j ≤ 300 → (∀ c o z, ¬ (c = 0 ∧ z = 34) → ¬ ((c = 8 ∧ z < 402) ∨ ((c = 9 ∨ c = 10 ∨ c = 11 ∨ c = 12) ∧ z = 0)) → μ1 c o z = μ c o z) → (∀ i, j < i → i ≤ 300 → allK (Kz N 0 0 (nI i) la) k) → (fnd = if j = 300 then -1 else nI (j + 1)) → wp_X9_line_34 x1 post (j + 2) fnd 1 (nI j) μ1 := by
    intro j
    induction j with
    | zero =>
      intro fnd μ1 hj hf ha hfn
      unfold wp_X9_line_34 wp_X9_line_72
      refine ⟨fun _ => hp fnd μ1 (Or.inl ⟨1, by decide, by decide, ?_, fun i i1 i2 => ha i (by omega) i2, Or.inl rfl⟩) hf, fun hc => absurd (nI_le (a := 0) (b := 0) (by decide) (by decide)) hc⟩
      rw [hfn]; rfl
    | succ j ih =>
      intro fnd μ1 hj hf ha hfn
      have e0 : ∀ z, ¬ z = 34 → μ1 0 0 z = μ 0 0 z := fun z hz => hf 0 0 z (fun q => hz q.2) (by omega)
      have hR1 : RuM (su μ1 0 0 34 (nI (j + 1))) N la := by
        have e1 : ∀ z, ¬ z = 34 → (su μ1 0 0 34 (nI (j + 1))) 0 0 z = μ 0 0 z := by
          intro z hz
          rw [← e0 z hz]
          simp [su, hz]
        unfold RuM
        rw [e1 28 (by decide), e1 29 (by decide), e1 30 (by decide), e1 31 (by decide), e1 11 (by decide), e1 12 (by decide), e1 13 (by decide), e1 14 (by decide), e1 15 (by decide), e1 16 (by decide)]
        exact hR
      have hT1 : ThM (su μ1 0 0 34 (nI (j + 1))) 0 0 (nI (j + 1)) 0 := by
        refine ⟨?_, ?_, su_eq, rfl, by decide, ?_⟩
        · rw [su_nk rfl, e0 32 (by decide), h32]
        · rw [su_nk rfl, e0 33 (by decide), h33]
        · exact nI_lt (a := 0) (b := j + 1) (by omega) (by omega)
      unfold wp_X9_line_34 wp_X9_line_72 wp_X9_line_65
      refine ⟨fun hc => absurd hc (nI_nle (by omega) (by omega)), fun _ => ⟨fun hc => absurd hc (by decide), fun _ => ?_⟩⟩
      have fr : ∀ μ2, offR 0 (su μ1 0 0 34 (nI (j + 1))) μ2 → ∀ c o z, ¬ (c = 0 ∧ z = 34) → ¬ ((c = 8 ∧ z < 402) ∨ ((c = 9 ∨ c = 10 ∨ c = 11 ∨ c = 12) ∧ z = 0)) → μ2 c o z = μ c o z := by
        intro μ2 ho c o z g1 g2
        rw [ho c o z (by omega), ← hf c o z g1 g2]
        have : ¬ (c = 0 ∧ z = 34 ∧ o = 0) := fun q => g1 ⟨q.1, q.2.1⟩
        simp [su, this]
      refine sp_staysM hR1 hT1 hk hx (fun μ2 hall ho => ?_) (fun μ2 hall ho => ?_)
      · rw [eago] at hall
        refine ⟨fun hc => absurd hc (by decide), fun _ => ?_⟩
        have e2 : nI (j + 1) + (-1) = nI j := pk_m1 j
        rw [e2]
        refine ih _ μ2 (by omega) (fr μ2 ho) (fun i i1 i2 => ?_) ?_
        · by_cases hi : i = j + 1
          · rw [hi]; exact hall
          · exact ha i (by omega) i2
        · rw [if_neg (by omega)]
      · rw [eago] at hall
        refine ⟨fun _ => ?_, fun hc => absurd rfl hc⟩
        have e2 : nI (j + 1) + (-1) = nI j := pk_m1 j
        rw [e2]
        have fin : post fnd μ2 := by
          refine hp fnd μ2 ?_ (fr μ2 ho)
          by_cases h3 : j + 1 = 300
          · refine Or.inr ⟨by rw [hfn, if_pos h3], by rw [← h3]; exact hall⟩
          · refine Or.inl ⟨j + 2, by omega, by omega, by rw [hfn, if_neg h3], fun i i1 i2 => ha i (by omega) i2, Or.inr ?_⟩
            exact hall
        unfold wp_X9_line_34 wp_X9_line_72
        exact ⟨fun _ => fin, fun _ => ⟨fun _ => fin, fun hc => absurd rfl hc⟩⟩
  refine ⟨302, loop 300 (-1) μ (Nat.le_refl _) (fun _ _ _ _ _ => rfl) (fun i i1 i2 => by omega) rfl⟩
