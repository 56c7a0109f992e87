/-! PLAN: the reference's evenings -/
def offN (μ μ' : St) : Prop := ∀ c o k, ¬ ((c = 0 ∧ 28 ≤ k ∧ k ≤ 34) ∨ (c = 8 ∧ k < 402) ∨ ((c = 9 ∨ c = 10 ∨ c = 11 ∨ c = 12) ∧ k = 0) ∨ c = 16) → μ' c o k = μ c o k
theorem offN.rf {a : St} : offN a a := fun _ _ _ _ => rfl
theorem offN.trans {a b c : St} (h1 : offN a b) (h2 : offN b c) : offN a c := fun x y z h => (h2 x y z h).trans (h1 x y z h)
theorem TgM.offN {μ μ' : St} {t ob n : Nat} {kd own : Int32} {h w : Nat → Int32} (hT : TgM μ t kd own ob n h w) (ho : offN μ μ') : TgM μ' t kd own ob n h w := by
  obtain ⟨a1, a2, a3, a4, a5, a6, a7, a8⟩ := hT
  refine ⟨(ho 3 0 t (by omega)).trans a1, (ho 4 0 t (by omega)).trans a2, a3, a4, (ho 5 0 t (by omega)).trans a5, a6, fun i hi => ?_, a8⟩
  rw [ho 6 0 _ (by omega), ho 6 0 _ (by omega)]
  exact a7 i hi
theorem NumM.offN {μ μ' : St} {N : Nat → Int32} {la : Nat} (h : NumM μ N la) (ho : offN μ μ') : NumM μ' N la := by
  obtain ⟨a1, a2, a3, a4⟩ := h
  exact ⟨fun k hk => (ho 0 0 (8 + k) (by omega)).trans (a1 k hk), a2, a3, a4⟩
theorem TsM.offN {μ μ' : St} {T : TS} (h : TsM μ T) (ho : offN μ μ') : TsM μ' T := fun t ht => (h t ht).offN ho
theorem narB (p : Prop) [Decidable p] : vp_nar .boolean (bi p) = bi p := by
  unfold bi
  split <;> rfl
theorem hol400 (N : Nat → Int32) (T : TS) (t la : Nat) : holB N T t la = true ↔ 40 ≤ lastF (fallS (Nla N la) (T t).1 (nI (T t).2.1) (tlg T t) (agoS la (T t).1 (T t).2.1) true 10 0) 400 0 := by
  unfold holB
  have := last_two (fallS (Nla N la) (T t).1 (nI (T t).2.1) (tlg T t) (agoS la (T t).1 (T t).2.1) true 10 0) 40 360 0
  rw [Nat.zero_add, show 40 + 360 = 400 from rfl] at this
  rw [decide_eq_true_iff, this]
theorem sp_holdsM {μ : St} {N : Nat → Int32} {T : TS} {la : Nat} {post : St → Prop} (hT : TsM μ T) (hN : NumM μ N la) (h : ∀ μ', offN μ μ' → (∀ j, j < 28 → ¬ (T (j / 7)).2.2.1 = 0 → μ' 16 0 j = bi (holB N T (j / 7) (j % 7) = true)) → post μ') : wp_X9_layHolds post μ := by
  have loop : ∀ m i μ1, i + m = 28 → offN μ μ1 → (∀ j, j < i → ¬ (T (j / 7)).2.2.1 = 0 → μ1 16 0 j = bi (holB N T (j / 7) (j % 7) = true)) → wp_X9_layHolds_2 post (m + 1) (nI i) μ1 := by
    intro m
    induction m with
    | zero =>
      intro i μ1 e ho hj
      have ei : i = 28 := by omega
      subst ei
      unfold wp_X9_layHolds_2
      exact ⟨fun _ => h μ1 ho hj, fun hc => absurd (nI_le (a := 28) (b := 28) (by decide) (by decide)) hc⟩
    | succ m ih =>
      intro i μ1 e ho hj
      unfold wp_X9_layHolds_2 wp_X9_layHolds_58 wp_X9_layHolds_59
      have ed : nI i / 7 = nI (i / 7) := pk_div (d := 7) (by omega) (by decide) (by decide)
      have er : nI i - nI (i / 7) * 7 = nI (i % 7) := by
        rw [← ed]
        exact pk_rem (d := 7) (by omega) (by decide) (by decide)
      refine ⟨fun hc => absurd hc (nI_ge (a := i) (b := 28) (by omega) (by decide)), fun _ => ?_⟩
      have hTi := (hT (i / 7) (by omega)).offN ho
      rw [ed, er, nI_clamp (by omega), hTi.2.2.2.2.1, nI_1]
      refine ⟨pk_in (i / 7) 4 (by omega), fun hc => ?_, fun hc => ?_⟩
      · refine ih (i + 1) μ1 (by omega) ho (fun j hj2 hz => ?_)
        by_cases hji : j = i
        · subst hji
          exfalso
          have h4 := hTi.2.2.2.2.2.1
          have : (T (j / 7)).2.2.1 ≤ 0 := (nI_leI (b := 0) (by omega) (by decide)).mp hc
          omega
        · exact hj j (by omega) hz
      · have h4 := hTi.2.2.2.2.2.1
        have h0 : ¬ (T (i / 7)).2.2.1 = 0 := by
          intro z
          apply hc
          rw [z]
          exact nI_le (Nat.le_refl 0) (by decide)
        refine sp_asTold (hN.offN ho) hTi (by omega) rfl (fun μ2 o2 hR2 e32 e33 e34 => ?_)
        have hp := tl_pos h0 h4 hTi.2.2.2.2.2.2.2
        have h0l : (0 : Int32) < tlg T (i / 7) := by
          rw [fa_lt, show (0 : Int32).toInt = 0 from rfl]
          omega
        have hR3 : RuM (su μ2 0 0 30 (nI (i % 7))) (Nla N (i % 7)) (i % 7) := by
          obtain ⟨r1, r2, r3, r4, r5, r6, r7, r8, r9, r10, r11, r12, r13⟩ := hR2
          exact ⟨(su_nk rfl).trans r1, (su_nk rfl).trans r2, su_eq, (su_nk rfl).trans r4, (su_nk rfl).trans r5, (su_nk rfl).trans r6, (su_nk rfl).trans r7, (su_nk rfl).trans r8, (su_nk rfl).trans r9, (su_nk rfl).trans r10, rfl, by omega, Nla_NB r13 (by omega)⟩
        have hT3 : ThM (su μ2 0 0 30 (nI (i % 7))) (T (i / 7)).1 (nI (T (i / 7)).2.1) (tlg T (i / 7)) (T (i / 7)).2.1 :=
          ⟨(su_nk rfl).trans e32, (su_nk rfl).trans e33, (su_nk rfl).trans e34, rfl, hTi.2.2.2.1, h0l⟩
        refine sp_lastsM hR3 hT3 (mi := true) rfl (fun μ4 o4 => ?_)
        have hh := hol400 N T (i / 7) (i % 7)
        have hb := (lastF_bounds (F := fallS (Nla N (i % 7)) (T (i / 7)).1 (nI (T (i / 7)).2.1) (tlg T (i / 7)) (agoS (i % 7) (T (i / 7)).1 (T (i / 7)).2.1) true 10 0) 400 0).2
        generalize lastF (fallS (Nla N (i % 7)) (T (i / 7)).1 (nI (T (i / 7)).2.1) (tlg T (i / 7)) (agoS (i % 7) (T (i / 7)).1 (T (i / 7)).2.1) true 10 0) 400 0 = l at hh hb ⊢
        have hl : nI l ≤ 39 ↔ l ≤ 39 := nI_leI (b := 39) (by omega) (by decide)
        rw [hl, nI_clamp (by omega)]
        have go : ∀ v, v = bi (holB N T (i / 7) (i % 7) = true) → wp_X9_layHolds_2 post (m + 1) (nI (i + 1)) (su μ4 16 0 i v) := by
          intro v hv
          refine ih (i + 1) _ (by omega) ?_ (fun j hj2 hz => ?_)
          · intro c o k hc
            unfold su
            rw [if_neg (by omega), o4 c o k (by omega)]
            unfold su
            rw [if_neg (by omega), o2 c o k (by omega)]
            exact ho c o k hc
          · by_cases hji : j = i
            · subst hji
              rw [su_eq]
              exact hv
            · have e1 : su μ4 16 0 i v 16 0 j = μ4 16 0 j := by
                unfold su
                rw [if_neg (by omega)]
              rw [e1, o4 16 0 j (by omega), su_nc rfl, o2 16 0 j (by omega)]
              exact hj j (by omega) hz
        refine ⟨fun hc => ⟨pk_in i 28 (by omega), go _ ?_⟩, fun hc => ⟨pk_in i 28 (by omega), go _ ?_⟩⟩
        · rw [bi_f (fun z => by have := hh.mp z; omega)]
          rfl
        · rw [bi_t (hh.mpr (by omega))]
          rfl
  exact ⟨29, loop 28 0 μ (by omega) offN.rf (fun j hj => absurd hj (by omega))⟩
def opM (o : Option Nat) : Int32 := match o with
  | none => 268435456
  | some r => nI r
theorem sp_tenthsM {μ : St} {N : Nat → Int32} {T : TS} {w n la : Nat} {x1 x2 : Int32} {post : Int32 → St → Prop} (hT : TsM μ T) (hN : NumM μ N la) (hH : ∀ j, j < 28 → ¬ (T (j / 7)).2.2.1 = 0 → μ 16 0 j = bi (holB N T (j / 7) (j % 7) = true)) (hw : w < 2 ^ 31) (hn : n ≤ 5) (hn1 : 1 ≤ n) (h1 : x1 = nI w) (h2 : x2 = nI n) (h : post (opM (tbS N T w n n 0 (10 * la))) μ) : wp_X9_tenthsBy x1 x2 post μ := by
  subst h1; subst h2
  have hla := hN.2.2.1
  have h10 : 10 * μ 0 0 10 = nI (10 * la) := by
    rw [hN.1 2 (by decide), hN.2.1, show (10 : Int32) = nI 10 from rfl, pk_mul]
  have pw : ∀ k, k ≤ 4 → 4 ^ k ≤ 256 := fun k hk => Nat.le_trans (Nat.pow_le_pow_right (by decide) hk) (by decide)
  have loop : ∀ m i r, i + m = n → r ≤ 60 → tbS N T w n n 0 (10 * la) = tbS N T w n m i r → wp_X9_tenthsBy_35 (nI w) (nI n) post (m + 1) (nI r) (nI (4 ^ (n - 1 - i))) (nI i) μ := by
    intro m
    induction m with
    | zero =>
      intro i r e hr ht
      have ei : i = n := by omega
      subst ei
      unfold wp_X9_tenthsBy_35
      rw [ht] at h
      exact ⟨fun _ => h, fun hc => absurd (nI_le (Nat.le_refl i) (by omega)) hc⟩
    | succ m ih =>
      intro i r e hr ht
      unfold wp_X9_tenthsBy_35 wp_X9_tenthsBy_115 wp_X9_tenthsBy_126 wp_X9_tenthsBy_127 wp_X9_tenthsBy_138
      refine ⟨fun hc => absurd hc (nI_ge (a := i) (b := n) (by omega) (by omega)), fun _ => ?_⟩
      have hp1 := pw (n - 1 - i) (by omega)
      have hp0 : 0 < 4 ^ (n - 1 - i) := Nat.pow_pos (by decide)
      have hz : ¬ nI (4 ^ (n - 1 - i)) = 0 := by
        intro z
        have := nI_ge (a := 0) (b := 4 ^ (n - 1 - i)) hp0 (by omega)
        rw [z] at this
        exact this (nI_le (Nat.le_refl 0) (by decide))
      have hlt : w / 4 ^ (n - 1 - i) < 2 ^ 31 := Nat.lt_of_le_of_lt (Nat.div_le_self _ _) hw
      have ed : nI w / nI (4 ^ (n - 1 - i)) - nI w / nI (4 ^ (n - 1 - i)) / 4 * 4 = nI (dgS w n i) := by
        rw [pk_div hw hp0 (by omega)]
        exact pk_rem (d := 4) hlt (by decide) (by decide)
      have hd := dgS_lt w n i
      rw [tbS] at ht
      rw [ed]
      have nxt : ∀ r2, r2 ≤ 60 → tbS N T w n n 0 (10 * la) = tbS N T w n m (i + 1) r2 → (¬ nI (4 ^ (n - 1 - i)) / 4 = 0 → wp_X9_tenthsBy_35 (nI w) (nI n) post (m + 1) (nI r2) (nI (4 ^ (n - 1 - i)) / 4) (nI i + 1) μ) ∧ (nI (4 ^ (n - 1 - i)) / 4 = 0 → wp_X9_tenthsBy_35 (nI w) (nI n) post (m + 1) (nI r2) 1 (nI i + 1) μ) := by
        intro r2 hr2 ht2
        have nx := ih (i + 1) r2 (by omega) hr2 ht2
        rw [nI_1]
        rw [show nI (4 ^ (n - 1 - i)) / 4 = nI (4 ^ (n - 1 - i) / 4) from pk_div (d := 4) (by omega) (by decide) (by decide)]
        by_cases hl : i + 1 = n
        · rw [show n - 1 - i = 0 by omega]
          rw [show n - 1 - (i + 1) = 0 by omega] at nx
          exact ⟨fun hc => absurd (show nI (4 ^ 0 / 4) = 0 from rfl) hc, fun _ => nx⟩
        · have e4 : 4 ^ (n - 1 - i) / 4 = 4 ^ (n - 1 - (i + 1)) := by
            rw [show n - 1 - i = (n - 1 - (i + 1)) + 1 by omega, Nat.pow_succ, Nat.mul_div_cancel _ (by decide)]
          rw [e4]
          have hp2 := pw (n - 1 - (i + 1)) (by omega)
          refine ⟨fun _ => nx, fun z => ?_⟩
          exfalso
          have := nI_ge (a := 0) (b := 4 ^ (n - 1 - (i + 1))) (Nat.pow_pos (by decide)) (by omega)
          rw [z] at this
          exact this (nI_le (Nat.le_refl 0) (by decide))
      generalize dgS w n i = d at hd ht ⊢
      have hTd := hT d hd
      have h4 := hTd.2.2.2.2.2.1
      refine ⟨hz, pk_in d 4 hd, ?_⟩
      rw [nI_clamp (by omega), hTd.2.2.2.2.1]
      by_cases h0 : (T d).2.2.1 = 0
      · rw [if_pos h0] at ht
        rw [ht] at h
        rw [h0]
        exact ⟨fun hc => absurd rfl hc, fun _ => h⟩
      · rw [if_neg h0] at ht
        have hnz : ¬ nI (T d).2.2.1 = 0 := by
          intro z
          have := nI_ge (a := 0) (b := (T d).2.2.1) (by omega) (by omega)
          rw [z] at this
          exact this (nI_le (Nat.le_refl 0) (by decide))
        refine ⟨fun _ => ?_, fun hc => absurd hc hnz⟩
        refine sp_longM hTd (by omega) rfl ?_
        have hp := tl_pos h0 h4 hTd.2.2.2.2.2.2.2
        obtain ⟨g1, g2, g3⟩ := tl_gain hp
        have el : lgS (T d).2.2.2.1 (T d).2.2.2.2 (T d).2.2.1 = tlg T d := rfl
        have e10 : nI r / 10 = nI (r / 10) := pk_div (d := 10) (by omega) (by decide) (by decide)
        have e7 : 7 * nI d + nI (r / 10) = nI (7 * d + r / 10) := by
          rw [show (7 : Int32) = nI 7 from rfl, pk_mul, nI_add]
        have hh := hH (7 * d + r / 10) (by omega) (by rw [show (7 * d + r / 10) / 7 = d by omega]; exact h0)
        rw [show (7 * d + r / 10) / 7 = d by omega, show (7 * d + r / 10) % 7 = r / 10 by omega] at hh
        rw [el, e10, e7, nI_clamp (by omega), hh, g2]
        refine ⟨g3, pk_in (7 * d + r / 10) 28 (by omega), ?_⟩
        unfold gnS at ht
        rw [bi_0]
        have hq := Nat.div_le_self 200 ((tlg T d).toInt.toNat + 20)
        generalize 200 / ((tlg T d).toInt.toNat + 20) = g at ht hq ⊢
        refine ⟨fun hb => ?_, fun hb => ?_⟩
        · rw [if_neg hb, Nat.sub_zero] at ht
          exact nxt r hr ht
        · have hb' : holB N T d (r / 10) = true := Decidable.not_not.mp hb
          rw [if_pos hb'] at ht
          have sub : ∀ k, k ≤ 200 → tbS N T w n n 0 (10 * la) = tbS N T w n m (i + 1) (r - k) → (nI r - nI k ≤ 0 → (¬ nI (4 ^ (n - 1 - i)) / 4 = 0 → wp_X9_tenthsBy_35 (nI w) (nI n) post (m + 1) 0 (nI (4 ^ (n - 1 - i)) / 4) (nI i + 1) μ) ∧ (nI (4 ^ (n - 1 - i)) / 4 = 0 → wp_X9_tenthsBy_35 (nI w) (nI n) post (m + 1) 0 1 (nI i + 1) μ)) ∧ (¬ nI r - nI k ≤ 0 → (¬ nI (4 ^ (n - 1 - i)) / 4 = 0 → wp_X9_tenthsBy_35 (nI w) (nI n) post (m + 1) (nI r - nI k) (nI (4 ^ (n - 1 - i)) / 4) (nI i + 1) μ) ∧ (nI (4 ^ (n - 1 - i)) / 4 = 0 → wp_X9_tenthsBy_35 (nI w) (nI n) post (m + 1) (nI r - nI k) 1 (nI i + 1) μ)) := by
            intro k hk htk
            have nx := nxt (r - k) (by omega) htk
            rcases Nat.lt_or_ge k r with z | z
            · rw [nI_sub_pos (by omega)]
              refine ⟨fun hc => absurd hc (nI_ge (a := 0) (b := r - k) (by omega) (by omega)), fun _ => nx⟩
            · rw [show r - k = 0 by omega] at nx
              exact ⟨fun _ => nx, fun hc => absurd (nI_sub_le (a := r) (b := k) (by omega) (by omega) z) hc⟩
          have e1 : nI g ≤ 1 ↔ g ≤ 1 := nI_leI (b := 1) (by omega) (by decide)
          rw [e1]
          refine ⟨fun hg => ?_, fun hg => ?_⟩
          · rw [if_neg (by omega)] at ht
            exact sub 1 (by omega) ht
          · rw [if_pos (by omega)] at ht
            exact sub g (by omega) ht
  have outer : ∀ m j, j + m = n → 1 ≤ j → wp_X9_tenthsBy_14 (nI w) (nI n) post (m + 1) (nI (10 * la)) (nI (4 ^ (j - 1))) (nI j) μ := by
    intro m
    induction m with
    | zero =>
      intro j e hj
      have ej : j = n := by omega
      subst ej
      unfold wp_X9_tenthsBy_14
      exact ⟨fun _ => ⟨_, loop j 0 (10 * la) (by omega) (by omega) rfl⟩, fun hc => absurd (nI_le (Nat.le_refl j) (by omega)) hc⟩
    | succ m ih =>
      intro j e hj
      unfold wp_X9_tenthsBy_14
      refine ⟨fun hc => absurd hc (nI_ge (a := j) (b := n) (by omega) (by omega)), fun _ => ?_⟩
      rw [show (4 : Int32) = nI 4 from rfl, pk_mul, ← Nat.pow_succ, nI_1, show (j - 1).succ = j + 1 - 1 by omega]
      exact ih (j + 1) (by omega) (by omega)
  unfold wp_X9_tenthsBy
  rw [h10]
  exact ⟨_, outer (n - 1) 1 (by omega) (Nat.le_refl 1)⟩
