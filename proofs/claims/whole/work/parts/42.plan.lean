/-! PLAN: what one evening with a thing teaches; the class's table -/
abbrev TS := Nat → Int32 × Nat × Nat × (Nat → Int32) × (Nat → Int32)
def tlg (T : TS) (t : Nat) : Int32 := lgS (T t).2.2.2.1 (T t).2.2.2.2 (T t).2.2.1
def TsC (σ : St) (T : TS) : Prop := ∀ t, t < 4 → σ 2 t 0 = (T t).1 ∧ σ 2 t 1 = nI (T t).2.1 ∧ (T t).2.1 ≤ 9 ∧ σ 2 t 3 = tlg T t ∧ (T t).2.2.1 ≤ 4 ∧ LB (T t).2.2.2.1 (T t).2.2.2.2 (T t).2.2.1
def TsM (μ : St) (T : TS) : Prop := ∀ t, t < 4 → TgM μ t (T t).1 (nI (T t).2.1) (T t).2.1 (T t).2.2.1 (T t).2.2.2.1 (T t).2.2.2.2
def Nla (N : Nat → Int32) (s : Nat) : Nat → Int32 := fun k => if k = 2 then nI s else N k
theorem Nla_NB {N : Nat → Int32} {s : Nat} (h : NB N) (hs : s ≤ 6) : NB (Nla N s) := by
  intro k hk
  unfold Nla
  by_cases h0 : k = 2
  · subst h0
    rw [if_pos rfl, nI_toInt (by omega)]
    have e1 : (tLeast.getD 2 0).toInt = 0 := by decide
    have e2 : (tMost.getD 2 0).toInt = 6 := by decide
    omega
  · rw [if_neg h0]
    exact h k hk
def holB (N : Nat → Int32) (T : TS) (t la : Nat) : Bool := decide (40 ≤ lastF (fallS (Nla N la) (T t).1 (nI (T t).2.1) (tlg T t) (agoS la (T t).1 (T t).2.1) true 10 0) 40 0)
def gnS (N : Nat → Int32) (T : TS) (t la : Nat) : Nat := if holB N T t la = true then (if 1 < 200 / ((tlg T t).toInt.toNat + 20) then 200 / ((tlg T t).toInt.toNat + 20) else 1) else 0
def lrS (N : Nat → Int32) (T : TS) (t la : Nat) : Int32 := if (T t).2.2.1 = 0 then -1 else nI (gnS N T t la)
theorem gnS_le (N : Nat → Int32) (T : TS) (t la : Nat) : gnS N T t la ≤ 200 := by
  unfold gnS
  have := Nat.div_le_self 200 ((tlg T t).toInt.toNat + 20)
  split
  · split <;> omega
  · omega
theorem last_two (F : Nat → Bool) : ∀ n m t, (t + n ≤ lastF F n t ↔ t + n ≤ lastF F (n + m) t)
  | 0, m, t => by
    have := (lastF_bounds (F := F) (0 + m) t).1
    have h2 : lastF F 0 t = t := rfl
    omega
  | n + 1, m, t => by
    have h := last_two F n m (t + 1)
    rw [show n + 1 + m = (n + m) + 1 by omega, lastF, lastF]
    by_cases hf : F t = true
    · rw [if_pos hf, if_pos hf]
    · rw [if_neg hf, if_neg hf]
      omega
theorem tl_pos {T : TS} {t : Nat} (h0 : ¬ (T t).2.2.1 = 0) (h4 : (T t).2.2.1 ≤ 4) (hb : LB (T t).2.2.2.1 (T t).2.2.2.2 (T t).2.2.1) : 1 ≤ (tlg T t).toInt ∧ (tlg T t).toInt ≤ 35640000 := lg_pos (by omega) h4 hb
theorem tl_gain {T : TS} {t : Nat} (h : 1 ≤ (tlg T t).toInt ∧ (tlg T t).toInt ≤ 35640000) : tlg T t + 20 = nI ((tlg T t).toInt.toNat + 20) ∧ 200 / (tlg T t + 20) = nI (200 / ((tlg T t).toInt.toNat + 20)) ∧ ¬ tlg T t + 20 = 0 := by
  have e : tlg T t = nI (tlg T t).toInt.toNat := by
    rw [fa_eq, nI_toInt (by omega)]
    omega
  generalize hL : (tlg T t).toInt.toNat = L at e ⊢
  have hL2 : L ≤ 35640000 := by omega
  have e1 : tlg T t + 20 = nI (L + 20) := by
    rw [e, show (20 : Int32) = nI 20 from rfl, nI_add]
  refine ⟨e1, ?_, ?_⟩
  · rw [e1, show (200 : Int32) = nI 200 from rfl, pk_div (by decide) (by omega) (by omega)]
  · rw [e1]
    intro z
    have := nI_ge (a := 0) (b := L + 20) (by omega) (by omega)
    rw [z] at this
    exact this (nI_le (Nat.le_refl 0) (by decide))
theorem sp_lessonC {σ : St} {N : Nat → Int32} {T : TS} {t la : Nat} {post : Int32 → St → Prop} (hT : TsC σ T) (hR : RuC σ 1 (Nla N la) la) (ht : t < 4) (h : ∀ σ', offK σ σ' → post (lrS N T t la) σ') : wp_X1_lesson t post σ := by
  obtain ⟨a1, a2, a3, a4, a5, a6⟩ := hT t ht
  unfold wp_X1_lesson
  rw [a4]
  by_cases h0 : (T t).2.2.1 = 0
  · have e1 : tlg T t = -1 := by unfold tlg lgS; rw [if_pos h0]
    have hh := h σ (fun _ _ _ _ => rfl)
    unfold lrS at hh
    rw [if_pos h0] at hh
    rw [e1]
    exact ⟨fun hc => absurd hc (by decide), fun _ => hh⟩
  · have hp := tl_pos h0 a5 a6
    obtain ⟨g1, g2, g3⟩ := tl_gain hp
    have h0l : (0 : Int32) < tlg T t := by
      rw [fa_lt, show (0 : Int32).toInt = 0 from rfl]
      omega
    refine ⟨fun _ => ?_, fun hc => absurd h0l hc⟩
    refine sp_lastsC ⟨a1, a2, a4, rfl, a3, h0l⟩ hR (most := 40) (by decide) rfl (fun σ1 o1 => ?_)
    have hh := h σ1 o1
    have e3 : σ1 2 t 3 = tlg T t := by rw [o1 2 t 3 (by omega)]; exact a4
    rw [e3]
    have hb := (lastF_bounds (F := fallS (Nla N la) (T t).1 (nI (T t).2.1) (tlg T t) (agoS la (T t).1 (T t).2.1) true 10 0) 40 0).2
    unfold lrS gnS holB at hh
    rw [if_neg h0] at hh
    generalize lastF (fallS (Nla N la) (T t).1 (nI (T t).2.1) (tlg T t) (agoS la (T t).1 (T t).2.1) true 10 0) 40 0 = l at hh hb ⊢
    have hl : (40 : Int32) ≤ nI l ↔ 40 ≤ l := nI_leI (a := 40) (by decide) (by omega)
    rw [hl]
    refine ⟨fun h4 => ⟨g3, ?_⟩, fun h4 => ?_⟩
    · rw [decide_eq_true h4, if_pos rfl] at hh
      rw [g2]
      have hq := Nat.div_le_self 200 ((tlg T t).toInt.toNat + 20)
      generalize 200 / ((tlg T t).toInt.toNat + 20) = k at hh hq ⊢
      have e1 : (1 : Int32) < nI k ↔ 1 < k := by
        rw [fa_lt, nI_toInt (by omega), show (1 : Int32).toInt = 1 from rfl]
        omega
      by_cases hk : 1 < k
      · rw [if_pos hk] at hh
        rw [if_pos (e1.mpr hk)]
        exact hh
      · rw [if_neg hk] at hh
        rw [if_neg (fun z => hk (e1.mp z))]
        exact hh
    · rw [decide_eq_false h4] at hh
      simp only [Bool.false_eq_true, if_false] at hh
      exact hh
def offL (σ σ' : St) : Prop := ∀ c o k, ¬ (((c = 13 ∨ c = 14) ∧ (o = 3 ∨ o = 4)) ∨ c = 18 ∨ (c = 6 ∧ o = 1 ∧ k = 2)) → σ' c o k = σ c o k
theorem offL.rf {a : St} : offL a a := fun _ _ _ _ => rfl
theorem offL.trans {a b c : St} (h1 : offL a b) (h2 : offL b c) : offL a c := fun x y z h => (h2 x y z h).trans (h1 x y z h)
theorem TsC.off {σ σ' : St} {T : TS} (h : TsC σ T) (ho : ∀ t, t < 4 → ∀ k, σ' 2 t k = σ 2 t k) : TsC σ' T := by
  intro t ht
  obtain ⟨a1, a2, a3, a4, a5, a6⟩ := h t ht
  exact ⟨(ho t ht 0).trans a1, (ho t ht 1).trans a2, a3, (ho t ht 3).trans a4, a5, a6⟩
theorem sp_tryAllC {σ : St} {N : Nat → Int32} {T : TS} {post : St → Prop} (hT : TsC σ T) (hR : ∀ k, k < 10 → ¬ k = 2 → σ 6 1 k = N k) (hN : NB N) (h : ∀ σ', offL σ σ' → (∀ j, j < 28 → σ' 18 0 j = lrS N T (j / 7) (j % 7)) → post σ') : wp_X1_tryAll post σ := by
  have inner : ∀ (t : Nat) (K2 : Int32 → St → Prop), t < 4 → (∀ σ1, offL σ σ1 → (∀ j, j < 7 * t + 7 → σ1 18 0 j = lrS N T (j / 7) (j % 7)) → K2 (nI (t + 1)) σ1) → ∀ m la σ1, la + m = 7 → offL σ σ1 → (∀ j, j < 7 * t + la → σ1 18 0 j = lrS N T (j / 7) (j % 7)) → wp_X1_tryAll_10 K2 post (m + 1) (nI t) (nI la) σ1 := by
    intro t K2 ht hk m
    induction m with
    | zero =>
      intro la σ1 e ho hj
      have e7 : la = 7 := by omega
      subst e7
      unfold wp_X1_tryAll_10
      rw [nI_1]
      exact ⟨fun _ => hk σ1 ho hj, fun hc => absurd (nI_le (a := 7) (b := 7) (by decide) (by decide)) hc⟩
    | succ m ih =>
      intro la σ1 e ho hj
      unfold wp_X1_tryAll_10
      refine ⟨fun hc => absurd hc (nI_ge (a := la) (b := 7) (by omega) (by decide)), fun _ => ⟨pk_in t 4 ht, ?_⟩⟩
      rw [nI_clamp (by omega)]
      have o2 : offL σ1 (su σ1 6 1 2 (nI la)) := by
        intro c o k hc
        unfold su
        rw [if_neg (by omega)]
      have hT2 : TsC (su σ1 6 1 2 (nI la)) T := hT.off (fun s _ k => (ho.trans o2) 2 s k (by omega))
      have hR2 : RuC (su σ1 6 1 2 (nI la)) 1 (Nla N la) la := by
        refine ⟨fun k hk => ?_, rfl, by omega, Nla_NB hN (by omega)⟩
        unfold Nla
        by_cases h2 : k = 2
        · subst h2
          rw [if_pos rfl, su_eq]
        · rw [if_neg h2, o2 6 1 k (by omega), ho 6 1 k (by omega)]
          exact hR k hk h2
      refine sp_lessonC hT2 hR2 ht (fun σ3 o3 => ?_)
      have ex : nI t * 7 + nI la = nI (7 * t + la) := by
        rw [show (7 : Int32) = nI 7 from rfl, pk_mul, nI_add, Nat.mul_comm]
      rw [ex]
      refine ⟨pk_in (7 * t + la) 28 (by omega), ?_⟩
      rw [nI_clamp (by omega), nI_1]
      have o4 : offL σ (su σ3 18 0 (7 * t + la) (lrS N T t la)) := by
        intro c o k hc
        unfold su
        rw [if_neg (by omega), o3 c o k (by omega), o2 c o k hc, ho c o k hc]
      refine ih (la + 1) _ (by omega) o4 (fun j hj2 => ?_)
      by_cases hjj : j = 7 * t + la
      · subst hjj
        rw [su_eq, show (7 * t + la) / 7 = t by omega, show (7 * t + la) % 7 = la by omega]
      · have : su σ3 18 0 (7 * t + la) (lrS N T t la) 18 0 j = σ3 18 0 j := by
          unfold su
          rw [if_neg (by omega)]
        rw [this, o3 18 0 j (by omega), su_nc rfl]
        exact hj j (by omega)
  have outer : ∀ m t σ1, t + m = 4 → offL σ σ1 → (∀ j, j < 7 * t → σ1 18 0 j = lrS N T (j / 7) (j % 7)) → wp_X1_tryAll_2 post (m + 1) (nI t) σ1 := by
    intro m
    induction m with
    | zero =>
      intro t σ1 e ho hj
      have e4 : t = 4 := by omega
      subst e4
      unfold wp_X1_tryAll_2
      exact ⟨fun _ => h σ1 ho hj, fun hc => absurd (nI_le (a := 4) (b := 4) (by decide) (by decide)) hc⟩
    | succ m ih =>
      intro t σ1 e ho hj
      unfold wp_X1_tryAll_2
      refine ⟨fun hc => absurd hc (nI_ge (a := t) (b := 4) (by omega) (by decide)), fun _ => ?_⟩
      exact ⟨8, inner t _ (by omega) (fun σ2 o2 hj2 => ih (t + 1) σ2 (by omega) o2 (fun j hjj => hj2 j (by omega))) 7 0 σ1 (by omega) ho (fun j hjj => hj j (by omega))⟩
  exact ⟨5, outer 4 0 σ (by omega) offL.rf (fun j hj => absurd hj (by omega))⟩
