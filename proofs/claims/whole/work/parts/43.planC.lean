/-! PLAN: the class's evenings -/
def dgS (w n i : Nat) : Nat := w / 4 ^ (n - 1 - i) % 4
theorem dgS_lt (w n i : Nat) : dgS w n i < 4 := Nat.mod_lt _ (by decide)
def tbS (N : Nat → Int32) (T : TS) (w n : Nat) : Nat → Nat → Nat → Option Nat
  | 0, _, s => some s
  | m + 1, i, s => if (T (dgS w n i)).2.2.1 = 0 then none else tbS N T w n m (i + 1) (s - gnS N T (dgS w n i) (s / 10))
theorem tbS_le {N : Nat → Int32} {T : TS} {w n : Nat} : ∀ m i s r, tbS N T w n m i s = some r → r ≤ s
  | 0, i, s, r, h => by
    rw [tbS] at h
    have := Option.some.inj h
    omega
  | m + 1, i, s, r, h => by
    rw [tbS] at h
    by_cases h0 : (T (dgS w n i)).2.2.1 = 0
    · rw [if_pos h0] at h
      exact absurd h (by simp)
    · rw [if_neg h0] at h
      have := tbS_le m _ _ r h
      omega
def fbS (N : Nat → Int32) (T : TS) (n s : Nat) : Nat → Option (Nat × Nat)
  | 0 => none
  | w + 1 => match tbS N T w n n 0 s with
    | none => fbS N T n s w
    | some r => match fbS N T n s w with
      | none => some (w, r)
      | some p => if p.2 ≤ r then some p else some (w, r)
theorem fbS_ok {N : Nat → Int32} {T : TS} {n s : Nat} : ∀ w p, fbS N T n s w = some p → p.1 < w ∧ p.2 ≤ s
  | 0, p, h => by
    rw [fbS] at h
    exact absurd h (by simp)
  | w + 1, p, h => by
    rw [fbS] at h
    cases ht : tbS N T w n n 0 s with
    | none =>
      rw [ht] at h
      have := fbS_ok w p h
      omega
    | some r =>
      have hr := tbS_le _ _ _ r ht
      rw [ht] at h
      cases hf : fbS N T n s w with
      | none =>
        rw [hf] at h
        have := Option.some.inj h
        subst this
        exact ⟨by simp, hr⟩
      | some p2 =>
        have h2 := fbS_ok w p2 hf
        rw [hf] at h
        dsimp only at h
        by_cases hp : p2.2 ≤ r
        · rw [if_pos hp] at h
          have := Option.some.inj h
          subst this
          omega
        · rw [if_neg hp] at h
          have := Option.some.inj h
          subst this
          exact ⟨by simp, hr⟩
theorem sp_thingOfC {σ : St} {w n i : Nat} {x0 x1 x2 : Int32} {post : Int32 → St → Prop} (hw : w < 2 ^ 31) (hn : n ≤ 5) (hi : i < n) (h0 : x0 = nI w) (h1 : x1 = nI n) (h2 : x2 = nI i) (h : post (nI (dgS w n i)) σ) : wp_X1_thingOf x0 x1 x2 post σ := by
  subst h0; subst h1; subst h2
  have loop : ∀ m j, j + m = n → i + 1 ≤ j → wp_X1_thingOf_7 (nI w) (nI n) (nI i) post (m + 1) (nI (w / 4 ^ (j - (i + 1)))) (nI j) σ := by
    intro m
    induction m with
    | zero =>
      intro j e hj
      have ej : j = n := by omega
      subst ej
      unfold wp_X1_thingOf_7
      have hl : w / 4 ^ (j - (i + 1)) < 2 ^ 31 := Nat.lt_of_le_of_lt (Nat.div_le_self _ _) hw
      have er := pk_rem (d := 4) hl (by decide) (by decide)
      refine ⟨fun _ => ?_, fun hc => absurd (nI_le (Nat.le_refl j) (by omega)) hc⟩
      rw [show (4 : Int32) = nI 4 from rfl, er]
      unfold dgS at h
      rw [show j - 1 - i = j - (i + 1) by omega] at h
      exact h
    | succ m ih =>
      intro j e hj
      unfold wp_X1_thingOf_7
      have hl : w / 4 ^ (j - (i + 1)) < 2 ^ 31 := Nat.lt_of_le_of_lt (Nat.div_le_self _ _) hw
      refine ⟨fun hc => absurd hc (nI_ge (a := j) (b := n) (by omega) (by omega)), fun _ => ?_⟩
      rw [show (4 : Int32) = nI 4 from rfl, pk_div hl (by decide) (by decide), nI_1, Nat.div_div_eq_div_mul, ← Nat.pow_succ, show (j - (i + 1)).succ = j + 1 - (i + 1) by omega]
      exact ih (j + 1) (by omega) (by omega)
  have l0 := loop (n - (i + 1)) (i + 1) (by omega) (Nat.le_refl _)
  rw [Nat.sub_self, Nat.pow_zero, Nat.div_one] at l0
  unfold wp_X1_thingOf
  rw [nI_1]
  exact ⟨_, l0⟩
def opN (o : Option Nat) : Int32 := match o with
  | none => -1
  | some r => nI r
theorem nI_m1 {a : Nat} (h : a < 2 ^ 31) : ¬ nI a = -1 := by
  intro z
  have : (nI a).toInt = (-1 : Int32).toInt := by rw [z]
  rw [nI_toInt h, show (-1 : Int32).toInt = -1 by decide] at this
  omega
theorem sp_behindC {σ : St} {N : Nat → Int32} {T : TS} {w n s : Nat} {x1 x2 x3 : Int32} {post : Int32 → St → Prop} (hL : ∀ j, j < 28 → σ 18 0 j = lrS N T (j / 7) (j % 7)) (hw : w < 2 ^ 31) (hn : n ≤ 5) (hs : s ≤ 60) (h1 : x1 = nI s) (h2 : x2 = nI w) (h3 : x3 = nI n) (h : post (opN (tbS N T w n n 0 s)) σ) : wp_X1_tenthsBehind x1 x2 x3 post σ := by
  subst h1; subst h2; subst h3
  have loop : ∀ m i r, i + m = n → r ≤ 60 → tbS N T w n n 0 s = tbS N T w n m i r → wp_X1_tenthsBehind_6 (nI s) (nI w) (nI n) post (m + 1) (nI r) (nI i) σ := by
    intro m
    induction m with
    | zero =>
      intro i r e hr ht
      have ei : i = n := by omega
      subst ei
      unfold wp_X1_tenthsBehind_6
      rw [ht] at h
      exact ⟨fun _ => h, fun hc => absurd (nI_le (Nat.le_refl i) (by omega)) hc⟩
    | succ m ih =>
      intro i r e hr ht
      unfold wp_X1_tenthsBehind_6
      refine ⟨fun hc => absurd hc (nI_ge (a := i) (b := n) (by omega) (by omega)), fun _ => ?_⟩
      refine sp_thingOfC hw hn (by omega) rfl rfl rfl ?_
      have hd := dgS_lt w n i
      rw [tbS] at ht
      generalize dgS w n i = d at hd ht ⊢
      have e10 : nI r / 10 = nI (r / 10) := pk_div (d := 10) (by omega) (by decide) (by decide)
      have e6 : (if nI (r / 10) < 6 then nI (r / 10) else 6) = nI (r / 10) := by
        by_cases h6 : r / 10 < 6
        · rw [if_pos (show nI (r / 10) < (6 : Int32) from nI_lt (b := 6) h6 (by decide))]
        · rw [show r / 10 = 6 by omega]
          decide
      have e7 : nI d * 7 + nI (r / 10) = nI (7 * d + r / 10) := by
        rw [show (7 : Int32) = nI 7 from rfl, pk_mul, nI_add, Nat.mul_comm]
      rw [e10, e6, e7, nI_clamp (by omega), hL _ (by omega), show (7 * d + r / 10) / 7 = d by omega, show (7 * d + r / 10) % 7 = r / 10 by omega, nI_1]
      refine ⟨pk_in (7 * d + r / 10) 28 (by omega), ?_⟩
      unfold lrS
      by_cases h0 : (T d).2.2.1 = 0
      · rw [if_pos h0] at ht ⊢
        rw [ht] at h
        exact ⟨fun hc => absurd rfl hc, fun _ => h⟩
      · rw [if_neg h0] at ht ⊢
        have hg := gnS_le N T d (r / 10)
        generalize gnS N T d (r / 10) = g at ht hg ⊢
        rw [back0 (by omega) (by omega)]
        exact ⟨fun _ => ih (i + 1) (r - g) (by omega) (by omega) ht, fun hc => absurd hc (nI_m1 (by omega))⟩
  exact ⟨n + 1, loop n 0 s (by omega) hs rfl⟩
def offE (σ σ' : St) : Prop := ∀ c o k, ¬ (c = 17 ∧ o = 0 ∧ k = 0) → σ' c o k = σ c o k
theorem sp_firstC {σ : St} {N : Nat → Int32} {T : TS} {n s : Nat} {x1 x2 : Int32} {post : Int32 → St → Prop} (hL : ∀ j, j < 28 → σ 18 0 j = lrS N T (j / 7) (j % 7)) (hn : n ≤ 5) (hs : s ≤ 60) (h1 : x1 = nI s) (h2 : x2 = nI n) (hp0 : ∀ σ', offE σ σ' → fbS N T n s (4 ^ n) = none → post (-1) σ') (hp1 : ∀ σ' p, offE σ σ' → fbS N T n s (4 ^ n) = some p → σ' 17 0 0 = nI p.2 → post (nI p.1) σ') : wp_X1_firstBest x1 x2 post σ := by
  subst h1; subst h2
  have h4 : 4 ^ n ≤ 1024 := Nat.le_trans (Nat.pow_le_pow_right (by decide) hn) (by decide)
  have loop : ∀ m w x σ1, w + m = 4 ^ n → offE σ σ1 → (fbS N T n s w = none ∧ x = -1 ∨ ∃ p, fbS N T n s w = some p ∧ x = nI p.1 ∧ σ1 17 0 0 = nI p.2) → wp_X1_firstBest_12 (nI s) (nI n) post (m + 1) x (nI (4 ^ n)) (nI w) σ1 := by
    intro m
    induction m with
    | zero =>
      intro w x σ1 e ho hx
      have ew : w = 4 ^ n := by omega
      subst ew
      unfold wp_X1_firstBest_12
      refine ⟨fun _ => ?_, fun hc => absurd (nI_le (Nat.le_refl (4 ^ n)) (by omega)) hc⟩
      rcases hx with ⟨a, b⟩ | ⟨p, a, b, c⟩
      · rw [b]; exact hp0 σ1 ho a
      · rw [b]; exact hp1 σ1 p ho a c
    | succ m ih =>
      intro w x σ1 e ho hx
      unfold wp_X1_firstBest_12 wp_X1_firstBest_49 wp_X1_firstBest_58
      refine ⟨fun hc => absurd hc (nI_ge (a := w) (b := 4 ^ n) (by omega) (by omega)), fun _ => ?_⟩
      refine sp_behindC (fun j hj => (ho 18 0 j (by omega)).trans (hL j hj)) (by omega) hn hs rfl rfl rfl ?_
      have ih' := fun y σ2 o2 => ih (w + 1) y σ2 (by omega) o2
      rw [nI_1]
      rw [fbS] at ih'
      cases ht : tbS N T w n n 0 s with
      | none =>
        rw [ht] at ih'
        exact ⟨fun _ => ih' x σ1 ho hx, fun hc => absurd rfl hc⟩
      | some r =>
        have hr := tbS_le _ _ _ r ht
        rw [ht] at ih'
        unfold opN
        dsimp only at ih' ⊢
        have o2 : offE σ (su σ1 17 0 0 (nI r)) := by
          intro c o k hc
          unfold su
          rw [if_neg (by omega)]
          exact ho c o k hc
        refine ⟨fun hc => absurd hc (nI_m1 (by omega)), fun _ => ?_⟩
        rcases hx with ⟨a, b⟩ | ⟨p, a, b, c⟩
        · rw [a] at ih'
          refine ⟨fun _ => ih' _ _ o2 (Or.inr ⟨(w, r), rfl, rfl, su_eq⟩), fun hc => absurd b hc⟩
        · rw [a] at ih'
          have hp := fbS_ok w p a
          dsimp only at ih'
          rw [c, nI_leI (by omega) (by omega)]
          refine ⟨fun hc => absurd (b.symm.trans hc) (nI_m1 (by omega)), fun _ => ⟨fun hc => ?_, fun hc => ?_⟩⟩
          · rw [if_pos hc] at ih'
            exact ih' _ _ ho (Or.inr ⟨p, rfl, b, c⟩)
          · rw [if_neg hc] at ih'
            exact ih' _ _ o2 (Or.inr ⟨(w, r), rfl, rfl, su_eq⟩)
  unfold wp_X1_firstBest
  refine sp_power (b := 4) (n := n) rfl rfl (by omega) ?_
  exact ⟨_, loop (4 ^ n) 0 (-1) σ (by omega) (fun _ _ _ _ => rfl) (Or.inl ⟨rfl, rfl⟩)⟩
