/-! PLAN: the reference's choice -/
def plS (N : Nat → Int32) (T : TS) (n la : Nat) (x2 : Int32) : Int32 := match fbS N T n (10 * la) (4 ^ n) with
  | none => -1
  | some p => if x2 = -1 then nI p.2 else nI (dgS p.1 n x2.toNatClampNeg)
theorem sp_planM {μ : St} {N : Nat → Int32} {T : TS} {n la : Nat} {x1 x2 : Int32} {post : Int32 → St → Prop} (hT : TsM μ T) (hN : NumM μ N la) (hH : ∀ j, j < 28 → ¬ (T (j / 7)).2.2.1 = 0 → μ 16 0 j = bi (holB N T (j / 7) (j % 7) = true)) (hn : n ≤ 5) (hn1 : 1 ≤ n) (h1 : x1 = nI n) (h2 : x2 = -1 ∨ ∃ i, i < n ∧ x2 = nI i) (h : post (plS N T n la x2) μ) : ∃ nn, wp_X9_plan_39 x1 x2 post nn 1 0 μ := by
  subst h1
  have h4 : 4 ^ n ≤ 1024 := Nat.le_trans (Nat.pow_le_pow_right (by decide) hn) (by decide)
  have hla := hN.2.2.1
  have fin : ∀ p : Nat × Nat, fbS N T n (10 * la) (4 ^ n) = some p → ∃ nn, wp_X9_plan_136 (nI n) x2 post nn (nI p.2) (nI p.1) (nI n - 1) μ := by
    intro p hp
    have hk := fbS_ok _ p hp
    unfold plS at h
    rw [hp] at h
    dsimp only at h
    rcases h2 with h2 | ⟨i, hi, h2⟩
    · subst h2
      rw [if_pos rfl] at h
      refine ⟨1, ?_⟩
      unfold wp_X9_plan_136 wp_X9_plan_159 wp_X9_plan_173
      refine ⟨fun _ => ⟨fun hc => absurd rfl hc, fun _ => h⟩, fun _ => ⟨fun _ => ⟨fun hc => absurd rfl hc, fun _ => h⟩, fun hc => absurd rfl hc⟩⟩
    · have hm1 : ¬ x2 = -1 := by rw [h2]; exact nI_m1 (by omega)
      rw [if_neg hm1, h2, nI_clamp (by omega)] at h
      have loop : ∀ m j, j = i + m → j < n → wp_X9_plan_136 (nI n) x2 post (m + 1) (nI p.2) (nI (p.1 / 4 ^ (n - 1 - j))) (nI j) μ := by
        intro m
        induction m with
        | zero =>
          intro j e hj
          have ej : j = i := by omega
          subst ej
          unfold wp_X9_plan_136 wp_X9_plan_159 wp_X9_plan_173
          have hl : p.1 / 4 ^ (n - 1 - j) < 2 ^ 31 := Nat.lt_of_le_of_lt (Nat.div_le_self _ _) (by omega)
          have er : nI (p.1 / 4 ^ (n - 1 - j)) - nI (p.1 / 4 ^ (n - 1 - j)) / 4 * 4 = nI (dgS p.1 n j) := pk_rem (d := 4) hl (by decide) (by decide)
          rw [er]
          refine ⟨fun _ => ⟨fun _ => h, fun hc => absurd hc hm1⟩, fun hc => ?_⟩
          rw [h2] at hc
          exact absurd (nI_le (Nat.le_refl j) (by omega)) hc
        | succ m ih =>
          intro j e hj
          unfold wp_X9_plan_136
          have hl : p.1 / 4 ^ (n - 1 - j) < 2 ^ 31 := Nat.lt_of_le_of_lt (Nat.div_le_self _ _) (by omega)
          refine ⟨fun hc => ?_, fun _ => ⟨fun hc => absurd hc hm1, fun _ => ?_⟩⟩
          · rw [h2] at hc
            exact absurd hc (nI_ge (a := i) (b := j) (by omega) (by omega))
          · have nx := ih (j - 1) (by omega) (by omega)
            rw [show nI (p.1 / 4 ^ (n - 1 - j)) / 4 = nI (p.1 / 4 ^ (n - 1 - j) / 4) from pk_div (d := 4) hl (by decide) (by decide), Nat.div_div_eq_div_mul, ← Nat.pow_succ, show (n - 1 - j).succ = n - 1 - (j - 1) by omega]
            have e1 : nI j + (-1) = nI (j - 1) := by
              have := nI_sub_pos (a := j) (b := 1) (by omega)
              rw [← this, Int32.sub_eq_add_neg]
              exact congrArg (nI j + ·) (by decide)
            rw [e1]
            exact nx
      have l0 := loop (n - 1 - i) (n - 1) (by omega) (by omega)
      rw [show n - 1 - (n - 1) = 0 by omega, Nat.pow_zero, Nat.div_one] at l0
      rw [show nI n - 1 = nI (n - 1) from nI_sub_pos (a := n) (b := 1) (by omega)]
      exact ⟨_, l0⟩
  have mid : ∀ m w x4 x5, w + m = 4 ^ n → (fbS N T n (10 * la) w = none ∧ x4 = -1 ∧ x5 = 268435456 ∨ ∃ p, fbS N T n (10 * la) w = some p ∧ x4 = nI p.1 ∧ x5 = nI p.2) → wp_X9_plan_66 (nI n) x2 post (m + 1) (nI (4 ^ n)) x4 x5 (nI w) μ := by
    intro m
    induction m with
    | zero =>
      intro w x4 x5 e hx
      have ew : w = 4 ^ n := by omega
      subst ew
      unfold wp_X9_plan_66
      refine ⟨fun _ => ?_, fun hc => absurd (nI_le (Nat.le_refl (4 ^ n)) (by omega)) hc⟩
      rcases hx with ⟨a, b, c⟩ | ⟨p, a, b, c⟩
      · refine ⟨fun hc => absurd b hc, fun _ => ?_⟩
        unfold plS at h
        rw [a] at h
        exact h
      · have hk := fbS_ok _ p a
        rw [b, c]
        exact ⟨fun _ => fin p a, fun hc => absurd hc (nI_m1 (by omega))⟩
    | succ m ih =>
      intro w x4 x5 e hx
      unfold wp_X9_plan_66 wp_X9_plan_95 wp_X9_plan_111
      refine ⟨fun hc => absurd hc (nI_ge (a := w) (b := 4 ^ n) (by omega) (by omega)), fun _ => ?_⟩
      refine sp_tenthsM hT hN hH (by omega) hn hn1 rfl rfl ?_
      have ih' := fun y z => ih (w + 1) y z (by omega)
      rw [nI_1]
      rw [fbS] at ih'
      cases ht : tbS N T w n n 0 (10 * la) with
      | none =>
        rw [ht] at ih'
        unfold opM
        dsimp only at ih' ⊢
        have hle : x5 ≤ 268435456 := by
          rcases hx with ⟨a, b, c⟩ | ⟨p, a, b, c⟩
          · rw [c]; decide
          · have hk := fbS_ok _ p a
            rw [c]
            exact nI_le (b := 268435456) (by omega) (by decide)
        exact ⟨fun _ => ⟨fun _ => ih' _ _ hx, fun hc => absurd hle hc⟩, fun hc => absurd hle hc⟩
      | some r =>
        have hr := tbS_le _ _ _ r ht
        rw [ht] at ih'
        unfold opM
        dsimp only at ih' ⊢
        rcases hx with ⟨a, b, c⟩ | ⟨p, a, b, c⟩
        · rw [a] at ih'
          have hle : ¬ x5 ≤ nI r := by
            rw [c]
            exact nI_ge (a := r) (b := 268435456) (by omega) (by decide)
          exact ⟨fun hc => absurd hc hle, fun _ => ⟨fun hc => absurd hc hle, fun _ => ih' _ _ (Or.inr ⟨(w, r), rfl, rfl, rfl⟩)⟩⟩
        · rw [a] at ih'
          have hp := fbS_ok w p a
          dsimp only at ih'
          rw [c, nI_leI (by omega) (by omega)]
          refine ⟨fun hc => ⟨fun _ => ?_, fun hd => absurd hc hd⟩, fun hc => ⟨fun hd => absurd hd hc, fun _ => ?_⟩⟩
          · rw [if_pos hc] at ih'
            exact ih' _ _ (Or.inr ⟨p, rfl, b, rfl⟩)
          · rw [if_neg hc] at ih'
            exact ih' _ _ (Or.inr ⟨(w, r), rfl, rfl, rfl⟩)
  have outer : ∀ m i, i + m = n → wp_X9_plan_39 (nI n) x2 post (m + 1) (nI (4 ^ i)) (nI i) μ := by
    intro m
    induction m with
    | zero =>
      intro i e
      have ei : i = n := by omega
      subst ei
      unfold wp_X9_plan_39
      exact ⟨fun _ => ⟨_, mid (4 ^ i) 0 (-1) 268435456 (by omega) (Or.inl ⟨rfl, rfl, rfl⟩)⟩, fun hc => absurd (nI_le (Nat.le_refl i) (by omega)) hc⟩
    | succ m ih =>
      intro i e
      unfold wp_X9_plan_39
      refine ⟨fun hc => absurd hc (nI_ge (a := i) (b := n) (by omega) (by omega)), fun _ => ?_⟩
      rw [show (4 : Int32) = nI 4 from rfl, pk_mul, ← Nat.pow_succ, nI_1]
      exact ih (i + 1) (by omega)
  exact ⟨n + 1, outer n 0 (by omega)⟩
