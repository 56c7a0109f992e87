/-! chance: the reference's sums -/
theorem sp_oddsM {μ : St} {N : Nat → Int32} {kd own lg x1 x0 w x3 x5 x6 : Int32} {la ob n p : Nat} {post : Int32 → St → Prop} (hT : ThM μ kd own lg ob) (hR : RuM μ N la) (hn : n ≤ 6) (hp : p ≤ 5) (hx3 : x3 = nI n) (hx5 : x5 = nI p) (h : ∀ μ', offR 0 μ μ' → post (if x6 = 0 then nI (evS N kd own lg (agoS la kd ob) (gM w) (cM p) n 0 (fun _ => x0, 0, 0, 0) / Nat.gcd (evS N kd own lg (agoS la kd ob) (gM w) (cM p) n 0 (fun _ => x0, 0, 0, 0)) (10 ^ n)) else nI (10 ^ n / Nat.gcd (evS N kd own lg (agoS la kd ob) (gM w) (cM p) n 0 (fun _ => x0, 0, 0, 0)) (10 ^ n))) μ') : ∃ nn, wp_X9_odds_95 x1 x0 x3 w x5 x6 post nn 1 1 0 μ := by
  subst hx3; subst hx5
  have hle := ev_le (N := N) (kd := kd) (own := own) (lg := lg) (w := w) (ago := agoS la kd ob) hp n 0 (fun _ => x0, 0, 0, 0)
  have hsum := sum_cw (N := N) (kd := kd) (own := own) (lg := lg) (ago := agoS la kd ob) (G := gM w) (C := cM p) n 0 (fun _ => x0, 0, 0, 0)
  have h10 : 10 ^ n ≤ 1000000 := Nat.le_trans (Nat.pow_le_pow_right (by decide) hn) (by decide)
  have h3 : 3 ^ n ≤ 729 := Nat.le_trans (Nat.pow_le_pow_right (by decide) hn) (by decide)
  have h10p : 0 < 10 ^ n := Nat.pow_pos (by decide)
  generalize evS N kd own lg (agoS la kd ob) (gM w) (cM p) n 0 (fun _ => x0, 0, 0, 0) = a at h hle hsum
  have inner : ∀ m i μ1, i + m = 3 ^ n → offR 0 μ μ1 → wp_X9_odds_126 x1 x0 (nI n) w (nI p) x6 post (m + 1) (nI (3 ^ n)) (nI (10 ^ n)) (nI (smN (cdS N kd own lg (agoS la kd ob) (gM w) (cM p) n 0 (fun _ => x0, 0, 0, 0)) i)) (nI i) μ1 := by
    intro m
    induction m with
    | zero =>
      intro i μ1 e ho
      have ei : i = 3 ^ n := by omega
      subst ei
      unfold wp_X9_odds_126 wp_X9_odds_183
      rw [hsum]
      refine ⟨fun _ => sp_divisorM (a := a) (b := 10 ^ n) (by omega) (by omega) rfl rfl ?_, fun hc => absurd (nI_le (Nat.le_refl (3 ^ n)) (by omega)) hc⟩
      have hg : 0 < Nat.gcd a (10 ^ n) := Nat.gcd_pos_of_pos_right _ h10p
      have hgl : Nat.gcd a (10 ^ n) ≤ 10 ^ n := Nat.gcd_le_right _ h10p
      have hz : ¬ nI (Nat.gcd a (10 ^ n)) = 0 := fun z => by
        have := nI_ge (a := 0) (b := Nat.gcd a (10 ^ n)) hg (by omega)
        rw [z] at this
        exact this (nI_le (Nat.le_refl 0) (by decide))
      have hh := h μ1 ho
      refine ⟨fun h6 => ⟨hz, ?_⟩, fun h6 => ⟨hz, ?_⟩⟩
      · rw [if_neg h6] at hh
        rw [pk_div (by omega) hg (by omega)]
        exact hh
      · rw [if_pos h6] at hh
        rw [pk_div (by omega) hg (by omega)]
        exact hh
    | succ m ih =>
      intro i μ1 e ho
      unfold wp_X9_odds_126
      refine ⟨fun hc => absurd hc (nI_ge (a := i) (b := 3 ^ n) (by omega) (by omega)), fun _ => ?_⟩
      refine sp_weightM (hT.off ho) (hR.off ho) hn hp (c := i) (by omega) rfl rfl rfl (fun μ2 o2 => ?_)
      rw [nI_1, nI_add]
      exact ih (i + 1) μ2 (by omega) (ho.trans o2)
  have outer : ∀ m i, i + m = n → wp_X9_odds_95 x1 x0 (nI n) w (nI p) x6 post (m + 1) (nI (3 ^ i)) (nI (10 ^ i)) (nI i) μ := by
    intro m
    induction m with
    | zero =>
      intro i e
      have ei : i = n := by omega
      subst ei
      unfold wp_X9_odds_95
      exact ⟨fun _ => ⟨_, inner (3 ^ i) 0 μ (by omega) offR.rf⟩, fun hc => absurd (nI_le (Nat.le_refl i) (by omega)) hc⟩
    | succ m ih =>
      intro i e
      unfold wp_X9_odds_95
      refine ⟨fun hc => absurd hc (nI_ge (a := i) (b := n) (by omega) (by omega)), fun _ => ?_⟩
      rw [nI_1, show (3 : Int32) = nI 3 from rfl, show (10 : Int32) = nI 10 from rfl, pk_mul, pk_mul, ← Nat.pow_succ, ← Nat.pow_succ]
      exact ih (i + 1) (by omega)
  exact ⟨n + 1, outer n 0 (by omega)⟩
