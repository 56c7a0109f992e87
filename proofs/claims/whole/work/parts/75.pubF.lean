/-! WHOLE: plan, way -/
theorem below_n {x2 : Int32} {n : Nat} (hn1 : 1 ≤ n) (hn : n ≤ 5) (h : -1 ≤ x2 ∧ x2 ≤ nI n - 1) : x2 = -1 ∨ ∃ i, i < n ∧ x2 = nI i := by
  have h1 := (fa_le _ _).mp h.1
  have h2 := (fa_le _ _).mp h.2
  have e1 : (-1 : Int32).toInt = -1 := by decide
  have hs : (nI n - 1).toInt = n - 1 := by
    have e1 : (1 : Int32).toInt = 1 := by decide
    have e2 : (nI n).toInt = n := nI_toInt (by omega)
    rw [i_sub (by omega) (by omega), e1, e2]
  rw [hs] at h2
  rw [e1] at h1
  by_cases e : x2.toInt = -1
  · left
    apply i_ext
    rw [e, e1]
  · right
    refine ⟨x2.toInt.toNat, by omega, ?_⟩
    apply i_ext
    rw [nI_toInt (by omega)]
    omega
theorem pub_plan {σ μ : St} (h : Inv σ μ) (x1 x2 : Int32) : wp_X8_plan x1 x2 (fun r σ' => wp_X9_plan x1 x2 (fun r' μ' => r' = r ∧ Inv σ' μ') μ) σ := by
  have h0 := h
  obtain ⟨⟨N, la, T, B, len, dr, L, a1, a2, a3, a4, a5, a6, a7, a8, a9, a10⟩, hK, hF⟩ := h0
  have ou : ¬ ((1 ≤ x1 ∧ x1 ≤ 5) ∧ (-1 ≤ x2 ∧ x2 ≤ x1 - 1)) → wp_X9_plan x1 x2 (fun r' μ' => r' = -3 ∧ Inv σ μ') μ := by
    intro hb
    unfold wp_X9_plan wp_X9_plan_27
    exact m_in (a := 1) (b := 5) rfl rfl (fun _ => ⟨fun _ => ⟨rfl, h⟩, n00⟩) (fun p1 => ⟨n10, fun _ => m_in (a := -1) (b := x1 - 1) rfl rfl (fun _ => ⟨n00, fun _ => ⟨rfl, h⟩⟩) (fun p2 => absurd ⟨p1, p2⟩ hb)⟩)
  unfold wp_X8_plan wp_X8_plan_20 wp_X8_plan_101
  refine c_within (fun q => ⟨fun _ => ou (fun z => q z.1), n00⟩) (fun p1 => ⟨n10, fun _ => c_within (fun q => ⟨n00, fun _ => ou (fun z => q z.2)⟩) (fun p2 => ⟨fun _ => ?_, n10⟩)⟩)
  obtain ⟨n, hn1, hn, en⟩ := nat_in (m := 1) (n := 5) p1 (by decide) (by decide)
  have hx2 := below_n hn1 hn (by rw [← en]; exact p2)
  refine sp_takeRule (fun σ1 o1 e1 => ?_)
  refine sp_tryAllC (N := N) (T := T) (a3.off61 o1).ts (fun k hk _ => (e1 k hk).trans (a1 k hk)) a2.2.2.2 (fun σ2 o2 l2 => ?_)
  have e10 : 10 * σ2 6 0 2 = nI (10 * la) := by
    rw [o2 6 0 2 (by omega), o1 6 0 2 (by omega), a1 2 (by decide), a2.2.1, show (10 : Int32) = nI 10 from rfl, pk_mul]
  have hla := a2.2.2.1
  have key : ∀ r σ', offE σ2 σ' → r = plS N T n la x2 → wp_X9_plan x1 x2 (fun r' μ' => r' = r ∧ Inv σ' μ') μ := by
    intro r σ' o3 hr
    unfold wp_X9_plan
    refine m_in (a := 1) (b := 5) rfl rfl (fun q => absurd p1 q) (fun _ => ⟨n10, fun _ => m_in (a := -1) (b := x1 - 1) rfl rfl (fun q => absurd p2 q) (fun _ => ⟨fun _ => ?_, n10⟩)⟩)
    refine sp_holdsM a4 a2 (fun μ1 q1 hH => ?_)
    exact sp_planM (a4.offN q1) (a2.offN q1) hH hn hn1 en hx2 ⟨hr.symm, h.zy ((o1.Z.trans o2.Z).trans o3.Z) q1.Y⟩
  refine sp_firstC l2 hn (by omega) e10 en (fun σ3 o3 hf => ⟨fun z => absurd rfl z, fun _ => key _ σ3 o3 ?_⟩) (fun σ3 p o3 hf e17 => ?_)
  · unfold plS
    rw [hf]
  · have ok := fbS_ok (4 ^ n) p hf
    have p4 : 4 ^ n ≤ 1024 := by
      rcases (show n = 1 ∨ n = 2 ∨ n = 3 ∨ n = 4 ∨ n = 5 by omega) with z | z | z | z | z <;> subst z <;> decide
    refine ⟨fun _ => ⟨fun z => ?_, fun z => key _ σ3 o3 ?_⟩, fun z => absurd z (nI_m1 (by omega))⟩
    · rcases hx2 with y | ⟨i, hi, y⟩
      · exact absurd y z
      · refine sp_thingOfC (by omega) hn hi rfl en y (key _ σ3 o3 ?_)
        unfold plS
        rw [hf]
        dsimp only
        rw [if_neg z, y, nI_clamp (by omega)]
    · unfold plS
      rw [hf]
      dsimp only
      rw [if_pos z, e17]
theorem pub_way {σ μ : St} (h : Inv σ μ) (x1 x2 x3 x4 x5 : Int32) : wp_X8_way x1 x2 x3 x4 x5 (fun r σ' => wp_X9_way x1 x2 x3 x4 x5 (fun r' μ' => r' = r ∧ Inv σ' μ') μ) σ := by
  have h0 := h
  obtain ⟨⟨N, la, T, B, len, dr, L, a1, a2, a3, a4, a5, a6, a7, a8, a9, a10⟩, hK, hF⟩ := h0
  have un : ¬ ((0 ≤ x1 ∧ x1 ≤ 3) ∧ (0 ≤ x2 ∧ x2 ≤ 35) ∧ (0 ≤ x3 ∧ x3 ≤ 35)) → wp_X9_way x1 x2 x3 x4 x5 (fun r' μ' => r' = -2 ∧ Inv σ μ') μ := by
    intro hb
    unfold wp_X9_way wp_X9_way_21
    exact m_isThing (fun _ => ⟨fun _ => ⟨rfl, h⟩, n00⟩) (fun q1 => ⟨n10, fun _ => m_isCell (fun _ => ⟨fun _ => ⟨rfl, h⟩, n00⟩) (fun q2 => ⟨n10, fun _ => m_isCell (fun _ => ⟨n00, fun _ => ⟨rfl, h⟩⟩) (fun q3 => absurd ⟨q1, q2, q3⟩ hb)⟩)⟩)
  have into : ∀ {P : Int32 → St → Prop}, (0 ≤ x1 ∧ x1 ≤ 3) → (0 ≤ x2 ∧ x2 ≤ 35) → (0 ≤ x3 ∧ x3 ≤ 35) → (¬ ((0 ≤ x4 ∧ x4 ≤ 99) ∧ (0 ≤ x5 ∧ x5 ≤ 1)) → P (-3) μ) → ((0 ≤ x4 ∧ x4 ≤ 99) → (0 ≤ x5 ∧ x5 ≤ 1) → (vp_in x1 4 ∧ ((¬ (μ 5 0 x1.toNatClampNeg) = 0 → wp_X9_greatest x1 (fun r6 σ6 => ∃ nn, wp_X9_way_73 x1 x2 x3 x4 x5 P nn r6 0 σ6) μ) ∧ ((μ 5 0 x1.toNatClampNeg) = 0 → P (-4) μ)))) → wp_X9_way x1 x2 x3 x4 x5 P μ := by
    intro P t1 t2 t3 hn hy
    unfold wp_X9_way wp_X9_way_48
    exact m_isThing (fun q => absurd t1 q) (fun _ => ⟨n10, fun _ => m_isCell (fun q => absurd t2 q) (fun _ => ⟨n10, fun _ => m_isCell (fun q => absurd t3 q) (fun _ => ⟨fun _ => m_in (a := 0) (b := 99) rfl rfl (fun q => ⟨fun _ => hn (fun z => q z.1), n00⟩) (fun p1 => ⟨n10, fun _ => m_in (a := 0) (b := 1) rfl rfl (fun q => ⟨n00, fun _ => hn (fun z => q z.2)⟩) (fun p2 => ⟨fun _ => hy p1 p2, n10⟩)⟩), n10⟩)⟩)⟩)
  unfold wp_X8_way wp_X8_way_27 wp_X8_way_51 wp_X8_way_113
  refine c_isThing (fun q => ⟨fun _ => un (fun z => q z.1), n00⟩) (fun t1 => ⟨n10, fun _ => c_within (fun q => ⟨fun _ => un (fun z => q z.2.1), n00⟩) (fun t2 => ⟨n10, fun _ => c_within (fun q => ⟨n00, fun _ => un (fun z => q z.2.2)⟩) (fun t3 => ⟨fun _ => ?_, n10⟩)⟩)⟩)
  have ou : ¬ ((0 ≤ x4 ∧ x4 ≤ 99) ∧ (0 ≤ x5 ∧ x5 ≤ 1)) → wp_X9_way x1 x2 x3 x4 x5 (fun r' μ' => r' = -3 ∧ Inv σ μ') μ := fun hb => into t1 t2 t3 (fun _ => ⟨rfl, h⟩) (fun p1 p2 => absurd ⟨p1, p2⟩ hb)
  refine c_within (fun q => ⟨fun _ => ou (fun z => q z.1), n00⟩) (fun p1 => ⟨n10, fun _ => c_within (fun q => ⟨n00, fun _ => ou (fun z => q z.2)⟩) (fun p2 => ⟨fun _ => ?_, n10⟩)⟩)
  obtain ⟨t, -, ht, et⟩ := nat_in (m := 0) (n := 3) t1 (by decide) (by decide)
  obtain ⟨u, -, hu, eu⟩ := nat_in (m := 0) (n := 35) t2 (by decide) (by decide)
  obtain ⟨v, -, hv, ev⟩ := nat_in (m := 0) (n := 35) t3 (by decide) (by decide)
  have bt := a4 t (by omega)
  have ct : x1.toNatClampNeg = t := by rw [et, nI_clamp (by omega)]
  have cv : x3.toNatClampNeg = v := by rw [ev, nI_clamp (by omega)]
  have V1 : vp_in x1 4 := pk_in t 4 (by omega) et
  have V3 : vp_in x3 36 := pk_in v 36 (by omega) ev
  have absd : ∀ {Q : Prop}, ¬ ((0 ≤ x4 ∧ x4 ≤ 99) ∧ (0 ≤ x5 ∧ x5 ≤ 1)) → Q := fun q => absurd ⟨p1, p2⟩ q
  refine c_hasLumps a3 (by omega) et (fun z => ⟨n00, fun _ => into t1 t2 t3 absd (fun _ _ => ?_)⟩) (fun z1 => ⟨fun _ => ⟨V1, ?_⟩, n10⟩)
  · rw [ct, bt.2.2.2.2.1, z]
    exact ⟨V1, n00, fun _ => ⟨rfl, h⟩⟩
  · rw [ct, (a3 t (by omega)).2.2.2.2.2.2.2.2]
    refine sp_walkC a7 (by omega) eu (fun σ1 E w1 hS hE => ?_)
    rw [cv, (hE v (by omega)).1, (hE v (by omega)).2]
    have key : ∀ r, r = (if x5 = 0 then o1 (E v) else o2 (E v)) → wp_X9_way x1 x2 x3 x4 x5 (fun r' μ' => r' = r ∧ Inv σ1 μ') μ := by
      intro r hr
      refine into t1 t2 t3 absd (fun _ _ => ?_)
      rw [ct, bt.2.2.2.2.1, (lump_0 bt.2.2.2.2.2.1).2]
      refine ⟨V1, fun _ => ?_, fun q => absurd q z1⟩
      refine sp_greatestM ht bt.2.2.2.2.2.1 et bt.2.2.2.2.1 ?_
      rw [(sums_congr (T t).2.2.1 bt.2.2.2.2.2.2.1).2.2]
      refine sp_wayM a8 (by omega) (by omega) eu ev (fun μ1 E' w2 hS' => ⟨?_, h.zy w1.Z w2.Y⟩)
      rw [hr, hS.uni hS' v]
    refine ⟨fun z => ⟨V3, key _ ?_⟩, fun z => ⟨V3, key _ ?_⟩⟩
    · rw [if_neg z]
    · rw [if_pos z]
