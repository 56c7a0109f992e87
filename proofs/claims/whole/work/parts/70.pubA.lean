/-! WHOLE: the calls on things, ticks, films' rows, rooms -/
theorem sel_t {a A B : Prop} (h : a) (hA : A) : (a → A) ∧ (¬ a → B) := ⟨fun _ => hA, fun z => absurd h z⟩
theorem sel_f {a A B : Prop} (h : ¬ a) (hB : B) : (a → A) ∧ (¬ a → B) := ⟨fun z => absurd z h, fun _ => hB⟩
theorem lump_0 {n : Nat} (h : n ≤ 4) : (nI n ≤ 0 ↔ n = 0) ∧ (nI n = 0 ↔ n = 0) := ⟨by
  rw [show (nI n ≤ 0 ↔ n ≤ 0) from nI_leI (b := 0) (by omega) (by decide)]
  omega, nI_eq (b := 0) (by omega) (by decide)⟩
theorem pub_thing {σ μ : St} (h : Inv σ μ) (x1 x2 : Int32) : wp_X8_thing x1 x2 (fun r σ' => wp_X9_thing x1 x2 (fun r' μ' => r' = r ∧ Inv σ' μ') μ) σ := by
  have h0 := h
  obtain ⟨⟨N, la, T, B, len, dr, L, a1, a2, a3, a4, a5, a6, a7, a8, a9, a10⟩, hK, hF⟩ := h0
  unfold wp_X8_thing
  refine c_isThing (fun hx => ⟨n00, fun _ => ?_⟩) (fun hx => ⟨fun _ => ?_, n10⟩)
  · unfold wp_X9_thing
    exact m_isThing (fun _ => ⟨n00, fun _ => ⟨rfl, h⟩⟩) (fun q => absurd q hx)
  · obtain ⟨t, -, ht, e⟩ := nat_in (m := 0) (n := 3) hx (by decide) (by decide)
    subst e
    have V : vp_in (nI t) 4 := pk_in t 4 (by omega)
    obtain ⟨b0, b1, b9, b3, b4, bB, b2, bL, bT⟩ := a3 t (by omega)
    have TM := a4 t (by omega)
    obtain ⟨d1, d2, d3, d4, d5, d6, d7, d8⟩ := a4 t (by omega)
    rw [nI_clamp (by omega), b0, b1, b2, b3, bT]
    have key : ∀ r, ((x2 = 0 → (vp_in (nI t) 4 ∧ ((T t).1 = r ∧ Inv σ μ))) ∧ (¬ x2 = 0 → ((x2 = 1 → (vp_in (nI t) 4 ∧ (nI (T t).2.1 = r ∧ Inv σ μ))) ∧ (¬ x2 = 1 → ((x2 = 2 → (vp_in (nI t) 4 ∧ (nI (T t).2.2.1 = r ∧ Inv σ μ))) ∧ (¬ x2 = 2 → ((x2 = 3 → (lgS (T t).2.2.2.1 (T t).2.2.2.2 (T t).2.2.1 = r ∧ Inv σ μ)) ∧ (¬ x2 = 3 → ((x2 = 4 → (tlS (T t).2.2.2.1 (T t).2.2.1 = r ∧ Inv σ μ)) ∧ (¬ x2 = 4 → (-3 = r ∧ Inv σ μ))))))))))) → wp_X9_thing (nI t) x2 (fun r' μ' => r' = r ∧ Inv σ μ') μ := by
      intro r hr
      unfold wp_X9_thing
      refine m_isThing (fun q => absurd hx q) (fun _ => ⟨fun _ => ?_, n10⟩)
      rw [nI_clamp (by omega), d1, d2, d5]
      refine ⟨hr.1, fun z0 => ⟨(hr.2 z0).1, fun z1 => ⟨((hr.2 z0).2 z1).1, fun z2 => ⟨fun z3 => ?_, fun z3 => ⟨fun z4 => ?_, fun z4 => ((((hr.2 z0).2 z1).2 z2).2 z3).2 z4⟩⟩⟩⟩⟩
      · exact sp_longM TM ht rfl ((((hr.2 z0).2 z1).2 z2).1 z3)
      · refine sp_greatestM ht d6 rfl d5 ?_
        rw [(sums_congr (T t).2.2.1 d7).2.2]
        exact ((((hr.2 z0).2 z1).2 z2).2 z3).1 z4
    refine ⟨V, fun z => key _ (sel_t z ⟨V, rfl, h⟩), fun z0 => ⟨fun z => key _ (sel_f z0 (sel_t z ⟨V, rfl, h⟩)), fun z1 => ⟨fun z => key _ (sel_f z0 (sel_f z1 (sel_t z ⟨V, rfl, h⟩))), fun z2 => ⟨fun z => key _ (sel_f z0 (sel_f z1 (sel_f z2 (sel_t z ⟨rfl, h⟩)))), fun z3 => ⟨fun z => key _ (sel_f z0 (sel_f z1 (sel_f z2 (sel_f z3 (sel_t z ⟨rfl, h⟩))))), fun z4 => key _ (sel_f z0 (sel_f z1 (sel_f z2 (sel_f z3 (sel_f z4 ⟨rfl, h⟩)))))⟩⟩⟩⟩⟩
theorem pub_lump {σ μ : St} (h : Inv σ μ) (x1 x2 x3 : Int32) : wp_X8_lump x1 x2 x3 (fun r σ' => wp_X9_lump x1 x2 x3 (fun r' μ' => r' = r ∧ Inv σ' μ') μ) σ := by
  have h0 := h
  obtain ⟨⟨N, la, T, B, len, dr, L, a1, a2, a3, a4, a5, a6, a7, a8, a9, a10⟩, hK, hF⟩ := h0
  unfold wp_X8_lump wp_X8_lump_29
  refine c_isThing (fun hx => ⟨fun _ => ?_, n00⟩) (fun hx => ⟨n10, fun _ => ?_⟩)
  · unfold wp_X9_lump
    exact m_isThing (fun _ => ⟨fun _ => ⟨rfl, h⟩, n00⟩) (fun q => absurd q hx)
  · obtain ⟨t, -, ht, e⟩ := nat_in (m := 0) (n := 3) hx (by decide) (by decide)
    subst e
    have V : vp_in (nI t) 4 := pk_in t 4 (by omega)
    obtain ⟨b0, b1, b9, b3, b4, bB, b2, bL, bT⟩ := a3 t (by omega)
    obtain ⟨d1, d2, d3, d4, d5, d6, d7, d8⟩ := a4 t (by omega)
    rw [nI_clamp (by omega), b2]
    refine ⟨V, c_within (fun hi => ⟨n00, fun _ => ?_⟩) (fun hi => ⟨fun _ => ?_, n10⟩)⟩
    · unfold wp_X9_lump wp_X9_lump_25
      refine m_isThing (fun q => absurd hx q) (fun _ => ⟨n10, fun _ => ?_⟩)
      rw [nI_clamp (by omega), d5]
      exact ⟨V, m_in (a := 0) (b := nI (T t).2.2.1 - 1) rfl rfl (fun _ => ⟨n00, fun _ => ⟨rfl, h⟩⟩) (fun q => absurd q hi)⟩
    · have hs : (nI (T t).2.2.1 - 1).toInt = (T t).2.2.1 - 1 := by
        have e1 : (1 : Int32).toInt = 1 := by decide
        have e2 : (nI (T t).2.2.1).toInt = (T t).2.2.1 := nI_toInt (by omega)
        rw [i_sub (by omega) (by omega), e1, e2]
      have h1 := (fa_le _ _).mp hi.1
      have h2 := (fa_le _ _).mp hi.2
      rw [hs] at h2
      have e0 : (0 : Int32).toInt = 0 := by decide
      obtain ⟨i, hi1, e⟩ : ∃ i : Nat, i < (T t).2.2.1 ∧ x2 = nI i := by
        refine ⟨x2.toInt.toNat, by omega, ?_⟩
        apply i_ext
        rw [nI_toInt (by omega)]
        omega
      subst e
      have V2 : vp_in (nI i) 4 := pk_in i 4 (by omega)
      rw [nI_clamp (by omega), (bL i hi1).1, (bL i hi1).2]
      have key : ∀ r, ((0 ≤ x3 ∧ x3 ≤ 1) → vp_in (8 * nI t + 2 * nI i + x3) 32 ∧ (μ 6 0 ((8 * nI t + 2 * nI i + x3).toNatClampNeg) = r ∧ Inv σ μ)) → (¬ (0 ≤ x3 ∧ x3 ≤ 1) → (-3 = r ∧ Inv σ μ)) → wp_X9_lump (nI t) (nI i) x3 (fun r' μ' => r' = r ∧ Inv σ μ') μ := by
        intro r k1 k0
        unfold wp_X9_lump wp_X9_lump_58
        refine m_isThing (fun q => absurd hx q) (fun _ => ⟨n10, fun _ => ?_⟩)
        rw [nI_clamp (by omega), d5]
        exact ⟨V, m_in (a := 0) (b := nI (T t).2.2.1 - 1) rfl rfl (fun q => absurd hi q) (fun _ => ⟨fun _ => m_in (a := 0) (b := 1) rfl rfl (fun q => ⟨fun _ => k0 q, n00⟩) (fun q => ⟨n10, fun _ => k1 q⟩), n10⟩)⟩
      refine ⟨fun z => ⟨V, V2, key _ (fun _ => ?_) (fun q => absurd (by rw [z]; decide) q)⟩, fun z0 => ⟨fun z => ⟨V, V2, key _ (fun _ => ?_) (fun q => absurd (by rw [z]; decide) q)⟩, fun z1 => key _ (fun q => ?_) (fun _ => ⟨rfl, h⟩)⟩⟩
      · rw [z, m8 rfl rfl, show nI (8 * t + 2 * i) + 0 = nI (8 * t + 2 * i) from ii_zero _, nI_clamp (by omega)]
        exact ⟨pk_in (8 * t + 2 * i) 32 (by omega), (d7 i hi1).1, h⟩
      · rw [z, m8 rfl rfl, nI_1, nI_clamp (by omega)]
        exact ⟨pk_in (8 * t + 2 * i + 1) 32 (by omega), (d7 i hi1).2, h⟩
      · obtain ⟨j, -, hj, e⟩ := nat_in (m := 0) (n := 1) q (by decide) (by decide)
        rcases (show j = 0 ∨ j = 1 by omega) with y | y
        · subst y
          exact absurd e z0
        · subst y
          exact absurd e z1
theorem pub_count {σ μ : St} (h : Inv σ μ) (x1 : Int32) : wp_X8_count x1 (fun r σ' => wp_X9_count x1 (fun r' μ' => r' = r ∧ Inv σ' μ') μ) σ := by
  have h0 := h
  obtain ⟨⟨N, la, T, B, len, dr, L, a1, a2, a3, a4, a5, a6, a7, a8, a9, a10⟩, hK, cnt, F, M, f1, f2, f3, f4⟩ := h0
  unfold wp_X8_count
  refine c_within (fun hx => ⟨n00, fun _ => ?_⟩) (fun hx => ⟨fun _ => ?_, n10⟩)
  · unfold wp_X9_count
    exact sel_f (fun z => hx (by rw [z]; decide)) (sel_f (fun z => hx (by rw [z]; decide)) (sel_f (fun z => hx (by rw [z]; decide)) (sel_f (fun z => hx (by rw [z]; decide)) (sel_f (fun z => hx (by rw [z]; decide)) (sel_f (fun z => hx (by rw [z]; decide)) (sel_f (fun z => hx (by rw [z]; decide)) (sel_f (fun z => hx (by rw [z]; decide)) (sel_f (fun z => hx (by rw [z]; decide)) (sel_f (fun z => hx (by rw [z]; decide)) (sel_f (fun z => hx (by rw [z]; decide)) (sel_f (fun z => hx (by rw [z]; decide)) (⟨rfl, h⟩))))))))))))
  · obtain ⟨j, -, hj, e⟩ := nat_in (m := 0) (n := 11) hx (by decide) (by decide)
    subst e
    rcases (show j = 0 ∨ j = 1 ∨ j = 2 ∨ j = 3 ∨ j = 4 ∨ j = 5 ∨ j = 6 ∨ j = 7 ∨ j = 8 ∨ j = 9 ∨ j = 10 ∨ j = 11 by omega) with z | z | z | z | z | z | z | z | z | z | z | z
    · subst z
      refine sel_f (by decide) (sel_f (by decide) ⟨pk_in 0 10 (by decide), ?_⟩)
      rw [nI_clamp (by decide), a1 0 (by decide)]
      unfold wp_X9_count
      exact sel_t rfl ⟨a2.1 0 (by decide), h⟩
    · subst z
      refine sel_f (by decide) (sel_f (by decide) ⟨pk_in 1 10 (by decide), ?_⟩)
      rw [nI_clamp (by decide), a1 1 (by decide)]
      unfold wp_X9_count
      exact sel_f (by decide) (sel_t rfl ⟨a2.1 1 (by decide), h⟩)
    · subst z
      refine sel_f (by decide) (sel_f (by decide) ⟨pk_in 2 10 (by decide), ?_⟩)
      rw [nI_clamp (by decide), a1 2 (by decide)]
      unfold wp_X9_count
      exact sel_f (by decide) (sel_f (by decide) (sel_t rfl ⟨a2.1 2 (by decide), h⟩))
    · subst z
      refine sel_f (by decide) (sel_f (by decide) ⟨pk_in 3 10 (by decide), ?_⟩)
      rw [nI_clamp (by decide), a1 3 (by decide)]
      unfold wp_X9_count
      exact sel_f (by decide) (sel_f (by decide) (sel_f (by decide) (sel_t rfl ⟨a2.1 3 (by decide), h⟩)))
    · subst z
      refine sel_f (by decide) (sel_f (by decide) ⟨pk_in 4 10 (by decide), ?_⟩)
      rw [nI_clamp (by decide), a1 4 (by decide)]
      unfold wp_X9_count
      exact sel_f (by decide) (sel_f (by decide) (sel_f (by decide) (sel_f (by decide) (sel_t rfl ⟨a2.1 4 (by decide), h⟩))))
    · subst z
      refine sel_f (by decide) (sel_f (by decide) ⟨pk_in 5 10 (by decide), ?_⟩)
      rw [nI_clamp (by decide), a1 5 (by decide)]
      unfold wp_X9_count
      exact sel_f (by decide) (sel_f (by decide) (sel_f (by decide) (sel_f (by decide) (sel_f (by decide) (sel_t rfl ⟨a2.1 5 (by decide), h⟩)))))
    · subst z
      refine sel_f (by decide) (sel_f (by decide) ⟨pk_in 6 10 (by decide), ?_⟩)
      rw [nI_clamp (by decide), a1 6 (by decide)]
      unfold wp_X9_count
      exact sel_f (by decide) (sel_f (by decide) (sel_f (by decide) (sel_f (by decide) (sel_f (by decide) (sel_f (by decide) (sel_t rfl ⟨a2.1 6 (by decide), h⟩))))))
    · subst z
      refine sel_f (by decide) (sel_f (by decide) ⟨pk_in 7 10 (by decide), ?_⟩)
      rw [nI_clamp (by decide), a1 7 (by decide)]
      unfold wp_X9_count
      exact sel_f (by decide) (sel_f (by decide) (sel_f (by decide) (sel_f (by decide) (sel_f (by decide) (sel_f (by decide) (sel_f (by decide) (sel_t rfl ⟨a2.1 7 (by decide), h⟩)))))))
    · subst z
      refine sel_f (by decide) (sel_f (by decide) ⟨pk_in 8 10 (by decide), ?_⟩)
      rw [nI_clamp (by decide), a1 8 (by decide)]
      unfold wp_X9_count
      exact sel_f (by decide) (sel_f (by decide) (sel_f (by decide) (sel_f (by decide) (sel_f (by decide) (sel_f (by decide) (sel_f (by decide) (sel_f (by decide) (sel_t rfl ⟨a2.1 8 (by decide), h⟩))))))))
    · subst z
      refine sel_f (by decide) (sel_f (by decide) ⟨pk_in 9 10 (by decide), ?_⟩)
      rw [nI_clamp (by decide), a1 9 (by decide)]
      unfold wp_X9_count
      exact sel_f (by decide) (sel_f (by decide) (sel_f (by decide) (sel_f (by decide) (sel_f (by decide) (sel_f (by decide) (sel_f (by decide) (sel_f (by decide) (sel_f (by decide) (sel_t rfl ⟨a2.1 9 (by decide), h⟩)))))))))
    · subst z
      refine sel_t rfl ?_
      rw [f2]
      unfold wp_X9_count
      exact sel_f (by decide) (sel_f (by decide) (sel_f (by decide) (sel_f (by decide) (sel_f (by decide) (sel_f (by decide) (sel_f (by decide) (sel_f (by decide) (sel_f (by decide) (sel_f (by decide) (sel_t rfl ⟨f3, h⟩))))))))))
    · subst z
      refine sel_f (by decide) (sel_t rfl ?_)
      rw [a5.1]
      unfold wp_X9_count
      exact sel_f (by decide) (sel_f (by decide) (sel_f (by decide) (sel_f (by decide) (sel_f (by decide) (sel_f (by decide) (sel_f (by decide) (sel_f (by decide) (sel_f (by decide) (sel_f (by decide) (sel_f (by decide) (sel_t rfl ⟨a6.1, h⟩)))))))))))
theorem Inv.house {σ μ σ' μ' : St} {dr : Nat → Nat} {L : Nat → Int32} (h : Inv σ μ) (hC : ∀ c o k, ¬ (c = 23 ∨ c = 24) → σ' c o k = σ c o k) (hM : ∀ c o k, ¬ (c = 17 ∨ c = 18) → μ' c o k = μ c o k) (h1 : HsC σ' dr L) (h2 : HsM μ' dr L) : Inv σ' μ' := by
  obtain ⟨⟨N, la, T, B, len, dr0, L0, a1, ⟨b1, b2, b3, b4⟩, a3, a4, ⟨c1, c2, c3⟩, ⟨d1, d2, d3⟩, _, _, a9, a10⟩, hK, hF⟩ := h
  exact ⟨⟨N, la, T, B, len, dr, L, fun k hk => (hC 6 0 k (by omega)).trans (a1 k hk), ⟨fun k hk => (hM 0 0 (8 + k) (by omega)).trans (b1 k hk), b2, b3, b4⟩, fun t ht => (a3 t ht).congr (fun c k hc => hC c t k (by omega)), fun t ht => (a4 t ht).congr (hM 3 0 t (by omega)) (hM 4 0 t (by omega)) (hM 5 0 t (by omega)) (fun k _ _ => hM 6 0 k (by omega)), ⟨(hC 7 0 1 (by omega)).trans c1, c2, fun i hi => (hC 8 0 i (by omega)).trans (c3 i hi)⟩, ⟨(hM 0 0 1 (by omega)).trans d1, d2, fun i hi => (hM 1 0 i (by omega)).trans (d3 i hi)⟩, h1, h2, (hC 2 4 0 (by omega)).trans a9, (hC 2 4 1 (by omega)).trans a10⟩, hK.keep (fun c o k q => hC c o k (by unfold rkC at q; omega)) (fun c o k q => hM c o k (by unfold rkM at q; omega)), hF.keep (fun c o k q => hC c o k (by unfold rfC at q; omega)) (fun c o k q => hM c o k (by unfold rfM at q; omega))⟩
theorem pub_room {σ μ : St} (h : Inv σ μ) (x1 x2 x3 : Int32) : wp_X8_room x1 x2 x3 (fun r σ' => wp_X9_room x1 x2 x3 (fun r' μ' => r' = r ∧ Inv σ' μ') μ) σ := by
  have h0 := h
  obtain ⟨⟨N, la, T, B, len, dr, L, a1, a2, a3, a4, a5, a6, a7, a8, a9, a10⟩, hK, hF⟩ := h0
  unfold wp_X8_room wp_X8_room_34
  refine c_within (fun hx => ⟨n00, fun _ => ?_⟩) (fun hx => ⟨fun _ => ?_, n10⟩)
  · unfold wp_X9_room
    exact m_isCell (fun _ => ⟨n00, fun _ => ⟨rfl, h⟩⟩) (fun q => absurd q hx)
  · refine c_within (fun hy => ⟨fun _ => ?_, n00⟩) (fun hy => ⟨n10, fun _ => ?_⟩)
    · unfold wp_X9_room wp_X9_room_34
      exact m_isCell (fun q => absurd hx q) (fun _ => ⟨fun _ => m_in (a := 0) (b := 99) rfl rfl (fun _ => ⟨fun _ => ⟨rfl, h⟩, n00⟩) (fun q => absurd q hy), n10⟩)
    · refine c_within (fun hz => ⟨n00, fun _ => ?_⟩) (fun hz => ⟨fun _ => ?_, n10⟩)
      · unfold wp_X9_room wp_X9_room_34
        exact m_isCell (fun q => absurd hx q) (fun _ => ⟨fun _ => m_in (a := 0) (b := 99) rfl rfl (fun q => absurd hy q) (fun _ => ⟨n10, fun _ => m_in (a := 0) (b := 300) rfl rfl (fun _ => ⟨n00, fun _ => ⟨rfl, h⟩⟩) (fun q => absurd q hz)⟩), n10⟩)
      · obtain ⟨c, -, hc, e⟩ := nat_in (m := 0) (n := 35) hx (by decide) (by decide)
        obtain ⟨n, -, hn, e2⟩ := nat_in (m := 0) (n := 99) hy (by decide) (by decide)
        subst e
        subst e2
        have V : vp_in (nI c) 36 := pk_in c 36 (by omega)
        rw [nI_clamp (by omega), (a7 c (by omega)).1]
        refine ⟨V, V, V, ?_⟩
        unfold wp_X9_room wp_X9_room_34
        refine m_isCell (fun q => absurd hx q) (fun _ => ⟨fun _ => m_in (a := 0) (b := 99) rfl rfl (fun q => absurd hy q) (fun _ => ⟨n10, fun _ => m_in (a := 0) (b := 300) rfl rfl (fun q => absurd hz q) (fun _ => ⟨fun _ => ?_, n10⟩)⟩), n10⟩)
        rw [nI_clamp (by omega), (a8 c (by omega)).1]
        refine ⟨V, V, V, rfl, h.house (dr := fun u => if u = c then n else dr u) (L := fun u => if u = c then x3 else L u) ?_ ?_ ?_ ?_⟩
        · intro c o k hc
          unfold su
          rw [if_neg (by omega), if_neg (by omega)]
        · intro c o k hc
          unfold su
          rw [if_neg (by omega), if_neg (by omega)]
        · intro u hu
          by_cases e : u = c
          · subst e
            simp only [if_true]
            exact ⟨(su_nc rfl).trans su_eq, su_eq, hn⟩
          · simp only [if_neg e]
            exact ⟨(su_nc rfl).trans ((su_nk' e).trans (a7 u hu).1), (su_nk' e).trans ((su_nc rfl).trans (a7 u hu).2.1), (a7 u hu).2.2⟩
        · intro u hu
          by_cases e : u = c
          · subst e
            simp only [if_true]
            exact ⟨(su_nc rfl).trans su_eq, su_eq, hn⟩
          · simp only [if_neg e]
            exact ⟨(su_nc rfl).trans ((su_nk' e).trans (a8 u hu).1), (su_nk' e).trans ((su_nc rfl).trans (a8 u hu).2.1), (a8 u hu).2.2⟩
theorem Inv.film {σ μ σ' μ' : St} (h : Inv σ μ) (hC : ∀ c o k, ¬ (c = 19 ∨ c = 20 ∨ c = 21 ∨ (c = 6 ∧ ¬ o = 0)) → σ' c o k = σ c o k) (hM : ∀ c o k, ¬ ((c = 0 ∧ (k = 37 ∨ (28 ≤ k ∧ k ≤ 34))) ∨ c = 14 ∨ c = 15) → μ' c o k = μ c o k) (hF : FilmI σ' μ') : Inv σ' μ' := by
  obtain ⟨⟨N, la, T, B, len, dr, L, hA⟩, hK, _⟩ := h
  exact ⟨⟨N, la, T, B, len, dr, L, hA.keep (fun c o k q => hC c o k (by unfold rlC at q; omega)) (fun c o k q => hM c o k (by unfold rlM at q; omega))⟩, hK.keep (fun c o k q => hC c o k (by unfold rkC at q; omega)) (fun c o k q => hM c o k (by unfold rkM at q; omega)), hF⟩
theorem ab_X {x : Int32} (h : -999 ≤ x ∧ x ≤ 999) : ab x 999 := by
  have h1 := (fa_le _ _).mp h.1
  have h2 := (fa_le _ _).mp h.2
  have e1 : (-999 : Int32).toInt = -999 := by decide
  have e2 : (999 : Int32).toInt = 999 := by decide
  unfold ab
  omega
theorem pub_film {σ μ : St} (h : Inv σ μ) (x1 x2 : Int32) : wp_X8_film x1 x2 (fun r σ' => wp_X9_film x1 x2 (fun r' μ' => r' = r ∧ Inv σ' μ') μ) σ := by
  have h0 := h
  obtain ⟨_, _, cnt, F, M, f1, f2, f3, f4⟩ := h0
  unfold wp_X8_film wp_X8_film_24
  refine c_within (fun hx => ⟨fun _ => ?_, n00⟩) (fun hx => ⟨n10, fun _ => ?_⟩)
  · unfold wp_X9_film wp_X9_film_14
    exact m_isX (fun _ => ⟨fun _ => ⟨rfl, h⟩, n00⟩) (fun q => absurd q hx)
  · refine c_within (fun hy => ⟨n00, fun _ => ?_⟩) (fun hy => ⟨fun _ => ?_, n10⟩)
    · unfold wp_X9_film wp_X9_film_14
      exact m_isX (fun q => absurd hx q) (fun _ => ⟨n10, fun _ => m_isV (fun _ => ⟨n00, fun _ => ⟨rfl, h⟩⟩) (fun q => absurd q hy)⟩)
    · rw [f2, show (nI cnt < 24 ↔ cnt < 24) from nI_ltI (b := 24) (by omega) (by decide)]
      refine ⟨fun hl => ?_, fun hl => ?_⟩
      · unfold wp_X2_append wp_X2_append_39
        rw [f2, nI_clamp (by omega), nI_1]
        refine ⟨fun z => absurd z (nI_ge (a := cnt) (b := 24) hl (by decide)), fun _ => ⟨pk_in cnt 25 (by omega), pk_in cnt 24 hl, ?_⟩⟩
        dsimp only
        rw [su_eq]
        unfold wp_X9_film
        refine m_isX (fun q => absurd hx q) (fun _ => ⟨n10, fun _ => m_isV (fun q => absurd hy q) (fun _ => ⟨fun _ => ?_, n10⟩)⟩)
        rw [f3, nI_clamp (by omega), nI_1]
        refine ⟨fun _ => ⟨pk_in cnt 25 (by omega), pk_in cnt 25 (by omega), rfl, h.film ?_ ?_ ?_⟩, fun z => absurd ((nI_eq (b := 24) (by omega) (by decide)).mp z) (by omega)⟩
        · intro c o k hc
          unfold su
          rw [if_neg (by omega), if_neg (by omega), if_neg (by omega)]
        · intro c o k hc
          unfold su
          rw [if_neg (by omega), if_neg (by omega), if_neg (by omega)]
        · refine ⟨cnt + 1, fun t => if t = cnt then x1 else F t, fun t => if t = cnt then x2 else M t, by omega, su_eq, su_eq, fun t ht => ?_⟩
          by_cases e : t = cnt
          · subst e
            simp only [if_true]
            exact ⟨(su_nc rfl).trans ((su_nc rfl).trans su_eq), ab_X hx, (su_nc rfl).trans su_eq, (su_nc rfl).trans ((su_nc rfl).trans su_eq), (su_nc rfl).trans su_eq⟩
          · simp only [if_neg e]
            obtain ⟨u, v, w, y, z⟩ := f4 t (by omega)
            exact ⟨(su_nc rfl).trans ((su_nc rfl).trans ((su_nk' e).trans u)), v, (su_nc rfl).trans ((su_nk' e).trans ((su_nc rfl).trans w)), (su_nc rfl).trans ((su_nc rfl).trans ((su_nk' e).trans y)), (su_nc rfl).trans ((su_nk' e).trans ((su_nc rfl).trans z))⟩
      · have e24 : cnt = 24 := by omega
        subst e24
        unfold wp_X9_film
        refine m_isX (fun q => absurd hx q) (fun _ => ⟨n10, fun _ => m_isV (fun q => absurd hy q) (fun _ => ⟨fun _ => ?_, n10⟩)⟩)
        rw [f3]
        exact ⟨fun z => absurd rfl z, fun _ => ⟨rfl, h⟩⟩
theorem pub_wind {σ μ : St} (h : Inv σ μ) : wp_X8_wind (fun r σ' => wp_X9_wind (fun r' μ' => r' = r ∧ Inv σ' μ') μ) σ := by
  have h0 := h
  obtain ⟨_, _, cnt, F, M, f1, f2, f3, f4⟩ := h0
  unfold wp_X8_wind wp_X9_wind
  rw [f2, f3]
  refine ⟨rfl, h.film ?_ ?_ ⟨0, F, M, by omega, su_eq, su_eq, fun t ht => absurd ht (Nat.not_lt_zero t)⟩⟩
  · intro c o k hc
    unfold su
    rw [if_neg (by omega)]
  · intro c o k hc
    unfold su
    rw [if_neg (by omega)]
