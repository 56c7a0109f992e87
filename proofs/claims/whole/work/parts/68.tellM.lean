/-! TEXT: the lines are done: the reference -/
def offTm (μ μ' : St) : Prop := ∀ c o k, ¬ ((c = 0 ∧ 8 ≤ k ∧ k ≤ 17) ∨ c = 3 ∨ c = 4 ∨ c = 5 ∨ c = 6) → μ' c o k = μ c o k
theorem offTm.rf {a : St} : offTm a a := fun _ _ _ _ => rfl
theorem offTm.trans {a b c : St} (h1 : offTm a b) (h2 : offTm b c) : offTm a c := fun x y z h => (h2 x y z h).trans (h1 x y z h)
theorem TgM.congr {μ μ' : St} {t ob n : Nat} {kd own : Int32} {h w : Nat → Int32} (hT : TgM μ t kd own ob n h w) (h3 : μ' 3 0 t = μ 3 0 t) (h4 : μ' 4 0 t = μ 4 0 t) (h5 : μ' 5 0 t = μ 5 0 t) (h6 : ∀ k, 8 * t ≤ k → k < 8 * t + 8 → μ' 6 0 k = μ 6 0 k) : TgM μ' t kd own ob n h w := by
  obtain ⟨a1, a2, a3, a4, a5, a6, a7, a8⟩ := hT
  exact ⟨h3.trans a1, h4.trans a2, a3, a4, h5.trans a5, a6, fun i hi => ⟨(h6 _ (by omega) (by omega)).trans (a7 i hi).1, (h6 _ (by omega) (by omega)).trans (a7 i hi).2⟩, a8⟩
theorem TsM.one {μ μ' : St} {T T' : TS} {t : Nat} (hT : TsM μ T) (h3 : ∀ u, ¬ u = t → μ' 3 0 u = μ 3 0 u) (h4 : ∀ u, ¬ u = t → μ' 4 0 u = μ 4 0 u) (h5 : ∀ u, ¬ u = t → μ' 5 0 u = μ 5 0 u) (h6 : ∀ k, ¬ (8 * t ≤ k ∧ k < 8 * t + 8) → μ' 6 0 k = μ 6 0 k) (hE : ∀ u, ¬ u = t → T' u = T u) (h1 : TgM μ' t (T' t).1 (nI (T' t).2.1) (T' t).2.1 (T' t).2.2.1 (T' t).2.2.2.1 (T' t).2.2.2.2) : TsM μ' T' := by
  intro u hu
  by_cases e : u = t
  · rw [e]
    exact h1
  · rw [hE u e]
    exact (hT u hu).congr (h3 u e) (h4 u e) (h5 u e) (fun k k1 k2 => h6 k (by omega))
theorem tlN_one {μ : St} {N : Nat → Int32} {w : Nat} {vs : List Nat} (hN : ∀ k, k < 10 → μ 0 0 (8 + k) = N k) (h1 : 4 ≤ w) (hl : vs.length = 1) : ∀ k, k < 10 → su μ 0 0 (9 + w) (nI (vs.getD 0 0)) 0 0 (8 + k) = tlN w vs N k := by
  intro k hk
  have p : plS2 w = w + 1 := if_neg (by omega)
  unfold tlN
  rw [p]
  by_cases e : k = w + 1
  · subst e
    rw [show 8 + (w + 1) = 9 + w by omega, su_eq, if_pos (by omega), Nat.sub_self]
  · rw [su_nk' (by omega), if_neg (by omega)]
    exact hN k hk
theorem tlN_man {μ : St} {N : Nat → Int32} {vs : List Nat} (hN : ∀ k, k < 10 → μ 0 0 (8 + k) = N k) (hl : vs.length = 5) : ∀ k, k < 10 → su (su (su (su (su μ 0 0 8 (nI (vs.getD 0 0))) 0 0 9 (nI (vs.getD 1 0))) 0 0 10 (nI (vs.getD 2 0))) 0 0 11 (nI (vs.getD 3 0))) 0 0 12 (nI (vs.getD 4 0)) 0 0 (8 + k) = tlN 3 vs N k := by
  intro k hk
  have p : plS2 3 = 0 := rfl
  unfold tlN
  rw [p, hl]
  by_cases e : 5 ≤ k
  · rw [su_nk' (by omega), su_nk' (by omega), su_nk' (by omega), su_nk' (by omega), su_nk' (by omega), if_neg (by omega)]
    exact hN k hk
  · rw [if_pos (by omega)]
    rcases (show k = 0 ∨ k = 1 ∨ k = 2 ∨ k = 3 ∨ k = 4 by omega) with q | q | q | q | q
    · subst q
      exact (su_nk rfl).trans ((su_nk rfl).trans ((su_nk rfl).trans ((su_nk rfl).trans su_eq)))
    · subst q
      exact (su_nk rfl).trans ((su_nk rfl).trans ((su_nk rfl).trans su_eq))
    · subst q
      exact (su_nk rfl).trans ((su_nk rfl).trans su_eq)
    · subst q
      exact (su_nk rfl).trans su_eq
    · subst q
      exact su_eq
theorem sp_tellLineM {μ : St} {N : Nat → Int32} {T : TS} {w i : Nat} {vs : List Nat} {x1 : Int32} {post : St → Prop} (hN : ∀ k, k < 10 → μ 0 0 (8 + k) = N k) (hT : TsM μ T) (hw : w < 9) (hr : inR (rgS w) vs) (h4 : w = 1 → ¬ (T (vs.getD 0 0)).2.2.1 = 4) (hi : i < 8) (hL : LnM μ i w vs) (e1 : x1 = nI (6 * i)) (h : ∀ μ', offTm μ μ' → (∀ k, k < 10 → μ' 0 0 (8 + k) = tlN w vs N k) → TsM μ' (tlT w vs T) → post μ') : wp_X9_tell x1 post μ := by
  subst e1
  have X1 : nI (6 * i) + 1 = nI (6 * i + 1) := nI_1 _
  have X2 : nI (6 * i) + 2 = nI (6 * i + 2) := nI_add _ 2
  have X3 : nI (6 * i) + 3 = nI (6 * i + 3) := nI_add _ 3
  have X4 : nI (6 * i) + 4 = nI (6 * i + 4) := nI_add _ 4
  have X5 : nI (6 * i) + 5 = nI (6 * i + 5) := nI_add _ 5
  obtain ⟨m0, mj⟩ := hL
  have hl1 : 0 < vs.length := by
    rw [hr.1]
    rcases (show w = 0 ∨ w = 1 ∨ w = 2 ∨ w = 3 ∨ w = 4 ∨ w = 5 ∨ w = 6 ∨ w = 7 ∨ w = 8 by omega) with q | q | q | q | q | q | q | q | q <;> subst q <;> decide
  have m1 : μ 2 0 (6 * i + 1) = nI (vs.getD 0 0) := mj 0 hl1
  have q : ∀ n, n < 9 → (nI w = nI n ↔ w = n) := fun n hn => nI_eq (by omega) (by omega)
  have q0 : nI w = 0 ↔ w = 0 := q 0 (by decide)
  have q1 : nI w = 1 ↔ w = 1 := q 1 (by decide)
  have q2 : nI w = 2 ↔ w = 2 := q 2 (by decide)
  have q3 : nI w = 3 ↔ w = 3 := q 3 (by decide)
  have q4 : nI w = 4 ↔ w = 4 := q 4 (by decide)
  have q5 : nI w = 5 ↔ w = 5 := q 5 (by decide)
  have q6 : nI w = 6 ↔ w = 6 := q 6 (by decide)
  have q7 : nI w = 7 ↔ w = 7 := q 7 (by decide)
  have su0 : ∀ k, 8 ≤ k → k ≤ 17 → ∀ (ν : St) v, offTm ν (su ν 0 0 k v) := by
    intro k k1 k2 ν v c o z hc
    unfold su
    rw [if_neg (by omega)]
  have one : ∀ n, 4 ≤ w → rgS w = raS w → (raS w).length = 1 → n = 9 + w → post (su μ 0 0 n (nI (vs.getD 0 0))) := by
    intro n hw4 hrg hra hn
    subst hn
    have hl : vs.length = 1 := by rw [hr.1, hrg, hra]
    refine h _ (su0 _ (by omega) (by omega) μ _) (tlN_one hN hw4 hl) ?_
    rw [tlT_3 (by omega)]
    intro t ht
    exact (hT t ht).congr (su_nc rfl) (su_nc rfl) (su_nc rfl) (fun _ _ _ => su_nc rfl)
  unfold wp_X9_tell
  rw [X1, X2, X3, X4, X5, nI_clamp (n := 6 * i + 1) (by omega), nI_clamp (n := 6 * i + 2) (by omega), nI_clamp (n := 6 * i + 3) (by omega), nI_clamp (n := 6 * i + 4) (by omega), nI_clamp (n := 6 * i + 5) (by omega), nI_clamp (n := 6 * i) (by omega), m0, m1, q0, q1, q2, q3, q4, q5, q6, q7]
  refine ⟨pk_in (6 * i + 1) 48 (by omega), pk_in (6 * i + 2) 48 (by omega), pk_in (6 * i + 3) 48 (by omega), pk_in (6 * i) 48 (by omega), fun z => ?_, fun z0 => ⟨fun z => ?_, fun z1 => ⟨fun z => ?_, fun z2 => ⟨fun z => ?_, fun z3 => ⟨fun z => ?_, fun z4 => ⟨fun z => ?_, fun z5 => ⟨fun z => ?_, fun z6 => ⟨fun z => ?_, fun z7 => ?_⟩⟩⟩⟩⟩⟩⟩⟩
  · subst z
    have t3 := rg_first (by decide) hr
    have hl : vs.length = 3 := hr.1
    have r2 : 0 ≤ vs.getD 2 0 ∧ vs.getD 2 0 ≤ 9 := hr.2 2 (by decide)
    have V : vp_in (nI (vs.getD 0 0)) 4 := pk_in (vs.getD 0 0) 4 (by omega)
    rw [show μ 2 0 (6 * i + 2) = nI (vs.getD 1 0) from mj 1 (by omega), show μ 2 0 (6 * i + 3) = nI (vs.getD 2 0) from mj 2 (by omega), nI_clamp (n := vs.getD 0 0) (by omega)]
    refine ⟨V, V, h _ ?_ ?_ ?_⟩
    · intro c o k hc
      unfold su
      rw [if_neg (by omega), if_neg (by omega)]
    · intro k hk
      rw [su_nc rfl, su_nc rfl, tlN_3 (by decide)]
      exact hN k hk
    · obtain ⟨a1, a2, a3, a4, a5, a6, a7, a8⟩ := hT (vs.getD 0 0) (by omega)
      refine hT.one (t := vs.getD 0 0) (fun u hu => (su_nc rfl).trans (su_nk' hu)) (fun u hu => (su_nk' hu).trans (su_nc rfl)) (fun u hu => (su_nc rfl).trans (su_nc rfl)) (fun k _ => (su_nc rfl).trans (su_nc rfl)) (fun u hu => tlT_ne hu) ?_
      rw [tlT_0]
      exact ⟨(su_nc rfl).trans su_eq, su_eq, rfl, r2.2, (su_nc rfl).trans ((su_nc rfl).trans a5), a6, fun j hj => ⟨(su_nc rfl).trans ((su_nc rfl).trans (a7 j hj).1), (su_nc rfl).trans ((su_nc rfl).trans (a7 j hj).2)⟩, a8⟩
  · subst z
    have t3 := rg_first (by decide) hr
    have hl : vs.length = 3 := hr.1
    have r1 : 1 ≤ vs.getD 1 0 ∧ vs.getD 1 0 ≤ 300 := hr.2 1 (by decide)
    have r2 : 1 ≤ vs.getD 2 0 ∧ vs.getD 2 0 ≤ 99 := hr.2 2 (by decide)
    have V : vp_in (nI (vs.getD 0 0)) 4 := pk_in (vs.getD 0 0) 4 (by omega)
    obtain ⟨a1, a2, a3, a4, a5, a6, a7, a8⟩ := hT (vs.getD 0 0) (by omega)
    have n4 : (T (vs.getD 0 0)).2.2.1 < 4 := by
      have := h4 rfl
      omega
    rw [show μ 2 0 (6 * i + 2) = nI (vs.getD 1 0) from mj 1 (by omega), show μ 2 0 (6 * i + 3) = nI (vs.getD 2 0) from mj 2 (by omega), nI_clamp (n := vs.getD 0 0) (by omega), a5, m8 rfl rfl, nI_1, nI_1, nI_clamp (n := 8 * vs.getD 0 0 + 2 * (T (vs.getD 0 0)).2.2.1) (by omega), nI_clamp (n := 8 * vs.getD 0 0 + 2 * (T (vs.getD 0 0)).2.2.1 + 1) (by omega)]
    refine ⟨V, pk_in (8 * vs.getD 0 0 + 2 * (T (vs.getD 0 0)).2.2.1) 32 (by omega), V, pk_in (8 * vs.getD 0 0 + 2 * (T (vs.getD 0 0)).2.2.1 + 1) 32 (by omega), V, V, h _ ?_ ?_ ?_⟩
    · intro c o k hc
      unfold su
      rw [if_neg (by omega), if_neg (by omega), if_neg (by omega)]
    · intro k hk
      rw [su_nc rfl, su_nc rfl, su_nc rfl, tlN_3 (by decide)]
      exact hN k hk
    · refine hT.one (t := vs.getD 0 0) (fun u hu => (su_nc rfl).trans ((su_nc rfl).trans (su_nc rfl))) (fun u hu => (su_nc rfl).trans ((su_nc rfl).trans (su_nc rfl))) (fun u hu => (su_nk' hu).trans ((su_nc rfl).trans (su_nc rfl))) (fun k hk => (su_nc rfl).trans ((su_nk' (by omega)).trans (su_nk' (by omega)))) (fun u hu => tlT_ne hu) ?_
      rw [tlT_1]
      refine ⟨(su_nc rfl).trans ((su_nc rfl).trans ((su_nc rfl).trans a1)), (su_nc rfl).trans ((su_nc rfl).trans ((su_nc rfl).trans a2)), rfl, a4, su_eq, by show _ + 1 ≤ 4; omega, fun j hj => ?_, LB_add a8 r1 r2⟩
      by_cases e : j = (T (vs.getD 0 0)).2.2.1
      · subst e
        exact ⟨(su_nc rfl).trans ((su_nk' (by omega)).trans (su_eq.trans (by simp [upd]))), (su_nc rfl).trans (su_eq.trans (by simp [upd]))⟩
      · have hj2 : j < (T (vs.getD 0 0)).2.2.1 + 1 := hj
        exact ⟨(su_nc rfl).trans ((su_nk' (by omega)).trans ((su_nk' (by omega)).trans ((a7 j (by omega)).1.trans (by simp only [upd, if_neg e])))), (su_nc rfl).trans ((su_nk' (by omega)).trans ((su_nk' (by omega)).trans ((a7 j (by omega)).2.trans (by simp only [upd, if_neg e]))))⟩
  · subst z
    have t3 := rg_first (by decide) hr
    have V : vp_in (nI (vs.getD 0 0)) 4 := pk_in (vs.getD 0 0) 4 (by omega)
    rw [nI_clamp (n := vs.getD 0 0) (by omega)]
    refine ⟨V, h _ ?_ ?_ ?_⟩
    · intro c o k hc
      unfold su
      rw [if_neg (by omega)]
    · intro k hk
      rw [su_nc rfl, tlN_3 (by decide)]
      exact hN k hk
    · obtain ⟨a1, a2, a3, a4, a5, a6, a7, a8⟩ := hT (vs.getD 0 0) (by omega)
      refine hT.one (t := vs.getD 0 0) (fun u hu => su_nc rfl) (fun u hu => su_nc rfl) (fun u hu => su_nk' hu) (fun k _ => su_nc rfl) (fun u hu => tlT_ne hu) ?_
      rw [tlT_2]
      exact ⟨(su_nc rfl).trans a1, (su_nc rfl).trans a2, rfl, a4, su_eq, Nat.zero_le _, fun j hj => absurd hj (Nat.not_lt_zero j), fun j hj => absurd hj (Nat.not_lt_zero j)⟩
  · subst z
    have hl : vs.length = 5 := hr.1
    rw [show μ 2 0 (6 * i + 2) = nI (vs.getD 1 0) from mj 1 (by omega), show μ 2 0 (6 * i + 3) = nI (vs.getD 2 0) from mj 2 (by omega), show μ 2 0 (6 * i + 4) = nI (vs.getD 3 0) from mj 3 (by omega), show μ 2 0 (6 * i + 5) = nI (vs.getD 4 0) from mj 4 (by omega)]
    refine ⟨pk_in (6 * i + 4) 48 (by omega), pk_in (6 * i + 5) 48 (by omega), h _ ?_ (tlN_man hN hl) ?_⟩
    · exact ((((su0 _ (by decide) (by decide) _ _).trans (su0 _ (by decide) (by decide) _ _)).trans (su0 _ (by decide) (by decide) _ _)).trans (su0 _ (by decide) (by decide) _ _)).trans (su0 _ (by decide) (by decide) _ _)
    · rw [tlT_3 (by decide)]
      intro t ht
      have nc : ∀ c k, Nat.beq c 0 = false → su (su (su (su (su μ 0 0 8 (nI (vs.getD 0 0))) 0 0 9 (nI (vs.getD 1 0))) 0 0 10 (nI (vs.getD 2 0))) 0 0 11 (nI (vs.getD 3 0))) 0 0 12 (nI (vs.getD 4 0)) c 0 k = μ c 0 k := fun c k hc => (su_nc hc).trans ((su_nc hc).trans ((su_nc hc).trans ((su_nc hc).trans (su_nc hc))))
      exact (hT t ht).congr (nc 3 t rfl) (nc 4 t rfl) (nc 5 t rfl) (fun k _ _ => nc 6 k rfl)
  · subst z
    exact one 13 (by decide) rfl rfl rfl
  · subst z
    exact one 14 (by decide) rfl rfl rfl
  · subst z
    exact one 15 (by decide) rfl rfl rfl
  · subst z
    exact one 16 (by decide) rfl rfl rfl
  · have e8 : w = 8 := by omega
    subst e8
    exact one 17 (by decide) rfl rfl rfl
theorem sp_tellM {μ : St} {N : Nat → Int32} {T : TS} {C : Nat → Nat} {L : List (Nat × List Nat)} {post : Int32 → St → Prop} (hN : ∀ k, k < 10 → μ 0 0 (8 + k) = N k) (hT : TsM μ T) (h3 : μ 0 0 3 = nI L.length) (h8 : L.length ≤ 8) (hL : LsM μ L) (hok : okL L C) (hC : ∀ t, t < 4 → C t = (T t).2.2.1) (h : ∀ μ', offTm μ μ' → (∀ k, k < 10 → μ' 0 0 (8 + k) = doN L N k) → TsM μ' (doT L T) → post (nI L.length) (su μ' 0 0 1 0)) : ∃ nn, wp_X9_chin_13 post nn 0 μ := by
  have loop : ∀ (l pre : List (Nat × List Nat)) C1 N1 T1 μ1, pre ++ l = L → offTm μ μ1 → (∀ k, k < 10 → μ1 0 0 (8 + k) = N1 k) → TsM μ1 T1 → okL l C1 → (∀ t, t < 4 → C1 t = (T1 t).2.2.1) → doN l N1 = doN L N → doT l T1 = doT L T → wp_X9_chin_13 post (l.length + 1) (nI pre.length) μ1 := by
    intro l
    induction l with
    | nil =>
      intro pre C1 N1 T1 μ1 e ho hn1 ht1 _ _ eN eT
      have el : pre.length = L.length := by rw [← e, List.append_nil]
      unfold wp_X9_chin_13
      rw [ho 0 0 3 (by omega), h3, el]
      refine ⟨fun _ => h μ1 ho (fun k hk => by rw [← eN]; exact hn1 k hk) (by rw [← eT]; exact ht1), fun hc => absurd (nI_le (Nat.le_refl L.length) (by omega)) hc⟩
    | cons p l ih =>
      intro pre C1 N1 T1 μ1 e ho hn1 ht1 hok1 hc1 eN eT
      obtain ⟨w, vs⟩ := p
      have el : pre.length < L.length := by
        rw [← e, List.length_append, List.length_cons]
        omega
      have eg : L.getD pre.length (0, []) = (w, vs) := by
        rw [← e, List.getD_eq_getElem?_getD, List.getElem?_append_right (Nat.le_refl _), Nat.sub_self]
        rfl
      obtain ⟨⟨l0, lj⟩, lv⟩ := hL pre.length el
      rw [eg] at l0 lj lv
      dsimp only at l0 lj lv
      obtain ⟨k9, kr, k4, kl⟩ := hok1
      dsimp only at k9 kr k4 kl
      have X6 : 6 * nI pre.length = nI (6 * pre.length) := by rw [show (6 : Int32) = nI 6 from rfl, pk_mul]
      have E : wp_X9_chin_13 post (((w, vs) :: l).length + 1) (nI pre.length) μ1 = wp_X9_chin_13 post (l.length + 1 + 1) (nI pre.length) μ1 := rfl
      rw [E]
      unfold wp_X9_chin_13
      rw [ho 0 0 3 (by omega), h3, X6]
      refine ⟨fun hc => absurd hc (nI_ge (by omega) (by omega)), fun _ => ?_⟩
      refine sp_tellLineM hn1 ht1 k9 kr (fun w1 => ?_) (by omega) ⟨(ho 2 0 _ (by omega)).trans l0, fun j hj => (ho 2 0 _ (by omega)).trans (lj j hj)⟩ rfl (fun μ2 o2 n2 t2 => ?_)
      · have t3 := rg_first (by omega) kr
        rw [← hc1 _ (by omega)]
        exact k4 w1
      · rw [nI_1]
        have q := ih (pre ++ [(w, vs)]) (upC C1 w vs) (tlN w vs N1) (tlT w vs T1) μ2 (by rw [List.append_assoc]; exact e) (ho.trans o2) n2 t2 kl (upC_tl hc1) eN eT
        rw [List.length_append, List.length_singleton] at q
        exact q
  exact ⟨L.length + 1, loop L [] C N T μ rfl offTm.rf hN hT hok hC rfl rfl⟩
theorem tlN_NB {N : Nat → Int32} {w : Nat} {vs : List Nat} (h : NB N) (hw : w < 9) (hr : inR (rgS w) vs) : NB (tlN w vs N) := by
  intro k hk
  unfold tlN
  by_cases q : 3 ≤ w ∧ plS2 w ≤ k ∧ k < plS2 w + vs.length
  · rw [if_pos q]
    have rg : rgS w = raS w := by
      unfold rgS
      rw [if_neg (by omega), if_neg (by omega), if_neg (by omega)]
    have o9 := okR_all w q.1 hw
    rw [rg] at hr
    have hl := hr.1
    obtain ⟨a, b, c, d⟩ := o9.1 (k - plS2 w) (by omega)
    have hb := hr.2 (k - plS2 w) (by omega)
    rw [show plS2 w + (k - plS2 w) = k by omega] at a b
    rw [a, b, nI_toInt (by omega), nI_toInt (by omega), nI_toInt (by omega)]
    omega
  · rw [if_neg q]
    exact h k hk
theorem doN_NB : ∀ L N C, okL L C → NB N → NB (doN L N)
  | [], _, _, _, h => h
  | p :: l, N, C, hok, h => doN_NB l (tlN p.1 p.2 N) (upC C p.1 p.2) hok.2.2.2 (tlN_NB h hok.1 hok.2.1)
theorem NB.late {N : Nat → Int32} (h : NB N) : ∃ la, la ≤ 6 ∧ N 2 = nI la := by
  have h2 := h.at 2 (by decide) (lo := 0) (hi := 6) (by decide) (by decide)
  refine ⟨(N 2).toInt.toNat, by omega, ?_⟩
  apply i_ext
  rw [nI_toInt (by omega)]
  omega
