/-! WHOLE: two, fits, next -/
theorem c_hasLumps {σ : St} {T : TS} {t : Nat} {x : Int32} {post : Int32 → St → Prop} (hT : TcC σ T) (ht : t < 4) (e : x = nI t) (h0 : (T t).2.2.1 = 0 → post 0 σ) (h1 : ¬ (T t).2.2.1 = 0 → post 1 σ) : wp_X8_hasLumps x post σ := by
  subst e
  have b := hT t ht
  rw [e_hasLumps (in_nat (m := 0) (n := 3) (by decide) (by decide) (by omega) (by omega)), nI_clamp (by omega), b.2.2.2.2.2.2.1]
  by_cases hl : (T t).2.2.1 = 0
  · rw [bi_f (fun z => z ((lump_0 b.2.2.2.2.1).1.mpr hl))]
    exact h0 hl
  · rw [bi_t (show ¬ nI (T t).2.2.1 ≤ 0 from fun z => hl ((lump_0 b.2.2.2.2.1).1.mp z))]
    exact h1 hl
theorem TgM.offA {μ μ' : St} {t ob n : Nat} {kd own : Int32} {h w : Nat → Int32} (hT : TgM μ t kd own ob n h w) (ho : offA μ μ') : TgM μ' t kd own ob n h w := hT.congr (ho 3 0 t (by omega)) (ho 4 0 t (by omega)) (ho 5 0 t (by omega)) (fun k _ _ => ho 6 0 k (by omega))
theorem TgM.offR {μ μ' : St} {t ob n r : Nat} {kd own : Int32} {h w : Nat → Int32} (hT : TgM μ t kd own ob n h w) (ho : offR r μ μ') : TgM μ' t kd own ob n h w := hT.congr (ho 3 0 t (by omega)) (ho 4 0 t (by omega)) (ho 5 0 t (by omega)) (fun k _ _ => ho 6 0 k (by omega))
theorem pub_two {σ μ : St} (h : Inv σ μ) (x1 x2 x3 x4 x5 x6 : Int32) : wp_X8_two x1 x2 x3 x4 x5 x6 (fun r σ' => wp_X9_two x1 x2 x3 x4 x5 x6 (fun r' μ' => r' = r ∧ Inv σ' μ') μ) σ := by
  have h0 := h
  obtain ⟨⟨N, la, T, B, len, dr, L, a1, a2, a3, a4, a5, a6, a7, a8, a9, a10⟩, hK, hF⟩ := h0
  have un : ¬ ((0 ≤ x1 ∧ x1 ≤ 3) ∧ (0 ≤ x3 ∧ x3 ≤ 3)) → wp_X9_two x1 x2 x3 x4 x5 x6 (fun r' μ' => r' = -2 ∧ Inv σ μ') μ := by
    intro hb
    unfold wp_X9_two wp_X9_two_14
    exact m_isThing (fun _ => ⟨fun _ => ⟨rfl, h⟩, n00⟩) (fun q1 => ⟨n10, fun _ => m_isThing (fun _ => ⟨n00, fun _ => ⟨rfl, h⟩⟩) (fun q2 => absurd ⟨q1, q2⟩ hb)⟩)
  have into : ∀ {P : Int32 → St → Prop}, (0 ≤ x1 ∧ x1 ≤ 3) → (0 ≤ x3 ∧ x3 ≤ 3) → (¬ ((-999 ≤ x2 ∧ x2 ≤ 999) ∧ (-999 ≤ x4 ∧ x4 ≤ 999) ∧ (1 ≤ x5 ∧ x5 ≤ 9) ∧ (1 ≤ x6 ∧ x6 ≤ 9)) → P (-3) μ) → ((-999 ≤ x2 ∧ x2 ≤ 999) → (-999 ≤ x4 ∧ x4 ≤ 999) → (1 ≤ x5 ∧ x5 ≤ 9) → (1 ≤ x6 ∧ x6 ≤ 9) → (vp_in x1 4 ∧ (((μ 5 0 x1.toNatClampNeg) = 0 → P (-4) μ) ∧ (¬ (μ 5 0 x1.toNatClampNeg) = 0 → (vp_in x3 4 ∧ ((¬ (μ 5 0 x3.toNatClampNeg) = 0 → wp_X9_asTold x1 (fun σ7 => wp_X9_start 0 x2 0 (fun σ8 => wp_X9_start 1 x4 0 (fun σ9 => ∃ nn, wp_X9_two_105 x1 x2 x3 x4 x5 x6 P nn 0 σ9) σ8) σ7) μ) ∧ ((μ 5 0 x3.toNatClampNeg) = 0 → P (-4) μ))))))) → wp_X9_two x1 x2 x3 x4 x5 x6 P μ := by
    intro P t1 t3 hn hy
    unfold wp_X9_two wp_X9_two_58 wp_X9_two_79
    exact m_isThing (fun q => absurd t1 q) (fun _ => ⟨n10, fun _ => m_isThing (fun q => absurd t3 q) (fun _ => ⟨fun _ => m_isX (fun q => ⟨fun _ => hn (fun z => q z.1), n00⟩) (fun p1 => ⟨n10, fun _ => m_isX (fun q => ⟨fun _ => hn (fun z => q z.2.1), n00⟩) (fun p2 => ⟨n10, fun _ => m_in (a := 1) (b := 9) rfl rfl (fun q => ⟨fun _ => hn (fun z => q z.2.2.1), n00⟩) (fun p3 => ⟨n10, fun _ => m_in (a := 1) (b := 9) rfl rfl (fun q => ⟨n00, fun _ => hn (fun z => q z.2.2.2)⟩) (fun p4 => ⟨fun _ => hy p1 p2 p3 p4, n10⟩)⟩)⟩)⟩), n10⟩)⟩)
  unfold wp_X8_two wp_X8_two_14 wp_X8_two_66 wp_X8_two_85
  refine c_isThing (fun q => ⟨fun _ => un (fun z => q z.1), n00⟩) (fun t1 => ⟨n10, fun _ => c_isThing (fun q => ⟨n00, fun _ => un (fun z => q z.2)⟩) (fun t3 => ⟨fun _ => ?_, n10⟩)⟩)
  have ou : ¬ ((-999 ≤ x2 ∧ x2 ≤ 999) ∧ (-999 ≤ x4 ∧ x4 ≤ 999) ∧ (1 ≤ x5 ∧ x5 ≤ 9) ∧ (1 ≤ x6 ∧ x6 ≤ 9)) → wp_X9_two x1 x2 x3 x4 x5 x6 (fun r' μ' => r' = -3 ∧ Inv σ μ') μ := fun hb => into t1 t3 (fun _ => ⟨rfl, h⟩) (fun p1 p2 p3 p4 => absurd ⟨p1, p2, p3, p4⟩ hb)
  refine c_within (fun q => ⟨fun _ => ou (fun z => q z.1), n00⟩) (fun p1 => ⟨n10, fun _ => c_within (fun q => ⟨fun _ => ou (fun z => q z.2.1), n00⟩) (fun p2 => ⟨n10, fun _ => c_within (fun q => ⟨fun _ => ou (fun z => q z.2.2.1), n00⟩) (fun p3 => ⟨n10, fun _ => c_within (fun q => ⟨n00, fun _ => ou (fun z => q z.2.2.2)⟩) (fun p4 => ⟨fun _ => ?_, n10⟩)⟩)⟩)⟩)
  obtain ⟨t, -, ht, et⟩ := nat_in (m := 0) (n := 3) t1 (by decide) (by decide)
  obtain ⟨u, -, hu, eu⟩ := nat_in (m := 0) (n := 3) t3 (by decide) (by decide)
  obtain ⟨p, hp1, hp, ep⟩ := nat_in (m := 1) (n := 9) p3 (by decide) (by decide)
  obtain ⟨w, hw1, hw, ew⟩ := nat_in (m := 1) (n := 9) p4 (by decide) (by decide)
  have bt := a4 t (by omega)
  have bu := a4 u (by omega)
  have ct : x1.toNatClampNeg = t := by rw [et, nI_clamp (by omega)]
  have cu : x3.toNatClampNeg = u := by rw [eu, nI_clamp (by omega)]
  have V1 : vp_in x1 4 := pk_in t 4 (by omega) et
  have V3 : vp_in x3 4 := pk_in u 4 (by omega) eu
  have absd : ∀ {Q : Prop}, ¬ ((-999 ≤ x2 ∧ x2 ≤ 999) ∧ (-999 ≤ x4 ∧ x4 ≤ 999) ∧ (1 ≤ x5 ∧ x5 ≤ 9) ∧ (1 ≤ x6 ∧ x6 ≤ 9)) → Q := fun q => absurd ⟨p1, p2, p3, p4⟩ q
  refine c_hasLumps a3 (by omega) et (fun z => ⟨fun _ => into t1 t3 absd (fun _ _ _ _ => ?_), n00⟩) (fun z1 => ⟨n10, fun _ => c_hasLumps a3 (by omega) eu (fun z => ⟨n00, fun _ => into t1 t3 absd (fun _ _ _ _ => ?_)⟩) (fun z2 => ⟨fun _ => ?_, n10⟩)⟩)
  · rw [ct, bt.2.2.2.2.1, z]
    exact ⟨V1, fun _ => ⟨rfl, h⟩, n00⟩
  · rw [ct, cu, bt.2.2.2.2.1, bu.2.2.2.2.1, z]
    exact ⟨V1, fun _ => ⟨rfl, h⟩, fun _ => ⟨V3, n00, fun _ => ⟨rfl, h⟩⟩⟩
  · refine sp_takeRule (fun σ1 o1 e1 => sp_startC (fun σ2 o2 _ b2 => sp_startC (fun σ3 o3 _ b3 => ⟨V1, V3, ?_⟩)))
    rw [ct, cu]
    have R1 : RuC σ1 1 N la := ⟨fun k hk => (e1 k hk).trans (a1 k hk), a2.2⟩
    have A1 := (a3.off61 o1).thing (t := t) (by omega) z1
    have A2 := (a3.off61 o1).thing (t := u) (by omega) z2
    refine sp_bothC ((A1.offB o2).offB o3) ((A2.offB o2).offB o3) ((R1.offB o2).offB o3) hp1 hp hw1 hw ep ew (b2.off o3 (by decide)) b3 (fun σ4 o4 => into t1 t3 absd (fun _ _ _ _ => ?_))
    rw [ct, cu, bt.2.2.2.2.1, bu.2.2.2.2.1, (lump_0 bt.2.2.2.2.2.1).2, (lump_0 bu.2.2.2.2.2.1).2]
    refine ⟨V1, fun q => absurd q z1, fun _ => ⟨V3, fun _ => ?_, fun q => absurd q z2⟩⟩
    refine sp_asTold a2 bt ht et (fun μ1 q1 r1 _ _ _ => sp_startM (r := 0) (by decide) rfl (fun μ2 q2 w2 => sp_startM (r := 1) (by decide) rfl (fun μ3 q3 w3 => ?_)))
    refine sp_twoM (((bt.offA q1).offR q2).offR q3) (((bu.offA q1).offR q2).offR q3) (by omega) (by omega) ht hu ((r1.off q2).off q3) hp1 hp hw1 hw et eu ep ew (w2.off q3 (by decide) (by omega)) w3 (fun μ4 q4 => ⟨rfl, h.zy (((o1.Z.trans (o2.K (Or.inl rfl)).Z).trans (o3.K (Or.inr rfl)).Z).trans o4.Z) (((q1.Y.trans (q2.Y (by decide))).trans (q3.Y (by decide))).trans q4.Y)⟩)
/-! films -/
def fxS (F : Nat → Int32) (cnt : Nat) (x : Int32) : Nat → Int32 := fun t => if t = cnt then x else F t
theorem sp_seekC {σ : St} {N F M : Nat → Int32} {cnt : Nat} {x : Int32} {post : St → Prop} (h24 : cnt ≤ 24) (h19 : σ 19 0 0 = nI cnt) (hf : ∀ t, t < cnt → σ 20 0 t = F t ∧ ab (F t) 999 ∧ σ 21 0 t = M t) (hN : ∀ k, k < 10 → σ 6 0 k = N k) (hNB : NB N) (hx : ab x 999) (h : ∀ σ', (∀ c o k, ¬ ((c = 6 ∧ o = 2) ∨ (c = 19 ∧ 1 ≤ k) ∨ (c = 20 ∧ k = cnt)) → σ' c o k = σ c o k) → FoC σ' (FtS (fun r => fitF N (fxS F cnt x) M r cnt) (fun r => mvF N (fxS F cnt x) r cnt) 3087) → post σ') : wp_X2_seek 0 x post σ := by
  unfold wp_X2_seek
  rw [h19, nI_clamp (by omega)]
  refine ⟨pk_in cnt 25 (by omega), ?_⟩
  refine sp_seekLoopC (N := N) (F := fxS F cnt x) (M := M) (cnt := cnt) ⟨?_, h24, fun t ht => ?_, fun t ht => ?_, fun k k3 k10 => ?_, hNB⟩ ⟨?_, fun _ => ⟨?_, ?_, ?_⟩, fun z => absurd rfl z⟩ (fun σ' o1 f1 => h σ' (fun c o k hc => ?_) f1)
  · exact (su_nk rfl).trans ((su_nk rfl).trans ((su_nk rfl).trans ((su_nk rfl).trans ((su_nc rfl).trans ((sr_nc rfl).trans h19)))))
  · by_cases e : t = cnt
    · subst e
      unfold fxS
      rw [if_pos rfl]
      exact ⟨(su_nc rfl).trans ((su_nc rfl).trans ((su_nc rfl).trans ((su_nc rfl).trans su_eq))), hx⟩
    · unfold fxS
      rw [if_neg e]
      have q := hf t (by omega)
      exact ⟨(su_nc rfl).trans ((su_nc rfl).trans ((su_nc rfl).trans ((su_nc rfl).trans ((su_nk' e).trans ((sr_nc rfl).trans q.1))))), q.2.1⟩
  · exact (su_nc rfl).trans ((su_nc rfl).trans ((su_nc rfl).trans ((su_nc rfl).trans ((su_nc rfl).trans ((sr_nc rfl).trans (hf t ht).2.2)))))
  · refine (su_nc rfl).trans ((su_nc rfl).trans ((su_nc rfl).trans ((su_nc rfl).trans ((su_nc rfl).trans (sr_eq.trans ?_)))))
    rw [pk_cpy_in (by omega) (by omega)]
    simp only [Nat.sub_zero, Nat.zero_add]
    exact hN k k10
  · exact (su_nk rfl).trans ((su_nk rfl).trans ((su_nk rfl).trans su_eq))
  · exact (su_nk rfl).trans ((su_nk rfl).trans su_eq)
  · exact (su_nk rfl).trans su_eq
  · exact su_eq
  · rw [o1 c o k (by omega)]
    unfold su
    rw [if_neg (by omega), if_neg (by omega), if_neg (by omega), if_neg (by omega), if_neg (by omega)]
    exact sr_ne (by omega) k
theorem fit_congr {N F G M : Nat → Int32} {r cnt : Nat} (h : ∀ t, t < cnt → F t = G t) : ∀ n, n ≤ cnt → fitF N F M r n = fitF N G M r n
  | 0, _ => rfl
  | n + 1, hn => by
    rw [fitF, fitF, fit_congr h n (by omega)]
    unfold mvF
    rw [h (n - r / 441) (by omega), h (n - (r / 441 + 1)) (by omega)]
theorem FtS_congr {p p' : Nat → Bool} {V V' : Nat → Int32} (h : ∀ i, p i = p' i) : ∀ i, (FtS p V i).1 = (FtS p' V' i).1 ∧ (FtS p V i).2.1 = (FtS p' V' i).2.1
  | 0 => ⟨rfl, rfl⟩
  | i + 1 => by
    obtain ⟨u, v⟩ := FtS_congr (V := V) (V' := V') h i
    rw [FtS, FtS, h i]
    by_cases q : p' i = true
    · rw [if_pos q, if_pos q]
      dsimp only
      rw [u, v]
      exact ⟨rfl, rfl⟩
    · rw [if_neg q, if_neg q]
      exact ⟨u, v⟩
theorem ansF_congr {x : Int32} {s s' : Nat × Nat × Int32 × Int32} (h1 : s.1 = s'.1) (h2 : s.2.1 = s'.2.1) : ansF x s = ansF x s' := by
  unfold ansF
  rw [h1, h2]
theorem pub_fits {σ μ : St} (h : Inv σ μ) (x1 : Int32) : wp_X8_fits x1 (fun r σ' => wp_X9_fits x1 (fun r' μ' => r' = r ∧ Inv σ' μ') μ) σ := by
  have h0 := h
  obtain ⟨⟨N, la, T, B, len, dr, L, a1, a2, a3, a4, a5, a6, a7, a8, a9, a10⟩, hK, cnt, F, M, f1, f2, f3, f4⟩ := h0
  unfold wp_X8_fits
  refine c_within (fun hx => ⟨n00, fun _ => ?_⟩) (fun hx => ⟨fun _ => ?_, n10⟩)
  · unfold wp_X9_fits
    exact m_in (a := 0) (b := 3) rfl rfl (fun _ => ⟨n00, fun _ => ⟨rfl, h⟩⟩) (fun q => absurd q hx)
  · have hx3 : ¬ x1 = 0 → ¬ x1 = 1 → ¬ x1 = 2 → x1 = 3 := by
      intro y0 y1 y2
      obtain ⟨j, -, hj, ej⟩ := nat_in (m := 0) (n := 3) hx (by decide) (by decide)
      rcases (show j = 0 ∨ j = 1 ∨ j = 2 ∨ j = 3 by omega) with z | z | z | z
      · subst z
        exact absurd ej y0
      · subst z
        exact absurd ej y1
      · subst z
        exact absurd ej y2
      · subst z
        exact ej
    refine sp_seekC (N := N) (F := F) (M := M) f1 f2 (fun t ht => ⟨(f4 t ht).1, (f4 t ht).2.1, (f4 t ht).2.2.1⟩) a1 a2.2.2.2 (by unfold ab; decide) (fun σ' o1 fo => ?_)
    have key : ∀ r, r = ansF x1 (FtS (fun r => fitF N (fxS F cnt 0) M r cnt) (fun r => mvF N (fxS F cnt 0) r cnt) 3087) → wp_X9_fits x1 (fun r' μ' => r' = r ∧ Inv σ' μ') μ := by
      intro r hr
      unfold wp_X9_fits
      refine m_in (a := 0) (b := 3) rfl rfl (fun q => absurd hx q) (fun _ => ⟨fun _ => ?_, n10⟩)
      refine sp_fitsM (N := N) (F := fxS F cnt (μ 14 0 cnt)) (M := M) (cnt := cnt) ⟨f3, f1, fun t ht => ?_, fun t ht => (f4 t ht).2.2.2.2, a2.1 3 (by decide), a2.1 4 (by decide)⟩ (fun μ' o2 => ⟨?_, h.film (fun c o k hc => o1 c o k (by omega)) (fun c o k hc => o2 c o k (by omega)) ?_⟩)
      · unfold fxS
        by_cases e : t = cnt
        · rw [if_pos e, e]
        · rw [if_neg e]
          exact (f4 t (by omega)).2.2.2.1
      · rw [hr]
        have c := FtS_congr (p := fun r => fitF N (fxS F cnt (μ 14 0 cnt)) M r cnt) (p' := fun r => fitF N (fxS F cnt 0) M r cnt) (V := fun r => mvF N (fxS F cnt (μ 14 0 cnt)) r cnt) (V' := fun r => mvF N (fxS F cnt 0) r cnt) (fun i => fit_congr (fun t ht => by unfold fxS; rw [if_neg (by omega), if_neg (by omega)]) cnt (Nat.le_refl _)) 3087
        exact ansF_congr c.1 c.2
      · refine ⟨cnt, F, M, f1, (o1 19 0 0 (by omega)).trans f2, (o2 0 0 37 (by omega)).trans f3, fun t ht => ?_⟩
        obtain ⟨u, v, w, y, z⟩ := f4 t ht
        exact ⟨(o1 20 0 t (by omega)).trans u, v, (o1 21 0 t (by omega)).trans w, (o2 14 0 t (by omega)).trans y, (o2 15 0 t (by omega)).trans z⟩
    generalize FtS (fun r => fitF N (fxS F cnt 0) M r cnt) (fun r => mvF N (fxS F cnt 0) r cnt) 3087 = s at fo key
    obtain ⟨g1, g2, g3⟩ := fo
    have e20 : ¬ (1 : Int32) = 0 := by decide
    refine ⟨fun z => key _ ?_, fun z0 => ⟨fun z => key _ ?_, fun z1 => ⟨fun z => key _ ?_, fun z2 => key _ ?_⟩⟩⟩
    · unfold ansF
      rw [if_pos z]
      exact g1
    · unfold ansF
      rw [if_neg z0]
      by_cases e : s.1 = 0
      · rw [if_pos e]
        exact (g2 e).1
      · rw [if_neg e, if_pos z]
        exact (g3 e).1
    · unfold ansF
      rw [if_neg z0]
      by_cases e : s.1 = 0
      · rw [if_pos e]
        exact (g2 e).2.1
      · rw [if_neg e, if_neg z1, if_pos z]
        exact (g3 e).2.1
    · unfold ansF
      rw [if_neg z0]
      by_cases e : s.1 = 0
      · rw [if_pos e]
        exact (g2 e).2.2
      · rw [if_neg e, if_neg z1, if_neg z2]
        exact (g3 e).2.2.1
theorem pub_next {σ μ : St} (h : Inv σ μ) (x1 x2 : Int32) : wp_X8_next x1 x2 (fun r σ' => wp_X9_next x1 x2 (fun r' μ' => r' = r ∧ Inv σ' μ') μ) σ := by
  have h0 := h
  obtain ⟨⟨N, la, T, B, len, dr, L, a1, a2, a3, a4, a5, a6, a7, a8, a9, a10⟩, hK, cnt, F, M, f1, f2, f3, f4⟩ := h0
  have ou : ¬ ((-999 ≤ x1 ∧ x1 ≤ 999) ∧ (0 ≤ x2 ∧ x2 ≤ 1)) → wp_X9_next x1 x2 (fun r' μ' => r' = -3 ∧ Inv σ μ') μ := by
    intro hb
    unfold wp_X9_next wp_X9_next_17
    exact m_isX (fun _ => ⟨fun _ => ⟨rfl, h⟩, n00⟩) (fun p1 => ⟨n10, fun _ => m_in (a := 0) (b := 1) rfl rfl (fun _ => ⟨n00, fun _ => ⟨rfl, h⟩⟩) (fun p2 => absurd ⟨p1, p2⟩ hb)⟩)
  unfold wp_X8_next wp_X8_next_22 wp_X8_next_76
  refine c_within (fun q => ⟨fun _ => ou (fun z => q z.1), n00⟩) (fun p1 => ⟨n10, fun _ => c_within (fun q => ⟨n00, fun _ => ou (fun z => q z.2)⟩) (fun p2 => ⟨fun _ => ?_, n10⟩)⟩)
  refine sp_seekC (N := N) (F := F) (M := M) f1 f2 (fun t ht => ⟨(f4 t ht).1, (f4 t ht).2.1, (f4 t ht).2.2.1⟩) a1 a2.2.2.2 (ab_X p1) (fun σ' o1 fo => ?_)
  have key : ∀ r, r = ansN x2 (FtS (fun r => fitF N (fxS F cnt x1) M r cnt) (fun r => mvF N (fxS F cnt x1) r cnt) 3087) → wp_X9_next x1 x2 (fun r' μ' => r' = r ∧ Inv σ' μ') μ := by
    intro r hr
    unfold wp_X9_next
    refine m_isX (fun q => absurd p1 q) (fun _ => ⟨n10, fun _ => m_in (a := 0) (b := 1) rfl rfl (fun q => absurd p2 q) (fun _ => ⟨fun _ => ?_, n10⟩)⟩)
    rw [f3, nI_clamp (by omega)]
    refine ⟨pk_in cnt 25 (by omega), ?_⟩
    refine sp_nextM (N := N) (F := fxS F cnt x1) (M := M) (cnt := cnt) ⟨(su_nc rfl).trans f3, f1, fun t ht => ?_, fun t ht => (su_nc rfl).trans (f4 t ht).2.2.2.2, (su_nc rfl).trans (a2.1 3 (by decide)), (su_nc rfl).trans (a2.1 4 (by decide))⟩ a2.2.2.2 (fun μ' o2 => ⟨hr.symm, h.film (fun c o k hc => o1 c o k (by omega)) (fun c o k hc => ?_) ?_⟩)
    · unfold fxS
      by_cases e : t = cnt
      · rw [if_pos e, e, su_eq]
      · rw [if_neg e, su_nk' e]
        exact (f4 t (by omega)).2.2.2.1
    · rw [o2 c o k (by omega)]
      unfold su
      rw [if_neg (by omega)]
    · refine ⟨cnt, F, M, f1, (o1 19 0 0 (by omega)).trans f2, (o2 0 0 37 (by omega)).trans ((su_nc rfl).trans f3), fun t ht => ?_⟩
      obtain ⟨u, v, w, y, z⟩ := f4 t ht
      exact ⟨(o1 20 0 t (by omega)).trans u, v, (o1 21 0 t (by omega)).trans w, (o2 14 0 t (by omega)).trans ((su_nk' (by omega)).trans y), (o2 15 0 t (by omega)).trans ((su_nc rfl).trans z)⟩
  have sl := FtS_le (p := fun r => fitF N (fxS F cnt x1) M r cnt) (V := fun r => mvF N (fxS F cnt x1) r cnt) 3087
  generalize FtS (fun r => fitF N (fxS F cnt x1) M r cnt) (fun r => mvF N (fxS F cnt x1) r cnt) 3087 = s at fo key sl
  obtain ⟨g1, g2, g3⟩ := fo
  have e0 : σ' 19 0 1 = 0 ↔ s.1 = 0 := by
    rw [g1]
    exact nI_eq (b := 0) (by omega) (by decide)
  rw [e0]
  refine ⟨fun z => ⟨fun y => key _ ?_, fun y => key _ ?_⟩, fun z => key _ ?_⟩
  · unfold ansN
    rw [if_neg z, if_neg y, (g3 z).2.2.2.2]
  · unfold ansN
    rw [if_neg z, if_pos y, (g3 z).2.2.2.1]
  · unfold ansN
    rw [if_pos z]
