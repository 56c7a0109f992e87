/-! WHOLE: how long -/
def offZ (σ σ' : St) : Prop := ∀ c o k, relC c o k → σ' c o k = σ c o k
def offY (μ μ' : St) : Prop := ∀ c o k, relM c k → μ' c o k = μ c o k
theorem offZ.rf {a : St} : offZ a a := fun _ _ _ _ => rfl
theorem offZ.trans {a b c : St} (h1 : offZ a b) (h2 : offZ b c) : offZ a c := fun x y z h => (h2 x y z h).trans (h1 x y z h)
theorem offY.rf {a : St} : offY a a := fun _ _ _ _ => rfl
theorem offY.trans {a b c : St} (h1 : offY a b) (h2 : offY b c) : offY a c := fun x y z h => (h2 x y z h).trans (h1 x y z h)
theorem Inv.zy {σ μ σ' μ' : St} (h : Inv σ μ) (o1 : offZ σ σ') (o2 : offY μ μ') : Inv σ' μ' := h.keep o1 o2
def off61 (σ σ' : St) : Prop := ∀ c o k, ¬ (c = 6 ∧ o = 1) → σ' c o k = σ c o k
theorem off61.Z {a b : St} (h : off61 a b) : offZ a b := fun c o k q => h c o k (by unfold relC rlC rkC rfC at q; omega)
theorem offK.Z {a b : St} (h : offK a b) : offZ a b := fun c o k q => h c o k (by unfold relC rlC rkC rfC at q; omega)
theorem offP.Z {a b : St} (h : offP a b) : offZ a b := fun c o k q => h c o k (by unfold relC rlC rkC rfC at q; omega)
theorem off2.Z {a b : St} (h : off2 a b) : offZ a b := fun c o k q => h c o k (by unfold relC rlC rkC rfC at q; omega)
theorem off9.Z {a b : St} (h : off9 a b) : offZ a b := fun c o k q => h c o k (by unfold relC rlC rkC rfC at q; omega)
theorem offL.Z {a b : St} (h : offL a b) : offZ a b := fun c o k q => h c o k (by unfold relC rlC rkC rfC at q; omega)
theorem offE.Z {a b : St} (h : offE a b) : offZ a b := fun c o k q => h c o k (by unfold relC rlC rkC rfC at q; omega)
theorem offW.Z {a b : St} (h : offW a b) : offZ a b := fun c o k q => h c o k (by unfold relC rlC rkC rfC at q; omega)
theorem offA.Y {a b : St} (h : offA a b) : offY a b := fun c o k q => h c o k (by unfold relM rlM rkM rfM at q; omega)
theorem offM2.Y {a b : St} (h : offM2 a b) : offY a b := fun c o k q => h c o k (by unfold relM rlM rkM rfM at q; omega)
theorem offM9.Y {a b : St} (h : offM9 a b) : offY a b := fun c o k q => h c o k (by unfold relM rlM rkM rfM at q; omega)
theorem offM3.Y {a b : St} (h : offM3 a b) : offY a b := fun c o k q => h c o k (by unfold relM rlM rkM rfM at q; omega)
theorem offN.Y {a b : St} (h : offN a b) : offY a b := fun c o k q => h c o k (by unfold relM rlM rkM rfM at q; omega)
theorem offV.Y {a b : St} (h : offV a b) : offY a b := fun c o k q => h c o k (by unfold relM rlM rkM rfM at q; omega)
theorem offR.Y {r : Nat} {a b : St} (h : offR r a b) (hr : r < 2) : offY a b := fun c o k q => h c o k (by unfold relM rlM rkM rfM at q; omega)
theorem sp_takeRule {σ : St} {post : St → Prop} (h : ∀ σ', off61 σ σ' → (∀ k, k < 10 → σ' 6 1 k = σ 6 0 k) → post σ') : wp_X4_takeRule 0 post σ := by
  unfold wp_X4_takeRule
  refine h _ (fun c o k hc => sr_ne hc k) (fun k hk => ?_)
  rw [sr_eq, pk_cpy_in (by omega) (by omega)]
  simp
theorem TcC.off61 {σ σ' : St} {T : TS} (h : TcC σ T) (ho : off61 σ σ') : TcC σ' T := fun t ht => (h t ht).congr (fun c k hc => ho c t k (by omega))
theorem sp_bodyC {σ : St} {T : TS} {N : Nat → Int32} {la : Nat} {x a : Int32} {post : Int32 → St → Prop} {K : Nat → St → Prop} (hT : TcC σ T) (hN : ∀ k, k < 10 → σ 6 0 k = N k) (hla : N 2 = nI la ∧ la ≤ 6 ∧ NB N) (h2 : ¬ (0 ≤ x ∧ x ≤ 3) → post (-2) σ) (h3 : (0 ≤ x ∧ x ≤ 3) → a = 0 → post (-3) σ) (h4 : ∀ t, t < 4 → x = nI t → ¬ a = 0 → (T t).2.2.1 = 0 → post (-4) σ) (h0 : ∀ t, t < 4 → x = nI t → ¬ a = 0 → ¬ (T t).2.2.1 = 0 → ∀ σ', off61 σ σ' → ThC σ' t (T t).1 (nI (T t).2.1) (tlg T t) (T t).2.1 → RuC σ' 1 N la → K t σ') : wp_X8_refusal x a (fun r1 σ1 => ((r1 = 0 → wp_X4_takeRule 0 (fun σ2 => (vp_in x 4 ∧ K x.toNatClampNeg σ2)) σ1) ∧ (¬ r1 = 0 → post r1 σ1))) σ := by
  refine sp_refusal hT (fun q => ⟨fun z => absurd z (by decide), fun _ => h2 q⟩) (fun q z => ⟨fun y => absurd y (by decide), fun _ => h3 q z⟩) (fun t ht e ha hn => ⟨fun z => absurd z (by decide), fun _ => h4 t ht e ha hn⟩) (fun t ht e ha hn => ⟨fun _ => sp_takeRule (fun σ' o1 e1 => ?_), n00⟩)
  rw [e, nI_clamp (by omega)]
  exact ⟨pk_in t 4 ht, h0 t ht e ha hn σ' o1 ((hT.off61 o1).thing ht hn) ⟨fun k hk => (e1 k hk).trans (hN k hk), hla⟩⟩
theorem sp_bodyM {μ : St} {T : TS} {N : Nat → Int32} {la t : Nat} {P : Prop} {K : St → Prop} (hT : TsM μ T) (hN : NumM μ N la) (ht : t < 4) (h4 : (T t).2.2.1 = 0 → P) (h0 : ¬ (T t).2.2.1 = 0 → ∀ μ', offA μ μ' → RuM μ' N la → ThM μ' (T t).1 (nI (T t).2.1) (tlg T t) (T t).2.1 → K μ') : (vp_in (nI t) 4 ∧ ((¬ (μ 5 0 (nI t).toNatClampNeg) = 0 → wp_X9_asTold (nI t) (fun σ4 => K σ4) μ) ∧ ((μ 5 0 (nI t).toNatClampNeg) = 0 → P))) := by
  have b := hT t ht
  rw [nI_clamp (by omega), b.2.2.2.2.1, (lump_0 b.2.2.2.2.2.1).2]
  refine ⟨pk_in t 4 ht, fun hn => ?_, h4⟩
  refine sp_asTold hN b (by omega) rfl (fun μ1 o2 r2 h32 h33 h34 => h0 hn μ1 o2 r2 ⟨h32, h33, h34, rfl, b.2.2.2.1, lg_pos' (by omega) b.2.2.2.2.2.1 b.2.2.2.2.2.2.2⟩)
theorem pub_kept {σ μ : St} (h : Inv σ μ) (x1 x2 x3 : Int32) : wp_X8_kept x1 x2 x3 (fun r σ' => wp_X9_kept x1 x2 x3 (fun r' μ' => r' = r ∧ Inv σ' μ') μ) σ := by
  have h0 := h
  obtain ⟨⟨N, la, T, B, len, dr, L, a1, a2, a3, a4, a5, a6, a7, a8, a9, a10⟩, hK, hF⟩ := h0
  have un : ¬ (0 ≤ x1 ∧ x1 ≤ 3) → (fun r σ' => wp_X9_kept x1 x2 x3 (fun r' μ' => r' = r ∧ Inv σ' μ') μ) (-2) σ := by
    intro hx
    show wp_X9_kept x1 x2 x3 (fun r' μ' => r' = -2 ∧ Inv σ μ') μ
    unfold wp_X9_kept
    exact m_isThing (fun _ => ⟨n00, fun _ => ⟨rfl, h⟩⟩) (fun q => absurd q hx)
  have ou : (0 ≤ x1 ∧ x1 ≤ 3) → ¬ ((-999 ≤ x2 ∧ x2 ≤ 999) ∧ (-99 ≤ x3 ∧ x3 ≤ 99)) → (fun r σ' => wp_X9_kept x1 x2 x3 (fun r' μ' => r' = r ∧ Inv σ' μ') μ) (-3) σ := by
    intro hx hb
    show wp_X9_kept x1 x2 x3 (fun r' μ' => r' = -3 ∧ Inv σ μ') μ
    unfold wp_X9_kept wp_X9_kept_24
    exact m_isThing (fun q => absurd hx q) (fun _ => ⟨fun _ => m_isX (fun _ => ⟨fun _ => ⟨rfl, h⟩, n00⟩) (fun p1 => ⟨n10, fun _ => m_isV (fun _ => ⟨n00, fun _ => ⟨rfl, h⟩⟩) (fun p2 => absurd ⟨p1, p2⟩ hb)⟩), n10⟩)
  have go : ∀ t (P : Int32 → St → Prop), t < 4 → x1 = nI t → ((-999 ≤ x2 ∧ x2 ≤ 999) ∧ (-99 ≤ x3 ∧ x3 ≤ 99)) → ((T t).2.2.1 = 0 → P (-4) μ) → (¬ (T t).2.2.1 = 0 → ∀ μ', offA μ μ' → RuM μ' N la → ThM μ' (T t).1 (nI (T t).2.1) (tlg T t) (T t).2.1 → wp_X9_lasts x2 x3 1 (fun r5 σ5 => P r5 σ5) μ') → wp_X9_kept x1 x2 x3 P μ := by
    intro t P ht e ps h4 h0
    obtain ⟨p1, p2⟩ := ps
    subst e
    unfold wp_X9_kept wp_X9_kept_24
    exact m_isThing (fun q => absurd (in_nat (m := 0) (n := 3) (by decide) (by decide) (by omega) (by omega)) q) (fun _ => ⟨fun _ => m_isX (fun q => absurd p1 q) (fun _ => ⟨n10, fun _ => m_isV (fun q => absurd p2 q) (fun _ => ⟨fun _ => sp_bodyM a4 a2 ht h4 h0, n10⟩)⟩), n10⟩)
  have bad : ¬ ((-999 ≤ x2 ∧ x2 ≤ 999) ∧ (-99 ≤ x3 ∧ x3 ≤ 99)) → wp_X8_kept_31 x1 x2 x3 (fun r σ' => wp_X9_kept x1 x2 x3 (fun r' μ' => r' = r ∧ Inv σ' μ') μ) x1 0 σ := by
    intro hb
    unfold wp_X8_kept_31
    exact sp_bodyC (a := 0) (post := (fun r σ' => wp_X9_kept x1 x2 x3 (fun r' μ' => r' = r ∧ Inv σ' μ') μ)) (K := fun t τ => wp_X4_lasts t x2 x3 400 (fun r4 σ4 => (fun r σ' => wp_X9_kept x1 x2 x3 (fun r' μ' => r' = r ∧ Inv σ' μ') μ) r4 σ4) τ) a3 a1 a2.2 un (fun q _ => ou q hb) (fun _ _ _ z => absurd rfl z) (fun _ _ _ z => absurd rfl z)
  unfold wp_X8_kept wp_X8_kept_30
  refine c_within (fun p1 => ⟨fun _ => bad (fun q => p1 (q.1)), n00⟩) (fun p1 => ⟨n10, fun _ => c_within (fun p2 => ⟨fun _ => bad (fun q => p2 (q.2)), n00⟩) (fun p2 => ⟨n10, fun _ => ?_⟩)⟩)
  unfold wp_X8_kept_31
  have ps : (-999 ≤ x2 ∧ x2 ≤ 999) ∧ (-99 ≤ x3 ∧ x3 ≤ 99) := ⟨p1, p2⟩
  refine sp_bodyC (a := 1) (post := (fun r σ' => wp_X9_kept x1 x2 x3 (fun r' μ' => r' = r ∧ Inv σ' μ') μ)) (K := fun t τ => wp_X4_lasts t x2 x3 400 (fun r4 σ4 => (fun r σ' => wp_X9_kept x1 x2 x3 (fun r' μ' => r' = r ∧ Inv σ' μ') μ) r4 σ4) τ) a3 a1 a2.2 un (fun _ z => absurd z (by decide)) (fun t ht e _ hn => go t _ ht e ps (fun _ => ⟨rfl, h⟩) (fun z => absurd hn z)) (fun t ht e _ hn σ1 o1 T1 R1 => ?_)
  refine sp_lastsC T1 R1 (by decide) rfl (fun σ2 o2 => go t _ ht e ps (fun z => absurd z hn) (fun _ μ1 o3 R3 T3 => ?_))
  exact sp_lastsM R3 T3 bi_tt (fun μ2 o4 => ⟨rfl, h.zy (o1.Z.trans o2.Z) (o3.Y.trans (o4.Y (by decide)))⟩)
theorem pub_steady {σ μ : St} (h : Inv σ μ) (x1 x2 : Int32) : wp_X8_steady x1 x2 (fun r σ' => wp_X9_steady x1 x2 (fun r' μ' => r' = r ∧ Inv σ' μ') μ) σ := by
  have h0 := h
  obtain ⟨⟨N, la, T, B, len, dr, L, a1, a2, a3, a4, a5, a6, a7, a8, a9, a10⟩, hK, hF⟩ := h0
  have un : ¬ (0 ≤ x1 ∧ x1 ≤ 3) → (fun r σ' => wp_X9_steady x1 x2 (fun r' μ' => r' = r ∧ Inv σ' μ') μ) (-2) σ := by
    intro hx
    show wp_X9_steady x1 x2 (fun r' μ' => r' = -2 ∧ Inv σ μ') μ
    unfold wp_X9_steady
    exact m_isThing (fun _ => ⟨n00, fun _ => ⟨rfl, h⟩⟩) (fun q => absurd q hx)
  have ou : (0 ≤ x1 ∧ x1 ≤ 3) → ¬ ((0 ≤ x2 ∧ x2 ≤ 20)) → (fun r σ' => wp_X9_steady x1 x2 (fun r' μ' => r' = r ∧ Inv σ' μ') μ) (-3) σ := by
    intro hx hb
    show wp_X9_steady x1 x2 (fun r' μ' => r' = -3 ∧ Inv σ μ') μ
    unfold wp_X9_steady
    exact m_isThing (fun q => absurd hx q) (fun _ => ⟨fun _ => m_isK (fun _ => ⟨n00, fun _ => ⟨rfl, h⟩⟩) (fun p1 => absurd p1 hb), n10⟩)
  have go : ∀ t (P : Int32 → St → Prop), t < 4 → x1 = nI t → ((0 ≤ x2 ∧ x2 ≤ 20)) → ((T t).2.2.1 = 0 → P (-4) μ) → (¬ (T t).2.2.1 = 0 → ∀ μ', offA μ μ' → RuM μ' N la → ThM μ' (T t).1 (nI (T t).2.1) (tlg T t) (T t).2.1 → wp_X9_least x2 (fun r4 σ4 => P r4 σ4) μ') → wp_X9_steady x1 x2 P μ := by
    intro t P ht e ps h4 h0
    obtain ⟨pa, pb⟩ := ps
    subst e
    unfold wp_X9_steady
    exact m_isThing (fun q => absurd (in_nat (m := 0) (n := 3) (by decide) (by decide) (by omega) (by omega)) q) (fun _ => ⟨fun _ => m_isK (fun q => absurd ⟨pa, pb⟩ q) (fun _ => ⟨fun _ => sp_bodyM a4 a2 ht h4 h0, n10⟩), n10⟩)
  unfold wp_X8_steady
  refine c_within (fun hb => ?_) (fun p1 => ?_)
  · exact sp_bodyC (a := 0) (post := (fun r σ' => wp_X9_steady x1 x2 (fun r' μ' => r' = r ∧ Inv σ' μ') μ)) (K := fun t τ => wp_X4_leastFrom t x2 (fun r5 σ5 => (fun r σ' => wp_X9_steady x1 x2 (fun r' μ' => r' = r ∧ Inv σ' μ') μ) r5 σ5) τ) a3 a1 a2.2 un (fun q _ => ou q hb) (fun _ _ _ z => absurd rfl z) (fun _ _ _ z => absurd rfl z)
  have ps : (0 ≤ x2 ∧ x2 ≤ 20) := p1
  obtain ⟨k, -, hk, ek⟩ := nat_in (m := 0) (n := 20) p1 (by decide) (by decide)
  refine sp_bodyC (a := 1) (post := (fun r σ' => wp_X9_steady x1 x2 (fun r' μ' => r' = r ∧ Inv σ' μ') μ)) (K := fun t τ => wp_X4_leastFrom t x2 (fun r5 σ5 => (fun r σ' => wp_X9_steady x1 x2 (fun r' μ' => r' = r ∧ Inv σ' μ') μ) r5 σ5) τ) a3 a1 a2.2 un (fun _ z => absurd z (by decide)) (fun t ht e _ hn => go t _ ht e ps (fun _ => ⟨rfl, h⟩) (fun z => absurd hn z)) (fun t ht e _ hn σ1 o1 T1 R1 => ?_)
  refine sp_leastFromC T1 R1 hk ek (fun m σ2 hm o2 => go t _ ht e ps (fun z => absurd z hn) (fun _ μ1 o3 R3 T3 => ?_))
  exact sp_leastM R3 T3 hk ek (fun m' μ2 hm' o4 => ⟨by rw [hm'.uni hm], h.zy (o1.Z.trans o2.Z) (o3.Y.trans (o4.Y (by decide)))⟩)
theorem pub_best {σ μ : St} (h : Inv σ μ) (x1 x2 x3 : Int32) : wp_X8_best x1 x2 x3 (fun r σ' => wp_X9_best x1 x2 x3 (fun r' μ' => r' = r ∧ Inv σ' μ') μ) σ := by
  have h0 := h
  obtain ⟨⟨N, la, T, B, len, dr, L, a1, a2, a3, a4, a5, a6, a7, a8, a9, a10⟩, hK, hF⟩ := h0
  have un : ¬ (0 ≤ x1 ∧ x1 ≤ 3) → (fun r σ' => wp_X9_best x1 x2 x3 (fun r' μ' => r' = r ∧ Inv σ' μ') μ) (-2) σ := by
    intro hx
    show wp_X9_best x1 x2 x3 (fun r' μ' => r' = -2 ∧ Inv σ μ') μ
    unfold wp_X9_best
    exact m_isThing (fun _ => ⟨n00, fun _ => ⟨rfl, h⟩⟩) (fun q => absurd q hx)
  have ou : (0 ≤ x1 ∧ x1 ≤ 3) → ¬ ((0 ≤ x2 ∧ x2 ≤ 4) ∧ (0 ≤ x3 ∧ x3 ≤ 2)) → (fun r σ' => wp_X9_best x1 x2 x3 (fun r' μ' => r' = r ∧ Inv σ' μ') μ) (-3) σ := by
    intro hx hb
    show wp_X9_best x1 x2 x3 (fun r' μ' => r' = -3 ∧ Inv σ μ') μ
    unfold wp_X9_best wp_X9_best_34
    exact m_isThing (fun q => absurd hx q) (fun _ => ⟨fun _ => m_in (a := 0) (b := 4) rfl rfl (fun _ => ⟨fun _ => ⟨rfl, h⟩, n00⟩) (fun p1 => ⟨n10, fun _ => m_in (a := 0) (b := 2) rfl rfl (fun _ => ⟨n00, fun _ => ⟨rfl, h⟩⟩) (fun p2 => absurd ⟨p1, p2⟩ hb)⟩), n10⟩)
  have go : ∀ t (P : Int32 → St → Prop), t < 4 → x1 = nI t → ((0 ≤ x2 ∧ x2 ≤ 4) ∧ (0 ≤ x3 ∧ x3 ≤ 2)) → ((T t).2.2.1 = 0 → P (-4) μ) → (¬ (T t).2.2.1 = 0 → ∀ μ', offA μ μ' → RuM μ' N la → ThM μ' (T t).1 (nI (T t).2.1) (tlg T t) (T t).2.1 → ∃ nn, wp_X9_best_63 x1 x2 x3 P nn (-1) 0 0 μ') → wp_X9_best x1 x2 x3 P μ := by
    intro t P ht e ps h4 h0
    obtain ⟨p1, p2⟩ := ps
    subst e
    unfold wp_X9_best wp_X9_best_34
    exact m_isThing (fun q => absurd (in_nat (m := 0) (n := 3) (by decide) (by decide) (by omega) (by omega)) q) (fun _ => ⟨fun _ => m_in (a := 0) (b := 4) rfl rfl (fun q => absurd p1 q) (fun _ => ⟨n10, fun _ => m_in (a := 0) (b := 2) rfl rfl (fun q => absurd p2 q) (fun _ => ⟨fun _ => sp_bodyM a4 a2 ht h4 h0, n10⟩)⟩), n10⟩)
  have bad : ¬ ((0 ≤ x2 ∧ x2 ≤ 4) ∧ (0 ≤ x3 ∧ x3 ≤ 2)) → wp_X8_best_25 x1 x2 x3 (fun r σ' => wp_X9_best x1 x2 x3 (fun r' μ' => r' = r ∧ Inv σ' μ') μ) x1 0 σ := by
    intro hb
    unfold wp_X8_best_25
    exact sp_bodyC (a := 0) (post := (fun r σ' => wp_X9_best x1 x2 x3 (fun r' μ' => r' = r ∧ Inv σ' μ') μ)) (K := fun t τ => wp_X4_bestRule t x2 x3 (fun r4 σ4 => (fun r σ' => wp_X9_best x1 x2 x3 (fun r' μ' => r' = r ∧ Inv σ' μ') μ) r4 σ4) τ) a3 a1 a2.2 un (fun q _ => ou q hb) (fun _ _ _ z => absurd rfl z) (fun _ _ _ z => absurd rfl z)
  unfold wp_X8_best wp_X8_best_24
  refine c_within (fun p1 => ⟨fun _ => bad (fun q => p1 (q.1)), n00⟩) (fun p1 => ⟨n10, fun _ => c_within (fun p2 => ⟨fun _ => bad (fun q => p2 (q.2)), n00⟩) (fun p2 => ⟨n10, fun _ => ?_⟩)⟩)
  unfold wp_X8_best_25
  have ps : (0 ≤ x2 ∧ x2 ≤ 4) ∧ (0 ≤ x3 ∧ x3 ≤ 2) := ⟨p1, p2⟩
  obtain ⟨k, -, hk, ek⟩ := nat_in (m := 0) (n := 4) p1 (by decide) (by decide)
  have hx3 : x3 = 0 ∨ x3 = 1 ∨ x3 = 2 := by
    obtain ⟨j, -, hj, ej⟩ := nat_in (m := 0) (n := 2) p2 (by decide) (by decide)
    rcases (show j = 0 ∨ j = 1 ∨ j = 2 by omega) with z | z | z
    · subst z
      exact Or.inl ej
    · subst z
      exact Or.inr (Or.inl ej)
    · subst z
      exact Or.inr (Or.inr ej)
  refine sp_bodyC (a := 1) (post := (fun r σ' => wp_X9_best x1 x2 x3 (fun r' μ' => r' = r ∧ Inv σ' μ') μ)) (K := fun t τ => wp_X4_bestRule t x2 x3 (fun r4 σ4 => (fun r σ' => wp_X9_best x1 x2 x3 (fun r' μ' => r' = r ∧ Inv σ' μ') μ) r4 σ4) τ) a3 a1 a2.2 un (fun _ z => absurd z (by decide)) (fun t ht e _ hn => go t _ ht e ps (fun _ => ⟨rfl, h⟩) (fun z => absurd hn z)) (fun t ht e _ hn σ1 o1 T1 R1 => ?_)
  refine sp_bestC T1 ⟨fun k _ hk => R1.1 k hk, R1.2⟩ hk ek hx3 (fun j σ2 hj o2 => go t _ ht e ps (fun z => absurd z hn) (fun _ μ1 o3 R3 T3 => ?_))
  exact sp_bestM T3 R3.2.2 hk ek hx3 (fun j' μ2 hj' o4 => ⟨by rw [hj'.uni hj], h.zy (o1.Z.trans o2.Z) (o3.Y.trans o4.Y)⟩)
theorem pub_odds {σ μ : St} (h : Inv σ μ) (x1 x2 x3 x4 x5 x6 : Int32) : wp_X8_odds x1 x2 x3 x4 x5 x6 (fun r σ' => wp_X9_odds x1 x2 x3 x4 x5 x6 (fun r' μ' => r' = r ∧ Inv σ' μ') μ) σ := by
  have h0 := h
  obtain ⟨⟨N, la, T, B, len, dr, L, a1, a2, a3, a4, a5, a6, a7, a8, a9, a10⟩, hK, hF⟩ := h0
  have un : ¬ (0 ≤ x1 ∧ x1 ≤ 3) → (fun r σ' => wp_X9_odds x1 x2 x3 x4 x5 x6 (fun r' μ' => r' = r ∧ Inv σ' μ') μ) (-2) σ := by
    intro hx
    show wp_X9_odds x1 x2 x3 x4 x5 x6 (fun r' μ' => r' = -2 ∧ Inv σ μ') μ
    unfold wp_X9_odds
    exact m_isThing (fun _ => ⟨n00, fun _ => ⟨rfl, h⟩⟩) (fun q => absurd q hx)
  have ou : (0 ≤ x1 ∧ x1 ≤ 3) → ¬ ((-999 ≤ x2 ∧ x2 ≤ 999) ∧ (0 ≤ x3 ∧ x3 ≤ 6) ∧ (0 ≤ x4 ∧ x4 ≤ 99) ∧ (0 ≤ x5 ∧ x5 ≤ 5) ∧ (0 ≤ x6 ∧ x6 ≤ 1)) → (fun r σ' => wp_X9_odds x1 x2 x3 x4 x5 x6 (fun r' μ' => r' = r ∧ Inv σ' μ') μ) (-3) σ := by
    intro hx hb
    show wp_X9_odds x1 x2 x3 x4 x5 x6 (fun r' μ' => r' = -3 ∧ Inv σ μ') μ
    unfold wp_X9_odds wp_X9_odds_66
    exact m_isThing (fun q => absurd hx q) (fun _ => ⟨fun _ => m_isX (fun _ => ⟨fun _ => ⟨rfl, h⟩, n00⟩) (fun p1 => ⟨n10, fun _ => m_in (a := 0) (b := 6) rfl rfl (fun _ => ⟨fun _ => ⟨rfl, h⟩, n00⟩) (fun p2 => ⟨n10, fun _ => m_in (a := 0) (b := 99) rfl rfl (fun _ => ⟨fun _ => ⟨rfl, h⟩, n00⟩) (fun p3 => ⟨n10, fun _ => m_in (a := 0) (b := 5) rfl rfl (fun _ => ⟨fun _ => ⟨rfl, h⟩, n00⟩) (fun p4 => ⟨n10, fun _ => m_in (a := 0) (b := 1) rfl rfl (fun _ => ⟨n00, fun _ => ⟨rfl, h⟩⟩) (fun p5 => absurd ⟨p1, p2, p3, p4, p5⟩ hb)⟩)⟩)⟩)⟩), n10⟩)
  have go : ∀ t (P : Int32 → St → Prop), t < 4 → x1 = nI t → ((-999 ≤ x2 ∧ x2 ≤ 999) ∧ (0 ≤ x3 ∧ x3 ≤ 6) ∧ (0 ≤ x4 ∧ x4 ≤ 99) ∧ (0 ≤ x5 ∧ x5 ≤ 5) ∧ (0 ≤ x6 ∧ x6 ≤ 1)) → ((T t).2.2.1 = 0 → P (-4) μ) → (¬ (T t).2.2.1 = 0 → ∀ μ', offA μ μ' → RuM μ' N la → ThM μ' (T t).1 (nI (T t).2.1) (tlg T t) (T t).2.1 → ∃ nn, wp_X9_odds_95 x1 x2 x3 x4 x5 x6 P nn 1 1 0 μ') → wp_X9_odds x1 x2 x3 x4 x5 x6 P μ := by
    intro t P ht e ps h4 h0
    obtain ⟨p1, p2, p3, p4, p5⟩ := ps
    subst e
    unfold wp_X9_odds wp_X9_odds_66
    exact m_isThing (fun q => absurd (in_nat (m := 0) (n := 3) (by decide) (by decide) (by omega) (by omega)) q) (fun _ => ⟨fun _ => m_isX (fun q => absurd p1 q) (fun _ => ⟨n10, fun _ => m_in (a := 0) (b := 6) rfl rfl (fun q => absurd p2 q) (fun _ => ⟨n10, fun _ => m_in (a := 0) (b := 99) rfl rfl (fun q => absurd p3 q) (fun _ => ⟨n10, fun _ => m_in (a := 0) (b := 5) rfl rfl (fun q => absurd p4 q) (fun _ => ⟨n10, fun _ => m_in (a := 0) (b := 1) rfl rfl (fun q => absurd p5 q) (fun _ => ⟨fun _ => sp_bodyM a4 a2 ht h4 h0, n10⟩)⟩)⟩)⟩)⟩), n10⟩)
  have bad : ¬ ((-999 ≤ x2 ∧ x2 ≤ 999) ∧ (0 ≤ x3 ∧ x3 ≤ 6) ∧ (0 ≤ x4 ∧ x4 ≤ 99) ∧ (0 ≤ x5 ∧ x5 ≤ 5) ∧ (0 ≤ x6 ∧ x6 ≤ 1)) → wp_X8_odds_59 x1 x2 x3 x4 x5 x6 (fun r σ' => wp_X9_odds x1 x2 x3 x4 x5 x6 (fun r' μ' => r' = r ∧ Inv σ' μ') μ) 0 σ := by
    intro hb
    unfold wp_X8_odds_59
    exact sp_bodyC (a := 0) (post := (fun r σ' => wp_X9_odds x1 x2 x3 x4 x5 x6 (fun r' μ' => r' = r ∧ Inv σ' μ') μ)) (K := fun t τ => wp_X4_chances t x2 x3 x4 x5 (fun r4 σ4 => wp_X8_lowestTerms r4 x3 x6 (fun r5 σ5 => (fun r σ' => wp_X9_odds x1 x2 x3 x4 x5 x6 (fun r' μ' => r' = r ∧ Inv σ' μ') μ) r5 σ5) σ4) τ) a3 a1 a2.2 un (fun q _ => ou q hb) (fun _ _ _ z => absurd rfl z) (fun _ _ _ z => absurd rfl z)
  unfold wp_X8_odds wp_X8_odds_58
  refine c_within (fun p1 => ⟨fun _ => bad (fun q => p1 (q.1)), n00⟩) (fun p1 => ⟨n10, fun _ => c_within (fun p2 => ⟨fun _ => bad (fun q => p2 (q.2.1)), n00⟩) (fun p2 => ⟨n10, fun _ => c_within (fun p3 => ⟨fun _ => bad (fun q => p3 (q.2.2.1)), n00⟩) (fun p3 => ⟨n10, fun _ => c_within (fun p4 => ⟨fun _ => bad (fun q => p4 (q.2.2.2.1)), n00⟩) (fun p4 => ⟨n10, fun _ => c_within (fun p5 => ⟨fun _ => bad (fun q => p5 (q.2.2.2.2)), n00⟩) (fun p5 => ⟨n10, fun _ => ?_⟩)⟩)⟩)⟩)⟩)
  unfold wp_X8_odds_59
  have ps : (-999 ≤ x2 ∧ x2 ≤ 999) ∧ (0 ≤ x3 ∧ x3 ≤ 6) ∧ (0 ≤ x4 ∧ x4 ≤ 99) ∧ (0 ≤ x5 ∧ x5 ≤ 5) ∧ (0 ≤ x6 ∧ x6 ≤ 1) := ⟨p1, p2, p3, p4, p5⟩
  obtain ⟨n, -, hn6, en⟩ := nat_in (m := 0) (n := 6) p2 (by decide) (by decide)
  obtain ⟨w, -, hp5, ew⟩ := nat_in (m := 0) (n := 5) p4 (by decide) (by decide)
  refine sp_bodyC (a := 1) (post := (fun r σ' => wp_X9_odds x1 x2 x3 x4 x5 x6 (fun r' μ' => r' = r ∧ Inv σ' μ') μ)) (K := fun t τ => wp_X4_chances t x2 x3 x4 x5 (fun r4 σ4 => wp_X8_lowestTerms r4 x3 x6 (fun r5 σ5 => (fun r σ' => wp_X9_odds x1 x2 x3 x4 x5 x6 (fun r' μ' => r' = r ∧ Inv σ' μ') μ) r5 σ5) σ4) τ) a3 a1 a2.2 un (fun _ z => absurd z (by decide)) (fun t ht e _ hn => go t _ ht e ps (fun _ => ⟨rfl, h⟩) (fun z => absurd hn z)) (fun t ht e _ hn σ1 o1 T1 R1 => ?_)
  refine sp_chancesC T1 R1 hn6 hp5 en ew (fun σ2 o2 => sp_termsC hn6 (ev_le hp5 n 0 _) rfl en (go t _ ht e ps (fun z => absurd z hn) (fun _ μ1 o3 R3 T3 => ?_)))
  exact sp_oddsM T3 R3 hn6 hp5 en ew (fun μ2 o4 => ⟨rfl, h.zy (o1.Z.trans o2.Z) (o3.Y.trans (o4.Y (by decide)))⟩)
theorem pub_stands {σ μ : St} (h : Inv σ μ) (x1 x2 : Int32) : wp_X8_stands x1 x2 (fun r σ' => wp_X9_stands x1 x2 (fun r' μ' => r' = r ∧ Inv σ' μ') μ) σ := by
  have h0 := h
  obtain ⟨⟨N, la, T, B, len, dr, L, a1, a2, a3, a4, a5, a6, a7, a8, a9, a10⟩, hK, hF⟩ := h0
  have un : ¬ (0 ≤ x1 ∧ x1 ≤ 3) → (fun r σ' => wp_X9_stands x1 x2 (fun r' μ' => r' = r ∧ Inv σ' μ') μ) (-2) σ := by
    intro hx
    show wp_X9_stands x1 x2 (fun r' μ' => r' = -2 ∧ Inv σ μ') μ
    unfold wp_X9_stands
    exact m_isThing (fun _ => ⟨n00, fun _ => ⟨rfl, h⟩⟩) (fun q => absurd q hx)
  have ou : (0 ≤ x1 ∧ x1 ≤ 3) → ¬ ((-999 ≤ x2 ∧ x2 ≤ 999)) → (fun r σ' => wp_X9_stands x1 x2 (fun r' μ' => r' = r ∧ Inv σ' μ') μ) (-3) σ := by
    intro hx hb
    show wp_X9_stands x1 x2 (fun r' μ' => r' = -3 ∧ Inv σ μ') μ
    unfold wp_X9_stands
    exact m_isThing (fun q => absurd hx q) (fun _ => ⟨fun _ => m_isX (fun _ => ⟨n00, fun _ => ⟨rfl, h⟩⟩) (fun p1 => absurd p1 hb), n10⟩)
  have go : ∀ t (P : Int32 → St → Prop), t < 4 → x1 = nI t → ((-999 ≤ x2 ∧ x2 ≤ 999)) → ((T t).2.2.1 = 0 → P (-4) μ) → (¬ (T t).2.2.1 = 0 → ∀ μ', offA μ μ' → RuM μ' N la → ThM μ' (T t).1 (nI (T t).2.1) (tlg T t) (T t).2.1 → ∃ nn, wp_X9_stands_39 x1 x2 P nn 0 μ') → wp_X9_stands x1 x2 P μ := by
    intro t P ht e ps h4 h0
    obtain ⟨pa, pb⟩ := ps
    subst e
    unfold wp_X9_stands
    exact m_isThing (fun q => absurd (in_nat (m := 0) (n := 3) (by decide) (by decide) (by omega) (by omega)) q) (fun _ => ⟨fun _ => m_isX (fun q => absurd ⟨pa, pb⟩ q) (fun _ => ⟨fun _ => sp_bodyM a4 a2 ht h4 h0, n10⟩), n10⟩)
  unfold wp_X8_stands
  refine c_within (fun hb => ?_) (fun p1 => ?_)
  · exact sp_bodyC (a := 0) (post := (fun r σ' => wp_X9_stands x1 x2 (fun r' μ' => r' = r ∧ Inv σ' μ') μ)) (K := fun t τ => wp_X4_leastShake t x2 (fun r5 σ5 => (fun r σ' => wp_X9_stands x1 x2 (fun r' μ' => r' = r ∧ Inv σ' μ') μ) r5 σ5) τ) a3 a1 a2.2 un (fun q _ => ou q hb) (fun _ _ _ z => absurd rfl z) (fun _ _ _ z => absurd rfl z)
  have ps : (-999 ≤ x2 ∧ x2 ≤ 999) := p1
  refine sp_bodyC (a := 1) (post := (fun r σ' => wp_X9_stands x1 x2 (fun r' μ' => r' = r ∧ Inv σ' μ') μ)) (K := fun t τ => wp_X4_leastShake t x2 (fun r5 σ5 => (fun r σ' => wp_X9_stands x1 x2 (fun r' μ' => r' = r ∧ Inv σ' μ') μ) r5 σ5) τ) a3 a1 a2.2 un (fun _ z => absurd z (by decide)) (fun t ht e _ hn => go t _ ht e ps (fun _ => ⟨rfl, h⟩) (fun z => absurd hn z)) (fun t ht e _ hn σ1 o1 T1 R1 => ?_)
  refine sp_leastShakeC T1 ⟨fun k hk => R1.1 k (by omega), R1.2⟩ (fun r σ2 hr o2 => go t _ ht e ps (fun z => absurd z hn) (fun _ μ1 o3 R3 T3 => ?_))
  exact sp_standsM T3 R3 (fun r' μ2 hr' o4 => ⟨hr'.uni hr, h.zy (o1.Z.trans o2.Z) (o3.Y.trans o4.Y)⟩)
theorem pub_line {σ μ : St} (h : Inv σ μ) (x1 : Int32) : wp_X8_line x1 (fun r σ' => wp_X9_line x1 (fun r' μ' => r' = r ∧ Inv σ' μ') μ) σ := by
  have h0 := h
  obtain ⟨⟨N, la, T, B, len, dr, L, a1, a2, a3, a4, a5, a6, a7, a8, a9, a10⟩, hK, hF⟩ := h0
  unfold wp_X8_line
  refine c_within (fun hx => ⟨n00, fun _ => ?_⟩) (fun hx => ⟨fun _ => ?_, n10⟩)
  · unfold wp_X9_line
    exact m_isK (fun _ => ⟨n00, fun _ => ⟨rfl, h⟩⟩) (fun q => absurd q hx)
  · obtain ⟨k, -, hk, ek⟩ := nat_in (m := 0) (n := 20) hx (by decide) (by decide)
    refine sp_takeRule (fun σ1 o1 e1 => ?_)
    refine sp_shortestC ⟨fun k hk => (e1 k hk).trans (a1 k hk), a2.2⟩ ((o1 2 4 0 (by omega)).trans a9) ((o1 2 4 1 (by omega)).trans a10) hk ek (fun r σ2 hr o2 => ?_)
    unfold wp_X9_line
    refine m_isK (fun q => absurd hx q) (fun _ => ⟨fun _ => ?_, n10⟩)
    refine sp_asTold (t := 0) a2 (a4 0 (by decide)) (by decide) rfl (fun μ1 o3 R3 _ _ _ => ?_)
    refine sp_lineM (N := N) (la := la) ?_ ((su_nk rfl).trans su_eq) su_eq hk ek (fun r' μ2 hr' o4 => ⟨hr'.uni hr, h.zy (o1.Z.trans o2.Z) (o3.Y.trans ?_)⟩)
    · obtain ⟨b1, b2, b3, b4, b5, b6, b7, b8, b9, b10, b11⟩ := R3
      have nk : ∀ k, Nat.beq k 32 = false → Nat.beq k 33 = false → su (su μ1 0 0 32 0) 0 0 33 0 0 0 k = μ1 0 0 k := fun k q1 q2 => (su_nk q2).trans (su_nk q1)
      exact ⟨(nk _ rfl rfl).trans b1, (nk _ rfl rfl).trans b2, (nk _ rfl rfl).trans b3, (nk _ rfl rfl).trans b4, (nk _ rfl rfl).trans b5, (nk _ rfl rfl).trans b6, (nk _ rfl rfl).trans b7, (nk _ rfl rfl).trans b8, (nk _ rfl rfl).trans b9, (nk _ rfl rfl).trans b10, b11⟩
    · intro c o k q
      unfold relM rlM rkM rfM at q
      rw [o4 c o k (by omega) (by omega)]
      unfold su
      rw [if_neg (by omega), if_neg (by omega)]
