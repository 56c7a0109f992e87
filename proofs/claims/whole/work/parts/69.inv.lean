/-! WHOLE: what holds between the class's cells and the reference's -/
def KB (σ μ : St) (o r : Nat) : Prop := ∃ (t : Nat) (q : Q4), t ≤ 400 ∧ Bal σ o t q ∧ Row μ r t q ∧ (∀ j, j < t → ab (q.1 j) 999) ∧ σ 13 o 0 = μ 13 0 r ∧ (σ 13 o 0 = -1 ∨ ∃ th, th < 4 ∧ σ 13 o 0 = nI th)
def FilmI (σ μ : St) : Prop := ∃ (cnt : Nat) (F M : Nat → Int32), cnt ≤ 24 ∧ σ 19 0 0 = nI cnt ∧ μ 0 0 37 = nI cnt ∧ ∀ t, t < cnt → σ 20 0 t = F t ∧ ab (F t) 999 ∧ σ 21 0 t = M t ∧ μ 14 0 t = F t ∧ μ 15 0 t = M t
def InvA (σ μ : St) (N : Nat → Int32) (la : Nat) (T : TS) (B : Nat → Int32) (len : Nat) (dr : Nat → Nat) (L : Nat → Int32) : Prop := (∀ k, k < 10 → σ 6 0 k = N k) ∧ NumM μ N la ∧ TcC σ T ∧ TsM μ T ∧ TxC σ B len ∧ TxM μ B len ∧ HsC σ dr L ∧ HsM μ dr L ∧ σ 2 4 0 = 0 ∧ σ 2 4 1 = 0
def InvK (σ μ : St) : Prop := KB σ μ 0 2 ∧ KB σ μ 1 3 ∧ KB σ μ 2 4
def Inv (σ μ : St) : Prop := (∃ N la T B len dr L, InvA σ μ N la T B len dr L) ∧ InvK σ μ ∧ FilmI σ μ
/-- the cells that later calls look at, films aside -/
def rlC (c o k : Nat) : Prop := (c = 6 ∧ o = 0) ∨ ((c = 2 ∨ c = 3 ∨ c = 4) ∧ o < 4) ∨ (c = 2 ∧ o = 4 ∧ k < 2) ∨ (c = 7 ∧ k = 1) ∨ c = 8 ∨ c = 23 ∨ c = 24
def rlM (c k : Nat) : Prop := (c = 0 ∧ (k = 1 ∨ (8 ≤ k ∧ k ≤ 17))) ∨ c = 1 ∨ c = 3 ∨ c = 4 ∨ c = 5 ∨ c = 6 ∨ c = 17 ∨ c = 18
theorem InvA.keep {σ μ σ' μ' : St} {N : Nat → Int32} {la : Nat} {T : TS} {B : Nat → Int32} {len : Nat} {dr : Nat → Nat} {L : Nat → Int32} (h : InvA σ μ N la T B len dr L) (hC : ∀ c o k, rlC c o k → σ' c o k = σ c o k) (hM : ∀ c o k, rlM c k → μ' c o k = μ c o k) : InvA σ' μ' N la T B len dr L := by
  obtain ⟨a1, ⟨b1, b2, b3, b4⟩, a3, a4, ⟨c1, c2, c3⟩, ⟨d1, d2, d3⟩, a7, a8, a9, a10⟩ := h
  have k6 : ∀ k, σ' 6 0 k = σ 6 0 k := fun k => hC 6 0 k (Or.inl ⟨rfl, rfl⟩)
  refine ⟨fun k hk => (k6 k).trans (a1 k hk), ⟨fun k hk => (hM 0 0 (8 + k) (Or.inl ⟨rfl, Or.inr (by omega)⟩)).trans (b1 k hk), b2, b3, b4⟩, fun t ht => (a3 t ht).congr (fun c k hc => hC c t k (Or.inr (Or.inl ⟨hc, ht⟩))), fun t ht => (a4 t ht).congr (hM 3 0 t (by unfold rlM; omega)) (hM 4 0 t (by unfold rlM; omega)) (hM 5 0 t (by unfold rlM; omega)) (fun k _ _ => hM 6 0 k (by unfold rlM; omega)), ⟨(hC 7 0 1 (by unfold rlC; omega)).trans c1, c2, fun i hi => (hC 8 0 i (by unfold rlC; omega)).trans (c3 i hi)⟩, ⟨(hM 0 0 1 (by unfold rlM; omega)).trans d1, d2, fun i hi => (hM 1 0 i (by unfold rlM; omega)).trans (d3 i hi)⟩, fun c hc => ?_, fun c hc => ?_, (hC 2 4 0 (by unfold rlC; omega)).trans a9, (hC 2 4 1 (by unfold rlC; omega)).trans a10⟩
  · obtain ⟨u, v, w⟩ := a7 c hc
    exact ⟨(hC 23 0 c (by unfold rlC; omega)).trans u, (hC 24 0 c (by unfold rlC; omega)).trans v, w⟩
  · obtain ⟨u, v, w⟩ := a8 c hc
    exact ⟨(hM 17 0 c (by unfold rlM; omega)).trans u, (hM 18 0 c (by unfold rlM; omega)).trans v, w⟩
theorem KB.keep {σ μ σ' μ' : St} {o r : Nat} (h : KB σ μ o r) (hC : ∀ k, σ' 13 o k = σ 13 o k ∧ σ' 14 o k = σ 14 o k) (hM : ∀ k, 402 * r ≤ k → k < 402 * r + 402 → μ' 8 0 k = μ 8 0 k) (hR : μ' 9 0 r = μ 9 0 r ∧ μ' 10 0 r = μ 10 0 r ∧ μ' 11 0 r = μ 11 0 r ∧ μ' 12 0 r = μ 12 0 r ∧ μ' 13 0 r = μ 13 0 r) : KB σ' μ' o r := by
  obtain ⟨t, q, h1, ⟨b1, b2, b3, b4, b5, b6⟩, ⟨r1, r2, r3, r4, r5⟩, h4, h5, h6⟩ := h
  refine ⟨t, q, h1, ⟨(hC 4).1.trans b1, (hC 1).1.trans b2, (hC 2).1.trans b3, (hC 3).1.trans b4, (hC 5).1.trans b5, fun j j1 j2 => (hC _).2.trans (b6 j j1 j2)⟩, ⟨hR.2.2.1.trans r1, hR.1.trans r2, hR.2.1.trans r3, hR.2.2.2.1.trans r4, fun j hj => (hM _ (by omega) (by omega)).trans (r5 j hj)⟩, h4, ?_, ?_⟩
  · rw [(hC 0).1, hR.2.2.2.2]
    exact h5
  · rw [(hC 0).1]
    exact h6
def rkC (c o : Nat) : Prop := (c = 13 ∨ c = 14) ∧ o < 3
def rkM (c k : Nat) : Prop := (c = 8 ∧ 804 ≤ k) ∨ ((c = 9 ∨ c = 10 ∨ c = 11 ∨ c = 12 ∨ c = 13) ∧ 2 ≤ k)
theorem InvK.keep {σ μ σ' μ' : St} (h : InvK σ μ) (hC : ∀ c o k, rkC c o → σ' c o k = σ c o k) (hM : ∀ c o k, rkM c k → μ' c o k = μ c o k) : InvK σ' μ' := by
  obtain ⟨h1, h2, h3⟩ := h
  have one : ∀ o r, o < 3 → 2 ≤ r → KB σ μ o r → KB σ' μ' o r := fun o r ho hr q => q.keep (fun k => ⟨hC 13 o k ⟨Or.inl rfl, ho⟩, hC 14 o k ⟨Or.inr rfl, ho⟩⟩) (fun k k1 _ => hM 8 0 k (Or.inl ⟨rfl, by omega⟩)) ⟨hM 9 0 r (by unfold rkM; omega), hM 10 0 r (by unfold rkM; omega), hM 11 0 r (by unfold rkM; omega), hM 12 0 r (by unfold rkM; omega), hM 13 0 r (by unfold rkM; omega)⟩
  exact ⟨one 0 2 (by decide) (by decide) h1, one 1 3 (by decide) (by decide) h2, one 2 4 (by decide) (by decide) h3⟩
def rfC (c k : Nat) : Prop := (c = 19 ∧ k = 0) ∨ c = 20 ∨ c = 21
def rfM (c k : Nat) : Prop := (c = 0 ∧ k = 37) ∨ c = 14 ∨ c = 15
theorem FilmI.keep {σ μ σ' μ' : St} (h : FilmI σ μ) (hC : ∀ c o k, rfC c k → σ' c o k = σ c o k) (hM : ∀ c o k, rfM c k → μ' c o k = μ c o k) : FilmI σ' μ' := by
  obtain ⟨cnt, F, M, h1, h2, h3, h4⟩ := h
  refine ⟨cnt, F, M, h1, (hC 19 0 0 (by unfold rfC; omega)).trans h2, (hM 0 0 37 (by unfold rfM; omega)).trans h3, fun t ht => ?_⟩
  obtain ⟨a, b, c, d, e⟩ := h4 t ht
  exact ⟨(hC 20 0 t (by unfold rfC; omega)).trans a, b, (hC 21 0 t (by unfold rfC; omega)).trans c, (hM 14 0 t (by unfold rfM; omega)).trans d, (hM 15 0 t (by unfold rfM; omega)).trans e⟩
def relC (c o k : Nat) : Prop := rlC c o k ∨ rkC c o ∨ rfC c k
def relM (c k : Nat) : Prop := rlM c k ∨ rkM c k ∨ rfM c k
theorem Inv.keep {σ μ σ' μ' : St} (h : Inv σ μ) (hC : ∀ c o k, relC c o k → σ' c o k = σ c o k) (hM : ∀ c o k, relM c k → μ' c o k = μ c o k) : Inv σ' μ' := by
  obtain ⟨⟨N, la, T, B, len, dr, L, hA⟩, hK, hF⟩ := h
  exact ⟨⟨N, la, T, B, len, dr, L, hA.keep (fun c o k q => hC c o k (Or.inl q)) (fun c o k q => hM c o k (Or.inl q))⟩, hK.keep (fun c o k q => hC c o k (Or.inr (Or.inl q))) (fun c o k q => hM c o k (Or.inr (Or.inl q))), hF.keep (fun c o k q => hC c o k (Or.inr (Or.inr q))) (fun c o k q => hM c o k (Or.inr (Or.inr q)))⟩
/-! the calls on the text -/
def byS (x : Int64) (i : Nat) : Int32 := Int64.toInt32 ((x >>> (Int32.toInt64 (8 * nI i) &&& 63)) &&& 255)
def wrS (B : Nat → Int32) (len : Nat) (x : Int64) : Nat → Int32 := fun j => if j < len then B j else byS x (j - len)
theorem sum200 {len n : Nat} (h1 : len ≤ 200) (h2 : n ≤ 8) : (nI len + nI n ≤ 200) ↔ len + n ≤ 200 := by
  rw [nI_add]
  exact nI_leI (b := 200) (by omega) (by decide)
theorem sp_writeC {σ : St} {B : Nat → Int32} {len n : Nat} {x1 : Int64} {x3 : Int32} {post : Int32 → St → Prop} (hX : TxC σ B len) (hn : n ≤ 8) (hl : len + n ≤ 200) (hx : x3 = nI n) (h : ∀ σ', (∀ c o k, ¬ ((c = 7 ∧ k = 1) ∨ c = 8) → σ' c o k = σ c o k) → TxC σ' (wrS B len x1) (len + n) → post (nI (len + n)) σ') : ∃ nn, wp_X8_write_34 x1 x3 post nn 0 σ := by
  subst hx
  have loop : ∀ m i σ1, i + m = n → (∀ c o k, ¬ ((c = 7 ∧ k = 1) ∨ c = 8) → σ1 c o k = σ c o k) → TxC σ1 (wrS B len x1) (len + i) → wp_X8_write_34 x1 (nI n) post (m + 1) (nI i) σ1 := by
    intro m
    induction m with
    | zero =>
      intro i σ1 e ho ht
      have e2 : i = n := by omega
      subst e2
      unfold wp_X8_write_34
      rw [ht.1]
      exact ⟨fun _ => h σ1 ho ht, fun hc => absurd (nI_le (Nat.le_refl i) (by omega)) hc⟩
    | succ m ih =>
      intro i σ1 e ho ht
      unfold wp_X8_write_34 wp_X5_append wp_X5_append_30
      rw [ht.1, nI_clamp (by omega), nI_1, nI_1]
      refine ⟨fun hc => absurd hc (nI_ge (by omega) (by omega)), fun _ => ⟨fun hc => absurd hc (nI_ge (a := len + i) (b := 200) (by omega) (by decide)), fun _ => ⟨pk_in (len + i) 200 (by omega), ?_⟩⟩⟩
      refine ih (i + 1) _ (by omega) ?_ ⟨su_eq, by omega, fun j hj => ?_⟩
      · intro c o k hc
        unfold su
        rw [if_neg (by omega), if_neg (by omega)]
        exact ho c o k hc
      · rw [su_nc rfl]
        by_cases ej : j = len + i
        · subst ej
          rw [su_eq]
          unfold wrS byS
          rw [if_neg (by omega), Nat.add_sub_cancel_left]
        · rw [su_nk' ej]
          exact ht.2.2 j (by omega)
  refine ⟨n + 1, loop n 0 σ (by omega) (fun _ _ _ _ => rfl) ⟨hX.1, hX.2.1, fun j hj => ?_⟩⟩
  rw [hX.2.2 j hj]
  unfold wrS
  rw [if_pos (by omega)]
theorem sp_writeM {μ : St} {B : Nat → Int32} {len n : Nat} {x1 : Int64} {x3 : Int32} {post : Int32 → St → Prop} (hX : TxM μ B len) (hn : n ≤ 8) (hl : len + n ≤ 200) (hx : x3 = nI n) (h : ∀ μ', (∀ c o k, ¬ ((c = 0 ∧ k = 1) ∨ c = 1) → μ' c o k = μ c o k) → TxM μ' (wrS B len x1) (len + n) → post (nI (len + n)) μ') : ∃ nn, wp_X9_write_33 x1 x3 post nn 0 μ := by
  subst hx
  have loop : ∀ m i σ1, i + m = n → (∀ c o k, ¬ ((c = 0 ∧ k = 1) ∨ c = 1) → σ1 c o k = μ c o k) → TxM σ1 (wrS B len x1) (len + i) → wp_X9_write_33 x1 (nI n) post (m + 1) (nI i) σ1 := by
    intro m
    induction m with
    | zero =>
      intro i σ1 e ho ht
      have e2 : i = n := by omega
      subst e2
      unfold wp_X9_write_33
      rw [ht.1]
      exact ⟨fun _ => h σ1 ho ht, fun hc => absurd (nI_le (Nat.le_refl i) (by omega)) hc⟩
    | succ m ih =>
      intro i σ1 e ho ht
      unfold wp_X9_write_33
      rw [ht.1, nI_clamp (by omega), nI_1, nI_1]
      refine ⟨fun hc => absurd hc (nI_ge (by omega) (by omega)), fun _ => ⟨pk_in (len + i) 200 (by omega), ?_⟩⟩
      refine ih (i + 1) _ (by omega) ?_ ⟨su_eq, by omega, fun j hj => ?_⟩
      · intro c o k hc
        unfold su
        rw [if_neg (by omega), if_neg (by omega)]
        exact ho c o k hc
      · rw [su_nc rfl]
        by_cases ej : j = len + i
        · subst ej
          rw [su_eq]
          unfold wrS byS
          rw [if_neg (by omega), Nat.add_sub_cancel_left]
        · rw [su_nk' ej]
          exact ht.2.2 j (by omega)
  refine ⟨n + 1, loop n 0 μ (by omega) (fun _ _ _ _ => rfl) ⟨hX.1, hX.2.1, fun j hj => ?_⟩⟩
  rw [hX.2.2 j hj]
  unfold wrS
  rw [if_pos (by omega)]
/-- the text is another one, all else stays -/
theorem Inv.text {σ μ σ' μ' : St} {B : Nat → Int32} {len : Nat} (h : Inv σ μ) (hC : ∀ c o k, ¬ ((c = 7 ∧ k = 1) ∨ c = 8) → σ' c o k = σ c o k) (hM : ∀ c o k, ¬ ((c = 0 ∧ k = 1) ∨ c = 1) → μ' c o k = μ c o k) (h1 : TxC σ' B len) (h2 : TxM μ' B len) : Inv σ' μ' := by
  obtain ⟨⟨N, la, T, B0, len0, dr, L, a1, ⟨b1, b2, b3, b4⟩, a3, a4, _, _, a7, a8, a9, a10⟩, hK, hF⟩ := h
  refine ⟨⟨N, la, T, B, len, dr, L, fun k hk => (hC 6 0 k (by omega)).trans (a1 k hk), ⟨fun k hk => (hM 0 0 (8 + k) (by omega)).trans (b1 k hk), b2, b3, b4⟩, fun t ht => (a3 t ht).congr (fun c k hc => hC c t k (by omega)), fun t ht => (a4 t ht).congr (hM 3 0 t (by omega)) (hM 4 0 t (by omega)) (hM 5 0 t (by omega)) (fun k _ _ => hM 6 0 k (by omega)), h1, h2, fun c hc => ?_, fun c hc => ?_, (hC 2 4 0 (by omega)).trans a9, (hC 2 4 1 (by omega)).trans a10⟩, hK.keep (fun c o k q => hC c o k (by unfold rkC at q; omega)) (fun c o k q => hM c o k (by unfold rkM at q; omega)), hF.keep (fun c o k q => hC c o k (by unfold rfC at q; omega)) (fun c o k q => hM c o k (by unfold rfM at q; omega))⟩
  · obtain ⟨u, v, w⟩ := a7 c hc
    exact ⟨(hC 23 0 c (by omega)).trans u, (hC 24 0 c (by omega)).trans v, w⟩
  · obtain ⟨u, v, w⟩ := a8 c hc
    exact ⟨(hM 17 0 c (by omega)).trans u, (hM 18 0 c (by omega)).trans v, w⟩
theorem nat_in {x a b : Int32} {m n : Nat} (h : a ≤ x ∧ x ≤ b) (ha : a.toInt = m) (hb : b.toInt = n) : ∃ j : Nat, m ≤ j ∧ j ≤ n ∧ x = nI j := by
  have h1 := (fa_le _ _).mp h.1
  have h2 := (fa_le _ _).mp h.2
  have h3 := i_hi x
  refine ⟨x.toInt.toNat, by omega, by omega, ?_⟩
  apply i_ext
  rw [nI_toInt (by omega)]
  omega
theorem in_nat {a b : Int32} {m n j : Nat} (ha : a.toInt = m) (hb : b.toInt = n) (h1 : m ≤ j) (h2 : j ≤ n) : a ≤ nI j ∧ nI j ≤ b := by
  have h3 := i_hi b
  rw [fa_le, fa_le, nI_toInt (by omega)]
  omega
theorem c_within {x a b : Int32} {post : Int32 → St → Prop} {σ : St} (h0 : ¬ (a ≤ x ∧ x ≤ b) → post 0 σ) (h1 : (a ≤ x ∧ x ≤ b) → post 1 σ) : wp_X8_within x a b post σ := by
  rw [e_within]
  by_cases h : a ≤ x ∧ x ≤ b
  · rw [bi_t h]
    exact h1 h
  · rw [bi_f h]
    exact h0 h
theorem c_isThing {x : Int32} {post : Int32 → St → Prop} {σ : St} (h0 : ¬ (0 ≤ x ∧ x ≤ 3) → post 0 σ) (h1 : (0 ≤ x ∧ x ≤ 3) → post 1 σ) : wp_X8_isThing x post σ := by
  rw [e_isThing]
  by_cases h : 0 ≤ x ∧ x ≤ 3
  · rw [bi_t h]
    exact h1 h
  · rw [bi_f h]
    exact h0 h
theorem m_in {x a b : Int32} {la lb : Int64} {post : Int32 → St → Prop} {σ : St} (ha : la = Int32.toInt64 a) (hb : lb = Int32.toInt64 b) (h0 : ¬ (a ≤ x ∧ x ≤ b) → post 0 σ) (h1 : (a ≤ x ∧ x ≤ b) → post 1 σ) : wp_X9_in (Int32.toInt64 x) la lb post σ := by
  rw [e_in ha hb]
  by_cases h : a ≤ x ∧ x ≤ b
  · rw [bi_t h]
    exact h1 h
  · rw [bi_f h]
    exact h0 h
theorem m_isThing {x : Int32} {post : Int32 → St → Prop} {σ : St} (h0 : ¬ (0 ≤ x ∧ x ≤ 3) → post 0 σ) (h1 : (0 ≤ x ∧ x ≤ 3) → post 1 σ) : wp_X9_isThing x post σ := by
  rw [e_isThingM]
  by_cases h : 0 ≤ x ∧ x ≤ 3
  · rw [bi_t h]
    exact h1 h
  · rw [bi_f h]
    exact h0 h
theorem m_isX {x : Int32} {post : Int32 → St → Prop} {σ : St} (h0 : ¬ (-999 ≤ x ∧ x ≤ 999) → post 0 σ) (h1 : (-999 ≤ x ∧ x ≤ 999) → post 1 σ) : wp_X9_isX x post σ := by
  rw [e_isX]
  by_cases h : -999 ≤ x ∧ x ≤ 999
  · rw [bi_t h]
    exact h1 h
  · rw [bi_f h]
    exact h0 h
theorem m_isV {x : Int32} {post : Int32 → St → Prop} {σ : St} (h0 : ¬ (-99 ≤ x ∧ x ≤ 99) → post 0 σ) (h1 : (-99 ≤ x ∧ x ≤ 99) → post 1 σ) : wp_X9_isV x post σ := by
  rw [e_isV]
  by_cases h : -99 ≤ x ∧ x ≤ 99
  · rw [bi_t h]
    exact h1 h
  · rw [bi_f h]
    exact h0 h
theorem m_isK {x : Int32} {post : Int32 → St → Prop} {σ : St} (h0 : ¬ (0 ≤ x ∧ x ≤ 20) → post 0 σ) (h1 : (0 ≤ x ∧ x ≤ 20) → post 1 σ) : wp_X9_isK x post σ := by
  rw [e_isK]
  by_cases h : 0 ≤ x ∧ x ≤ 20
  · rw [bi_t h]
    exact h1 h
  · rw [bi_f h]
    exact h0 h
theorem m_isCell {x : Int32} {post : Int32 → St → Prop} {σ : St} (h0 : ¬ (0 ≤ x ∧ x ≤ 35) → post 0 σ) (h1 : (0 ≤ x ∧ x ≤ 35) → post 1 σ) : wp_X9_isCell x post σ := by
  rw [e_isCell]
  by_cases h : 0 ≤ x ∧ x ≤ 35
  · rw [bi_t h]
    exact h1 h
  · rw [bi_f h]
    exact h0 h
theorem n10 {P : Prop} (h : (1 : Int32) = 0) : P := absurd h (by decide)
theorem n00 {P : Prop} (h : ¬ (0 : Int32) = 0) : P := absurd rfl h
theorem pub_write {σ μ : St} (h : Inv σ μ) (x1 : Int64) (x3 : Int32) : wp_X8_write x1 x3 (fun r σ' => wp_X9_write x1 x3 (fun r' μ' => r' = r ∧ Inv σ' μ') μ) σ := by
  have h0 := h
  obtain ⟨⟨N, la, T, B, len, dr, L, a1, a2, a3, a4, a5, a6, a7, a8, a9, a10⟩, hK, hF⟩ := h0
  unfold wp_X8_write
  refine c_within (fun hx => ⟨n00, fun _ => ?_⟩) (fun hx => ⟨fun _ => ?_, n10⟩)
  · unfold wp_X9_write
    exact m_in (a := 1) (b := 8) rfl rfl (fun _ => ⟨n00, fun _ => ⟨rfl, h⟩⟩) (fun q => absurd q hx)
  · obtain ⟨n, hn1, hn, e⟩ := nat_in (m := 1) (n := 8) hx (by decide) (by decide)
    subst e
    rw [a5.1, sum200 a5.2.1 hn]
    refine ⟨fun hl => ?_, fun hl => ?_⟩
    · refine sp_writeC a5 hn hl rfl (fun σ' o1 t1 => ?_)
      unfold wp_X9_write
      refine m_in (a := 1) (b := 8) rfl rfl (fun q => absurd hx q) (fun _ => ⟨fun _ => ?_, n10⟩)
      rw [a6.1, sum200 a5.2.1 hn]
      exact ⟨fun _ => sp_writeM a6 hn hl rfl (fun μ' o2 t2 => ⟨rfl, h.text o1 o2 t1 t2⟩), fun q => absurd hl q⟩
    · unfold wp_X9_write
      refine m_in (a := 1) (b := 8) rfl rfl (fun q => absurd hx q) (fun _ => ⟨fun _ => ?_, n10⟩)
      rw [a6.1, sum200 a5.2.1 hn]
      exact ⟨fun q => absurd q hl, fun _ => ⟨rfl, h⟩⟩
theorem pub_erase {σ μ : St} (h : Inv σ μ) : wp_X8_erase (fun r σ' => wp_X9_erase (fun r' μ' => r' = r ∧ Inv σ' μ') μ) σ := by
  have h0 := h
  obtain ⟨⟨N, la, T, B, len, dr, L, a1, a2, a3, a4, a5, a6, a7, a8, a9, a10⟩, hK, hF⟩ := h0
  unfold wp_X8_erase wp_X9_erase
  rw [a5.1, a6.1]
  refine ⟨rfl, h.text (B := B) (len := 0) ?_ ?_ ⟨su_eq, by omega, fun i hi => absurd hi (Nat.not_lt_zero i)⟩ ⟨su_eq, by omega, fun i hi => absurd hi (Nat.not_lt_zero i)⟩⟩
  · intro c o k hc
    unfold su
    rw [if_neg (by omega)]
  · intro c o k hc
    unfold su
    rw [if_neg (by omega)]
theorem Inv.offFt {σ μ σ' μ' : St} (h : Inv σ μ) (o1 : offFt σ σ') (o2 : offLm μ μ') : Inv σ' μ' := h.keep (fun c o k q => o1 c o k (by unfold relC rlC rkC rfC at q; omega)) (fun c o k q => o2 c o k (by unfold relM rlM rkM rfM at q; omega))
theorem pub_fault {σ μ : St} (h : Inv σ μ) : wp_X8_fault (fun r σ' => wp_X9_fault (fun r' μ' => r' = r ∧ Inv σ' μ') μ) σ := by
  have h0 := h
  obtain ⟨⟨N, la, T, B, len, dr, L, a1, a2, a3, a4, a5, a6, a7, a8, a9, a10⟩, hK, hF⟩ := h0
  unfold wp_X8_fault
  refine sp_faultC (C := fun t => (T t).2.2.1) a5 (fun t ht => ⟨(a3 t ht).2.2.2.2.2.2.1, (a3 t ht).2.2.2.2.1⟩) (fun p σ' hp _ o1 => ?_) (fun Ls σ' hp _ o1 _ _ => ?_)
  · refine sp_faultM (C := fun t => (T t).2.2.1) a6 (fun t ht => ⟨(a4 t ht).2.2.2.2.1, (a4 t ht).2.2.2.2.2.1⟩) (fun p' μ' hp' o2 => ⟨?_, h.offFt o1 o2⟩) (fun Ls μ' hp' _ _ _ _ => absurd (hp.symm.trans hp') (by simp))
    rw [Sum.inl.inj (hp.symm.trans hp')]
  · exact sp_faultM (C := fun t => (T t).2.2.1) a6 (fun t ht => ⟨(a4 t ht).2.2.2.2.1, (a4 t ht).2.2.2.2.2.1⟩) (fun p' μ' hp' o2 => absurd (hp.symm.trans hp') (by simp)) (fun Ls μ' hp' _ o2 _ _ => ⟨rfl, h.offFt o1 o2⟩)
theorem pub_chin {σ μ : St} (h : Inv σ μ) : wp_X8_chin (fun r σ' => wp_X9_chin (fun r' μ' => r' = r ∧ Inv σ' μ') μ) σ := by
  have h0 := h
  obtain ⟨⟨N, la, T, B, len, dr, L, a1, a2, a3, a4, a5, a6, a7, a8, a9, a10⟩, hK, hF⟩ := h0
  unfold wp_X8_chin wp_X9_chin
  have hCM : ∀ t, t < 4 → μ 5 0 t = nI ((fun t => (T t).2.2.1) t) ∧ (fun t => (T t).2.2.1) t ≤ 4 := fun t ht => ⟨(a4 t ht).2.2.2.2.1, (a4 t ht).2.2.2.2.2.1⟩
  refine sp_faultC (C := fun t => (T t).2.2.1) a5 (fun t ht => ⟨(a3 t ht).2.2.2.2.2.2.1, (a3 t ht).2.2.2.2.1⟩) (fun p σ1 hp p200 o1 => ⟨fun z => absurd z (nI_m1 (by omega)), fun _ => ?_⟩) (fun Ls σ1 hp l8 o1 h72 hLC => ⟨fun _ => ?_, fun z => absurd rfl z⟩)
  · refine sp_faultM (C := fun t => (T t).2.2.1) a6 hCM (fun p' μ1 hp' o2 => ?_) (fun Ls μ1 hp' _ _ _ _ => absurd (hp.symm.trans hp') (by simp))
    rw [← Sum.inl.inj (hp.symm.trans hp')]
    exact ⟨fun z => absurd z (nI_m1 (by omega)), fun _ => ⟨rfl, h.offFt o1 o2⟩⟩
  · have hok := txS_ok _ _ _ _ _ hp
    refine sp_tellC (N := N) (T := T) (C := fun t => (T t).2.2.1) (fun k hk => (o1 6 0 k (by omega)).trans (a1 k hk)) (fun t ht => (a3 t ht).congr (fun c k hc => o1 c t k (by omega))) h72 l8 hLC hok (fun t _ => rfl) (fun σ2 o2 n2 t2 => ?_)
    refine sp_faultM (C := fun t => (T t).2.2.1) a6 hCM (fun p' μ1 hp' _ => absurd (hp.symm.trans hp') (by simp)) (fun Ls' μ1 hp' _ o3 h3 hLM => ⟨fun _ => ?_, fun z => absurd rfl z⟩)
    have eL := Sum.inr.inj (hp.symm.trans hp')
    subst eL
    refine sp_tellM (N := N) (T := T) (C := fun t => (T t).2.2.1) (fun k hk => (o3 0 0 (8 + k) (by omega)).trans (a2.1 k hk)) (fun t ht => (a4 t ht).congr (o3 3 0 t (by omega)) (o3 4 0 t (by omega)) (o3 5 0 t (by omega)) (fun k _ _ => o3 6 0 k (by omega))) h3 l8 hLM hok (fun t _ => rfl) (fun μ2 o4 n4 t4 => ⟨?_, ?_⟩)
    · rw [o2 7 0 2 (by omega), h72]
    · have nb := doN_NB Ls N _ hok a2.2.2.2
      obtain ⟨la', hla, ela⟩ := nb.late
      have C : ∀ c o k, ¬ (((c = 2 ∨ c = 3 ∨ c = 4) ∧ o < 4) ∨ (c = 6 ∧ o = 0) ∨ c = 7 ∨ c = 9 ∨ c = 10 ∨ c = 11 ∨ c = 12) → su σ2 7 0 1 0 c o k = σ c o k := by
        intro c o k hc
        unfold su
        rw [if_neg (by omega), o2 c o k (by omega), o1 c o k (by omega)]
      have M : ∀ c o k, ¬ ((c = 0 ∧ (k = 1 ∨ k = 3 ∨ (8 ≤ k ∧ k ≤ 20))) ∨ c = 2 ∨ c = 3 ∨ c = 4 ∨ c = 5 ∨ c = 6 ∨ c = 7) → su μ2 0 0 1 0 c o k = μ c o k := by
        intro c o k hc
        unfold su
        rw [if_neg (by omega), o4 c o k (by omega), o3 c o k (by omega)]
      refine ⟨⟨doN Ls N, la', doT Ls T, B, 0, dr, L, fun k hk => (su_nc rfl).trans (n2 k hk), ⟨fun k hk => (su_nk' (by omega)).trans (n4 k hk), ela, hla, nb⟩, fun t ht => (t2 t ht).congr (fun c k hc => by unfold su; rw [if_neg (by omega)]), fun t ht => (t4 t ht).congr (su_nc rfl) (su_nc rfl) (su_nc rfl) (fun k _ _ => su_nc rfl), ⟨su_eq, by omega, fun i hi => absurd hi (Nat.not_lt_zero i)⟩, ⟨su_eq, by omega, fun i hi => absurd hi (Nat.not_lt_zero i)⟩, fun c hc => ?_, fun c hc => ?_, (C 2 4 0 (by omega)).trans a9, (C 2 4 1 (by omega)).trans a10⟩, hK.keep (fun c o k q => C c o k (by unfold rkC at q; omega)) (fun c o k q => M c o k (by unfold rkM at q; omega)), hF.keep (fun c o k q => C c o k (by unfold rfC at q; omega)) (fun c o k q => M c o k (by unfold rfM at q; omega))⟩
      · obtain ⟨u, v, w⟩ := a7 c hc
        exact ⟨(C 23 0 c (by omega)).trans u, (C 24 0 c (by omega)).trans v, w⟩
      · obtain ⟨u, v, w⟩ := a8 c hc
        exact ⟨(M 17 0 c (by omega)).trans u, (M 18 0 c (by omega)).trans v, w⟩
