/-! TEXT: the reference reads a line -/
def RwM (μ0 μ : St) (i : Nat) (vs : List Nat) : Prop := offX μ0 μ ∧ (∀ k, k < 6 * i + 1 → μ 2 0 k = μ0 2 0 k) ∧ ∀ j, j < vs.length → μ 2 0 (6 * i + 1 + j) = nI (vs.getD j 0)
theorem RwM.put {μ0 μ μ' : St} {i v : Nat} {vs : List Nat} (h : RwM μ0 μ i vs) (ho : offX μ μ') (he : μ' 2 0 (6 * i + 1 + vs.length) = nI v) (hk : ∀ k, k < 6 * i + 1 + vs.length → μ' 2 0 k = μ 2 0 k) : RwM μ0 μ' i (vs ++ [v]) := by
  obtain ⟨a, b, d⟩ := h
  refine ⟨a.trans ho, fun k hk2 => (hk k (by omega)).trans (b k hk2), fun j hj => ?_⟩
  rw [List.length_append, List.length_singleton] at hj
  by_cases e : j = vs.length
  · rw [e, he, List.getD_eq_getElem?_getD, List.getElem?_append_right (Nat.le_refl _), Nat.sub_self]
    rfl
  · rw [hk _ (by omega), d j (by omega), List.getD_eq_getElem?_getD, List.getD_eq_getElem?_getD, List.getElem?_append_left (by omega)]
theorem RwM.add {μ0 μ μ' : St} {i v : Nat} {vs : List Nat} (h : RwM μ0 μ i vs) (hs : StM μ μ' (6 * i + 1 + vs.length) (nI v)) : RwM μ0 μ' i (vs ++ [v]) := h.put hs.1 hs.2.1 (fun k hk => hs.2.2 k (by omega))
theorem RwM.tok {μ0 μ μ' : St} {i : Nat} {vs : List Nat} (h : RwM μ0 μ i vs) (ho : offSk μ μ') : RwM μ0 μ' i vs := by
  obtain ⟨a, b, d⟩ := h
  exact ⟨a.trans ho.X, fun k hk => (ho 2 0 k (by omega)).trans (b k hk), fun j hj => (ho 2 0 _ (by omega)).trans (d j hj)⟩
theorem sp_rowM {μ0 μ : St} {B : Nat → Int32} {len f i lo hi : Nat} {vs : List Nat} {x1 x2 x3 : Int32} {post : Int32 → St → Prop} (hX : TxM μ0 B len) (h3 : μ0 0 0 3 = nI i) (hR : RwM μ0 μ i vs) (hT : TkM μ B len f) (hi8 : i < 8) (hv : vs.length < 5) (hlo : lo < 1000) (hhi : hi < 1000) (e1 : x1 = nI vs.length) (e2 : x2 = nI lo) (e3 : x3 = nI hi) (hno : rdS B len f lo hi = none → post 0 μ) (hyes : ∀ p μ', rdS B len f lo hi = some p → RwM μ0 μ' i (vs ++ [p.1]) → TkM μ' B len p.2 → post 1 μ') : wp_X9_reads x1 x2 x3 post μ := by
  refine sp_readsM (hX.offX hR.1) hT hi8 (by omega) ((hR.1 0 0 3 (by omega)).trans h3) hlo hhi e1 e2 e3 hno (fun v g μ' hr hs ht => ?_)
  exact hyes (v, g) μ' hr (hR.add hs) ht
theorem sp_readsKindM {μ0 μ : St} {B : Nat → Int32} {len f i t : Nat} {post : Int32 → St → Prop} (hX : TxM μ0 B len) (h3 : μ0 0 0 3 = nI i) (hR : RwM μ0 μ i [t]) (hT : TkM μ B len f) (hi8 : i < 8)
    (hno0 : kdS B len f = none → post 0 μ)
    (hno1 : ∀ k μ', kdS B len f = some k → ¬ k = 0 → rdS B len (nxS B len f) 1 9 = none → offX μ0 μ' → μ' 0 0 19 = nI (nxS B len f) → post 0 μ')
    (hy0 : ∀ μ', kdS B len f = some 0 → RwM μ0 μ' i [t, 0, 0] → TkM μ' B len (nxS B len f) → post 1 μ')
    (hy1 : ∀ k q μ', kdS B len f = some k → ¬ k = 0 → rdS B len (nxS B len f) 1 9 = some q → RwM μ0 μ' i [t, k, q.1] → TkM μ' B len q.2 → post 1 μ') : wp_X9_readsKind post μ := by
  obtain ⟨-, -, -, -, -, -, -, -, -, s1, s2, s3, s4⟩ := words_same
  have hXm := hX.offX hR.1
  have he := enS_le (B := B) hT.1
  unfold wp_X9_readsKind
  have go : ∀ k, k < 4 → kdS B len f = some k → wp_X9_readsKind_63 post (nI k) μ := by
    intro k hk4 hk
    unfold wp_X9_readsKind_63 wp_X9_readsKind_120 wp_X9_readsKind_125
    refine ⟨fun _ => ?_, fun z => absurd z (nI_m1 (by omega))⟩
    refine sp_tokenM hXm he.2.1 hT.2.2.2 (fun μ1 o1 t1 => ?_)
    have R1 := hR.tok o1
    have e3 : μ1 0 0 3 = nI i := (R1.1 0 0 3 (by omega)).trans h3
    have x2 : 6 * nI i + 2 = nI (6 * i + 2) := by
      rw [show (6 : Int32) = nI 6 from rfl, pk_mul]
      exact nI_add _ 2
    have x3 : 6 * nI i + 3 = nI (6 * i + 3) := by
      rw [show (6 : Int32) = nI 6 from rfl, pk_mul]
      exact nI_add _ 3
    rw [e3, x2, x3, nI_clamp (by omega), nI_clamp (by omega), show (nI k = 0 ↔ k = 0) from nI_eq (b := 0) (by omega) (by decide)]
    have oS : ∀ v (μx : St) n, offX μx (su μx 2 0 n v) := by
      intro v μx n c o q hc
      unfold su
      rw [if_neg (by omega)]
    have R2 : RwM μ0 (su μ1 2 0 (6 * i + 2) (nI k)) i ([t] ++ [k]) := R1.put (oS _ _ _) su_eq (fun q hq => su_nk' (by have : q < 6 * i + 1 + 1 := hq; omega))
    have R3 : RwM μ0 (su (su μ1 2 0 (6 * i + 2) (nI k)) 2 0 (6 * i + 3) 0) i ([t] ++ [k] ++ [0]) := R2.put (oS _ _ _) su_eq (fun q hq => su_nk' (by have : q < 6 * i + 1 + 2 := hq; omega))
    have R3' : RwM μ0 (su (su μ1 2 0 (6 * i + 2) (nI k)) 2 0 (6 * i + 3) 0) i ([t] ++ [k]) := ⟨R3.1, R3.2.1, fun j hj => by
      rw [su_nk' (by have : j < 2 := hj; omega)]
      exact R2.2.2 j hj⟩
    have t3 : TkM (su (su μ1 2 0 (6 * i + 2) (nI k)) 2 0 (6 * i + 3) 0) B len (nxS B len f) := ⟨t1.1, (su_nc rfl).trans ((su_nc rfl).trans t1.2.1), (su_nc rfl).trans ((su_nc rfl).trans t1.2.2.1), (su_nc rfl).trans ((su_nc rfl).trans t1.2.2.2)⟩
    refine ⟨pk_in (6 * i + 2) 48 (by omega), pk_in (6 * i + 3) 48 (by omega), fun z => ?_, fun z => ?_⟩
    · subst z
      exact ⟨bool1, hy0 _ hk R3 t3⟩
    · refine sp_rowM hX h3 R3' t3 hi8 (show 2 < 5 by decide) (by decide) (by decide) rfl rfl rfl (fun hn => ⟨fun _ => ⟨bool0, hno1 k _ hk z hn R3.1 t3.2.1⟩, fun y => absurd rfl y⟩) (fun q μ5 hq R5 t5 => ⟨fun y => absurd y (by decide), fun _ => ⟨bool1, hy1 k q μ5 hk z hq R5 t5⟩⟩)
  have bad : kdS B len f = none → wp_X9_readsKind_63 post (-1) μ := by
    intro hk
    unfold wp_X9_readsKind_63
    exact ⟨fun z => absurd rfl z, fun _ => hno0 hk⟩
  unfold kdS at go bad
  refine sp_wordM (o := 1) (n := 5) hXm hT rfl (by decide) rfl s1 (fun a => ⟨fun _ => ?_, fun z => absurd rfl z⟩) (fun a => ⟨fun z => absurd z (by decide), fun _ => ?_⟩)
  · rw [if_neg (fne a)] at go bad
    refine sp_wordM (o := 2) (n := 7) hXm hT rfl (by decide) rfl s2 (fun a => ⟨fun _ => ?_, fun z => absurd rfl z⟩) (fun a => ⟨fun z => absurd z (by decide), fun _ => ?_⟩)
    · rw [if_neg (fne a)] at go bad
      refine sp_wordM (o := 3) (n := 3) hXm hT rfl (by decide) rfl s3 (fun a => ⟨fun _ => ?_, fun z => absurd rfl z⟩) (fun a => ⟨fun z => absurd z (by decide), fun _ => ?_⟩)
      · rw [if_neg (fne a)] at go bad
        refine sp_wordM (o := 4) (n := 7) hXm hT rfl (by decide) rfl s4 (fun a => ⟨fun _ => ?_, fun z => absurd rfl z⟩) (fun a => ⟨fun z => absurd z (by decide), fun _ => ?_⟩)
        · rw [if_neg (fne a)] at bad; exact bad rfl
        · rw [if_pos a] at go; exact go 3 (by decide) rfl
      · rw [if_pos a] at go; exact go 2 (by decide) rfl
    · rw [if_pos a] at go; exact go 1 (by decide) rfl
  · rw [if_pos a] at go; exact go 0 (by decide) rfl
