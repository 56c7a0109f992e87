/-! TEXT: the class reads a line -/
def RwC (σ0 σ : St) (i : Nat) (vs : List Nat) : Prop := offU σ0 σ ∧ (∀ k, k < 5 * i → σ 10 0 k = σ0 10 0 k) ∧ σ 7 0 5 = nI (5 * i + vs.length) ∧ ∀ j, j < vs.length → σ 10 0 (5 * i + j) = nI (vs.getD j 0)
theorem RwC.add {σ0 σ σ' : St} {i v : Nat} {vs : List Nat} (h : RwC σ0 σ i vs) (hs : StC σ σ' (5 * i + vs.length) (nI v)) : RwC σ0 σ' i (vs ++ [v]) := by
  obtain ⟨a, b, c, d⟩ := h
  obtain ⟨s1, s2, s3, s4⟩ := hs
  refine ⟨a.trans s1, fun k hk => (s4 k (by omega)).trans (b k hk), ?_, fun j hj => ?_⟩
  · rw [s2, List.length_append, List.length_singleton, Nat.add_assoc]
  · rw [List.length_append, List.length_singleton] at hj
    by_cases e : j = vs.length
    · rw [e, s3, List.getD_eq_getElem?_getD, List.getElem?_append_right (Nat.le_refl _), Nat.sub_self]
      rfl
    · rw [s4 _ (by omega), d j (by omega), List.getD_eq_getElem?_getD, List.getD_eq_getElem?_getD, List.getElem?_append_left (by omega)]
theorem RwC.tok {σ0 σ σ' : St} {i : Nat} {vs : List Nat} (h : RwC σ0 σ i vs) (ho : offTk σ σ') : RwC σ0 σ' i vs := by
  obtain ⟨a, b, c, d⟩ := h
  exact ⟨a.trans ho.U, fun k hk => (ho 10 0 k (by omega)).trans (b k hk), (ho 7 0 5 (by omega)).trans c, fun j hj => (ho 10 0 _ (by omega)).trans (d j hj)⟩
/-- one more number of a row -/
theorem sp_rowC {σ0 σ : St} {B : Nat → Int32} {len f i lo hi : Nat} {vs : List Nat} {x1 x2 : Int32} {post : Int32 → St → Prop} (hX : TxC σ0 B len) (hR : RwC σ0 σ i vs) (hT : TkC σ B len f) (hi8 : i < 8) (hv : vs.length < 5) (hlo : lo < 1000) (hhi : hi < 1000) (h1 : x1 = nI lo) (h2 : x2 = nI hi) (hno : rdS B len f lo hi = none → post 0 σ) (hyes : ∀ p σ', rdS B len f lo hi = some p → RwC σ0 σ' i (vs ++ [p.1]) → TkC σ' B len p.2 → post 1 σ') : wp_X5_readNumber x1 x2 post σ := by
  refine sp_readNumberC (hX.offU hR.1) hT (n := 5 * i + vs.length) (by omega) hR.2.2.1 hlo hhi h1 h2 hno (fun v g σ' hr hs ht => ?_)
  exact hyes (v, g) σ' hr (hR.add hs) ht
theorem sp_readThingC {σ : St} {B : Nat → Int32} {len f i : Nat} {post : Int32 → St → Prop} (hX : TxC σ B len) (hT : TkC σ B len f) (hi8 : i < 8) (h2 : σ 7 0 2 = nI i) (h5 : σ 7 0 5 = nI (5 * i)) (hw : wdS B len f = some 0)
    (hno : ∀ p σ', (∀ C, lnS B len C f = .inl p) → offU (su σ 9 0 i 0) σ' → σ' 7 0 9 = nI p → post 0 σ')
    (hyes : ∀ vs g σ', (∀ C, lnS B len C f = .inr (0, vs, g)) → RwC (su σ 9 0 i 0) σ' i vs → TkC σ' B len g → post 1 σ') : wp_X5_readThing post σ := by
  have hX0 : TxC (su σ 9 0 i 0) B len := ⟨(su_nc rfl).trans hX.1, hX.2.1, fun j hj => (su_nc rfl).trans (hX.2.2 j hj)⟩
  have he := enS_le (B := B) hT.1
  unfold wp_X5_readThing
  rw [h2, nI_clamp (by omega)]
  refine ⟨pk_in i 8 hi8, ?_⟩
  have l0 : ∀ C, lnS B len C f = (match rdS B len (nxS B len f) 0 3 with
      | none => .inl (nxS B len f)
      | some p => match kdS B len p.2 with
        | none => .inl p.2
        | some k => if k = 0 then .inr (0, [p.1, 0, 0], nxS B len p.2) else (match rdS B len (nxS B len p.2) 1 9 with
          | none => .inl (nxS B len p.2)
          | some q => .inr (0, [p.1, k, q.1], q.2))) := by
    intro C
    unfold lnS
    rw [hw]
    rfl
  have hR0 : RwC (su σ 9 0 i 0) (su σ 9 0 i 0) i [] := ⟨offU.rf, fun _ _ => rfl, (su_nc rfl).trans h5, fun j hj => absurd hj (Nat.not_lt_zero j)⟩
  have h10 : su σ 9 0 i 0 7 0 10 = nI (enS B len f) := (su_nc rfl).trans hT.2.2.2
  generalize su σ 9 0 i 0 = σ0 at hX0 hR0 hno hyes h10 ⊢
  refine sp_tokenC hX0 he.2.1 h10 (fun σ1 o1 t1 => ?_)
  have R1 := hR0.tok o1
  refine sp_rowC hX0 R1 t1 hi8 (by decide) (by decide) (by decide) rfl rfl (fun hn => ⟨fun z => absurd rfl z, fun _ => hno (nxS B len f) _ (fun C => ?_) R1.1 t1.2.2.1⟩) (fun p σ2 hp R2 t2 => ⟨fun _ => ?_, fun z => absurd z (by decide)⟩)
  · rw [l0, show rdS B len (nxS B len f) 0 3 = none from hn]
  · have hp' : rdS B len (nxS B len f) 0 3 = some p := hp
    rw [hp'] at l0
    dsimp only at l0
    refine sp_kindC (hX0.offU R2.1) t2 ?_
    cases hk : kdS B len p.2 with
    | none =>
      refine ⟨fun z => absurd rfl z, fun _ => hno p.2 _ (fun C => ?_) R2.1 t2.2.2.1⟩
      rw [l0, hk]
    | some k =>
      rw [hk] at l0
      dsimp only at l0
      have hk4 := kdS_lt hk
      refine ⟨fun _ => ?_, fun z => absurd z (nI_m1 (by omega))⟩
      refine sp_storeC (n := 5 * i + ([] ++ [p.1]).length) (show 5 * i + 1 < 40 by omega) R2.2.2.1 (fun σ3 hs h7 => ?_)
      have R3 := R2.add (v := k) hs
      refine sp_tokenC (hX0.offU R3.1) (enS_le (B := B) t2.1).2.1 ((h7 10 (by decide)).trans t2.2.2.2) (fun σ4 o4 t4 => ?_)
      have R4 := R3.tok o4
      have ek : opN (some k) = 0 ↔ k = 0 := nI_eq (b := 0) (by omega) (by decide)
      rw [ek]
      refine ⟨fun z => ?_, fun z => ?_⟩
      · have l1 : ∀ C, lnS B len C f = (match rdS B len (nxS B len p.2) 1 9 with
          | none => .inl (nxS B len p.2)
          | some q => .inr (0, [p.1, k, q.1], q.2)) := by
          intro C
          rw [l0, if_neg z]
        refine sp_rowC hX0 R4 t4 hi8 (show 2 < 5 by decide) (by decide) (by decide) rfl rfl (fun hn => ⟨bool0, hno (nxS B len p.2) _ (fun C => ?_) R4.1 t4.2.2.1⟩) (fun q σ5 hq R5 t5 => ⟨bool1, hyes _ _ σ5 (fun C => ?_) R5 t5⟩)
        · rw [l1, show rdS B len (nxS B len p.2) 1 9 = none from hn]
        · rw [l1, show rdS B len (nxS B len p.2) 1 9 = some q from hq]
          rfl
      · refine sp_storeC (n := 5 * i + ([] ++ [p.1] ++ [k]).length) (show 5 * i + 2 < 40 by omega) R4.2.2.1 (fun σ5 hs5 h75 => ?_)
        have R5 := R4.add (v := 0) hs5
        refine hyes _ (nxS B len p.2) σ5 (fun C => ?_) R5 ⟨t4.1, (h75 8 (by decide)).trans t4.2.1, (h75 9 (by decide)).trans t4.2.2.1, (h75 10 (by decide)).trans t4.2.2.2⟩
        rw [l0, if_pos z, z]
        rfl
theorem isThingN {v : Nat} (h : v < 1000) : (0 ≤ nI v ∧ nI v ≤ 3) ↔ v ≤ 3 := by
  rw [show ((0 : Int32) ≤ nI v ↔ 0 ≤ v) from nI_leI (a := 0) (by decide) (by omega), show (nI v ≤ 3 ↔ v ≤ 3) from nI_leI (b := 3) (by omega) (by decide)]
  omega
theorem sp_readBareC {σ : St} {B : Nat → Int32} {len f i : Nat} {post : Int32 → St → Prop} (hX : TxC σ B len) (hT : TkC σ B len f) (hi8 : i < 8) (h2 : σ 7 0 2 = nI i) (h5 : σ 7 0 5 = nI (5 * i)) (hw : wdS B len f = some 2)
    (hno : ∀ p σ', (∀ C, lnS B len C f = .inl p) → offU (su σ 9 0 i 2) σ' → σ' 7 0 9 = nI p → post 0 σ')
    (hyes : ∀ t g σ', (∀ C, lnS B len C f = .inr (2, [t], g)) → t < 4 → RwC (su (su σ 9 0 i 2) 12 0 t 0) σ' i [t] → TkC σ' B len g → post 1 σ') : wp_X5_readBare post σ := by
  have hX0 : TxC (su σ 9 0 i 2) B len := ⟨(su_nc rfl).trans hX.1, hX.2.1, fun j hj => (su_nc rfl).trans (hX.2.2 j hj)⟩
  have he := enS_le (B := B) hT.1
  unfold wp_X5_readBare
  rw [h2, nI_clamp (by omega)]
  refine ⟨pk_in i 8 hi8, ?_⟩
  have l0 : ∀ C, lnS B len C f = (match rdS B len (nxS B len f) 0 3 with
      | none => .inl (nxS B len f)
      | some p => .inr (2, [p.1], p.2)) := by
    intro C
    unfold lnS
    rw [hw]
    dsimp only
    rw [if_neg (by decide), if_neg (by decide), if_pos rfl, rdL]
    cases rdS B len (nxS B len f) 0 3 with
    | none => rfl
    | some p => rfl
  have h50 : su σ 9 0 i 2 7 0 5 = nI (5 * i) := (su_nc rfl).trans h5
  have h10 : su σ 9 0 i 2 7 0 10 = nI (enS B len f) := (su_nc rfl).trans hT.2.2.2
  generalize su σ 9 0 i 2 = σ0 at hX0 hno hyes h10 h50 ⊢
  refine sp_tokenC hX0 he.2.1 h10 (fun σ1 o1 t1 => ?_)
  refine sp_numberC (hX0.off o1) t1 ?_
  have none_ : rdS B len (nxS B len f) 0 3 = none → post 0 σ1 := fun hn => hno (nxS B len f) σ1 (fun C => by rw [l0, hn]) o1.U t1.2.2.1
  cases hv : nuS B len (frS B len (enS B len f)) with
  | none =>
    rw [e_isThing]
    refine ⟨fun z => absurd (bi_1.mp z) (by decide), fun _ => none_ ?_⟩
    unfold rdS nxS
    rw [hv]
  | some v =>
    have hvl := nuS_lt hv
    rw [e_isThing]
    have ev : (0 ≤ opN (some v) ∧ opN (some v) ≤ 3) ↔ v ≤ 3 := isThingN hvl
    refine ⟨fun z => ?_, fun z => none_ ?_⟩
    · have hv3 := ev.mp (bi_1.mp z)
      have ec : (opN (some v)).toNatClampNeg = v := nI_clamp (by omega)
      rw [ec]
      refine ⟨pk_in v 4 (by omega), ?_⟩
      have oS : offTk (su σ0 12 0 v 0) (su σ1 12 0 v 0) := by
        intro c o k hc
        unfold su
        split
        · rfl
        · exact o1 c o k hc
      have hXs : TxC (su σ0 12 0 v 0) B len := ⟨(su_nc rfl).trans hX0.1, hX0.2.1, fun j hj => (su_nc rfl).trans (hX0.2.2 j hj)⟩
      have Rs : RwC (su σ0 12 0 v 0) (su σ0 12 0 v 0) i [] := ⟨offU.rf, fun _ _ => rfl, (su_nc rfl).trans h50, fun j hj => absurd hj (Nat.not_lt_zero j)⟩
      have R1 := Rs.tok oS
      have ts : TkC (su σ1 12 0 v 0) B len (nxS B len f) := ⟨t1.1, (su_nc rfl).trans t1.2.1, (su_nc rfl).trans t1.2.2.1, (su_nc rfl).trans t1.2.2.2⟩
      have hr : rdS B len (nxS B len f) 0 3 = some (v, nxS B len (nxS B len f)) := by
        unfold rdS
        rw [show nuS B len (nxS B len f) = some v from hv]
        dsimp only
        rw [if_pos ⟨Nat.zero_le _, hv3⟩]
        rfl
      refine sp_rowC hXs R1 ts hi8 (by decide) (by decide) (by decide) rfl rfl (fun hn => absurd (hn.symm.trans hr) (by simp)) (fun p σ2 hp R2 t2 => ⟨bool1, ?_⟩)
      have ep : p = (v, nxS B len (nxS B len f)) := Option.some.inj (hp.symm.trans hr)
      subst ep
      exact hyes v _ σ2 (fun C => by rw [l0, hr]) (by omega) R2 t2
    · unfold rdS nxS
      rw [hv]
      dsimp only
      rw [if_neg (fun q => bi_0.mp z (ev.mpr q.2))]
