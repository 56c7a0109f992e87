/-! TEXT: the class reads a line: lumps and numbers -/
def offLn (σ σ' : St) : Prop := ∀ c o k, ¬ ((c = 7 ∧ (k = 5 ∨ (8 ≤ k ∧ k ≤ 10))) ∨ c = 9 ∨ c = 10 ∨ c = 11 ∨ c = 12) → σ' c o k = σ c o k
theorem offU.F {a b : St} (h : offU a b) : offLn a b := fun c o k hc => h c o k (by omega)
theorem offLn.trans {a b c : St} (h1 : offLn a b) (h2 : offLn b c) : offLn a c := fun x y z h => (h2 x y z h).trans (h1 x y z h)
theorem su_F {σ : St} {c o k : Nat} {v : Int32} (h : c = 9 ∨ c = 10 ∨ c = 11 ∨ c = 12) : offLn σ (su σ c o k v) := by
  intro c' o' k' hc
  unfold su
  rw [if_neg (by omega)]
theorem sp_readLumpC {σ : St} {B : Nat → Int32} {C : Nat → Nat} {len f i : Nat} {post : Int32 → St → Prop} (hX : TxC σ B len) (hT : TkC σ B len f) (hi8 : i < 8) (h2 : σ 7 0 2 = nI i) (h5 : σ 7 0 5 = nI (5 * i)) (hC : ∀ t, t < 4 → σ 12 0 t = nI (C t) ∧ C t ≤ 4) (hw : wdS B len f = some 1)
    (hno : ∀ p σ', lnS B len C f = .inl p → offLn σ σ' → σ' 7 0 9 = nI p → post 0 σ')
    (hyes : ∀ t a b g σ', lnS B len C f = .inr (1, [t, a, b], g) → t < 4 → C t < 4 → RwC (su (su σ 9 0 i 1) 12 0 t (nI (C t + 1))) σ' i [t, a, b] → TkC σ' B len g → post 1 σ') : wp_X5_readLump post σ := by
  have hX0 : TxC (su σ 9 0 i 1) B len := ⟨(su_nc rfl).trans hX.1, hX.2.1, fun j hj => (su_nc rfl).trans (hX.2.2 j hj)⟩
  have he := enS_le (B := B) hT.1
  unfold wp_X5_readLump wp_X5_readLump_36 wp_X5_readLump_82 wp_X5_readLump_83
  rw [h2, nI_clamp (by omega)]
  refine ⟨pk_in i 8 hi8, ?_⟩
  have l0 : lnS B len C f = (match rdS B len (nxS B len f) 0 3 with
      | none => .inl (nxS B len f)
      | some p => if C p.1 = 4 then .inl (nxS B len f) else (match rdS B len p.2 1 300 with
        | none => .inl p.2
        | some q => match rdS B len q.2 1 99 with
          | none => .inl q.2
          | some r => .inr (1, [p.1, q.1, r.1], r.2))) := by
    unfold lnS
    rw [hw]
    dsimp only
    rw [if_neg (by decide), if_pos rfl]
    cases rdS B len (nxS B len f) 0 3 with
    | none => rfl
    | some p =>
      dsimp only
      congr 1
      rw [rdL]
      dsimp only
      cases rdS B len p.2 1 300 with
      | none => rfl
      | some q =>
        dsimp only
        rw [rdL]
        dsimp only
        cases rdS B len q.2 1 99 with
        | none => rfl
        | some r => rfl
  have h50 : su σ 9 0 i 1 7 0 5 = nI (5 * i) := (su_nc rfl).trans h5
  have h10 : su σ 9 0 i 1 7 0 10 = nI (enS B len f) := (su_nc rfl).trans hT.2.2.2
  have hC0 : ∀ t, t < 4 → su σ 9 0 i 1 12 0 t = nI (C t) ∧ C t ≤ 4 := fun t ht => ⟨(su_nc rfl).trans (hC t ht).1, (hC t ht).2⟩
  have oF : offLn σ (su σ 9 0 i 1) := su_F (Or.inl rfl)
  generalize su σ 9 0 i 1 = σ0 at hX0 hyes h10 h50 hC0 oF ⊢
  refine sp_tokenC hX0 he.2.1 h10 (fun σ1 o1 t1 => ?_)
  refine sp_numberC (hX0.off o1) t1 ?_
  have none_ : lnS B len C f = .inl (nxS B len f) → post 0 σ1 := fun hn => hno (nxS B len f) σ1 hn (oF.trans o1.U.F) t1.2.2.1
  cases hv : nuS B len (frS B len (enS B len f)) with
  | none =>
    rw [e_isThing]
    refine ⟨fun _ => none_ ?_, fun z => absurd (bi_1.mp z) (by decide)⟩
    rw [l0]
    unfold rdS
    rw [show nuS B len (nxS B len f) = none from hv]
  | some v =>
    have hvl := nuS_lt hv
    rw [e_isThing]
    have ev : (0 ≤ opN (some v) ∧ opN (some v) ≤ 3) ↔ v ≤ 3 := isThingN hvl
    refine ⟨fun z => none_ ?_, fun z => ?_⟩
    · rw [l0]
      unfold rdS
      rw [show nuS B len (nxS B len f) = some v from hv]
      dsimp only
      rw [if_neg (fun q => bi_0.mp z (ev.mpr q.2))]
    · have hv3 := ev.mp (bi_1.mp z)
      have ec : (opN (some v)).toNatClampNeg = v := nI_clamp (by omega)
      obtain ⟨c1, c2⟩ := hC0 v (by omega)
      have hr : rdS B len (nxS B len f) 0 3 = some (v, nxS B len (nxS B len f)) := by
        unfold rdS
        rw [show nuS B len (nxS B len f) = some v from hv]
        dsimp only
        rw [if_pos ⟨Nat.zero_le _, hv3⟩]
        rfl
      rw [hr] at l0
      dsimp only at l0
      have hv4 : vp_in (opN (some v)) 4 := pk_in v 4 (by omega)
      rw [ec, o1 12 0 v (by omega), c1, nI_1]
      have elt : nI (C v) < 4 ↔ C v < 4 := by
        rw [fa_lt, nI_toInt (by omega), show (4 : Int32).toInt = 4 from rfl]
        omega
      rw [elt]
      refine ⟨hv4, fun hlt => ⟨hv4, hv4, ?_⟩, fun hge => none_ ?_⟩
      · rw [if_neg (by omega)] at l0
        have oS : offTk (su σ0 12 0 v (nI (C v + 1))) (su σ1 12 0 v (nI (C v + 1))) := by
          intro c o k hc
          unfold su
          split
          · rfl
          · exact o1 c o k hc
        have hXs : TxC (su σ0 12 0 v (nI (C v + 1))) B len := ⟨(su_nc rfl).trans hX0.1, hX0.2.1, fun j hj => (su_nc rfl).trans (hX0.2.2 j hj)⟩
        have Rs : RwC (su σ0 12 0 v (nI (C v + 1))) (su σ0 12 0 v (nI (C v + 1))) i [] := ⟨offU.rf, fun _ _ => rfl, (su_nc rfl).trans h50, fun j hj => absurd hj (Nat.not_lt_zero j)⟩
        have R1 := Rs.tok oS
        have ts : TkC (su σ1 12 0 v (nI (C v + 1))) B len (nxS B len f) := ⟨t1.1, (su_nc rfl).trans t1.2.1, (su_nc rfl).trans t1.2.2.1, (su_nc rfl).trans t1.2.2.2⟩
        have oG : ∀ σ', offU (su σ0 12 0 v (nI (C v + 1))) σ' → offLn σ σ' := fun σ' hu => (oF.trans (su_F (Or.inr (Or.inr (Or.inr rfl))))).trans hu.F
        refine sp_rowC hXs R1 ts hi8 (by decide) (by decide) (by decide) rfl rfl (fun hn => absurd (hn.symm.trans hr) (by simp)) (fun p σ2 hp R2 t2 => ⟨fun y => absurd y (by decide), fun _ => ?_⟩)
        have ep : p = (v, nxS B len (nxS B len f)) := Option.some.inj (hp.symm.trans hr)
        subst ep
        dsimp only at t2 R2
        refine sp_rowC hXs R2 t2 hi8 (show 1 < 5 by decide) (by decide) (by decide) rfl rfl (fun hn => ⟨fun _ => ⟨bool0, hno _ σ2 ?_ (oG _ R2.1) t2.2.2.1⟩, fun y => absurd rfl y⟩) (fun q σ3 hq R3 t3 => ⟨fun y => absurd y (by decide), fun _ => ?_⟩)
        · rw [l0, hn]
        · rw [hq] at l0
          dsimp only at l0
          refine sp_rowC hXs R3 t3 hi8 (show 2 < 5 by decide) (by decide) (by decide) rfl rfl (fun hn => ⟨fun _ => ⟨bool0, hno _ σ3 ?_ (oG _ R3.1) t3.2.2.1⟩, fun y => absurd rfl y⟩) (fun r σ4 hr4 R4 t4 => ⟨fun y => absurd y (by decide), fun _ => ⟨bool1, ?_⟩⟩)
          · rw [l0, hn]
          · rw [hr4] at l0
            exact hyes v q.1 r.1 r.2 σ4 l0 (by omega) hlt R4 t4
      · rw [l0, if_pos (by omega)]
