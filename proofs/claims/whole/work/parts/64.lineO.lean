/-! TEXT: the reference reads the rest of a line, whichever -/
theorem sp_oneM {μ0 μ : St} {B : Nat → Int32} {C : Nat → Nat} {len f0 i w lo hi : Nat} {x2 x3 : Int32} {post : Int32 → St → Prop} (hX : TxM μ0 B len) (h3 : μ0 0 0 3 = nI i) (hR : RwM μ0 μ i []) (hT : TkM μ B len (nxS B len f0)) (hi8 : i < 8) (hlo : lo < 1000) (hhi : hi < 1000) (e2 : x2 = nI lo) (e3 : x3 = nI hi)
    (hl : lnS B len C f0 = (match rdL B len [(lo, hi)] (nxS B len f0) with
      | .inl q => .inl q
      | .inr z => .inr (w, z.1, z.2)))
    (hno : ∀ p μ', lnS B len C f0 = .inl p → offX μ0 μ' → μ' 0 0 19 = nI p → post 0 μ')
    (hyes : ∀ vs g μ', lnS B len C f0 = .inr (w, vs, g) → RwM μ0 μ' i vs → TkM μ' B len g → post 1 μ') : wp_X9_reads 0 x2 x3 (fun r4 σ4 => (narrow .boolean (.int r4) = .int r4 ∧ post r4 σ4)) μ := by
  refine sp_rowM (lo := lo) (hi := hi) hX h3 hR hT hi8 (by decide) hlo hhi rfl e2 e3 (fun hn => ⟨bool0, hno (nxS B len f0) μ ?_ hR.1 hT.2.1⟩) (fun p μ1 hp R1 t1 => ⟨bool1, hyes [p.1] p.2 μ1 ?_ R1 t1⟩)
  · rw [hl, rdL_no (r := (lo, hi)) hn]
  · rw [hl, rdL_r (r := (lo, hi)) hp rfl]
theorem sp_readsRestM {μ0 μ : St} {B : Nat → Int32} {C : Nat → Nat} {len f0 i w : Nat} {x1 : Int32} {post : Int32 → St → Prop} (hX : TxM μ0 B len) (h3 : μ0 0 0 3 = nI i) (hR : RwM μ0 μ i []) (hT : TkM μ B len (nxS B len f0)) (hi8 : i < 8) (hC : ∀ t, t < 4 → μ0 7 0 t = nI (C t) ∧ C t ≤ 4) (hw : wdS B len f0 = some w) (hx1 : x1 = nI w)
    (hno : ∀ p μ', lnS B len C f0 = .inl p → offX μ0 μ' → μ' 0 0 19 = nI p → post 0 μ')
    (hyes : ∀ vs g μ', lnS B len C f0 = .inr (w, vs, g) → RwM μ0 μ' i vs → TkM μ' B len g → post 1 μ') : wp_X9_readsRest x1 post μ := by
  subst hx1
  have w9 := wdS_lt hw
  have lN : ∀ rs, 2 ≤ w → (w = 2 → rs = [(0, 3)]) → (¬ w = 2 → rs = raS w) → lnS B len C f0 = (match rdL B len rs (nxS B len f0) with
      | .inl q => .inl q
      | .inr z => .inr (w, z.1, z.2)) := by
    intro rs w2 ha hb
    unfold lnS
    rw [hw]
    dsimp only
    rw [if_neg (by omega), if_neg (by omega)]
    by_cases e : w = 2
    · rw [if_pos e, ha e, e]
      cases rdL B len [(0, 3)] (nxS B len f0) <;> rfl
    · rw [if_neg e, hb e]
      cases rdL B len (raS w) (nxS B len f0) <;> rfl
  unfold wp_X9_readsRest wp_X9_readsRest_69 wp_X9_readsRest_70 wp_X9_readsRest_143 wp_X9_readsRest_144
  have q : ∀ n, n < 9 → (nI w = nI n ↔ w = n) := fun n hn => nI_eq (by omega) (by omega)
  have q0 : nI w = 0 ↔ w = 0 := q 0 (by decide)
  have q1 : nI w = 1 ↔ w = 1 := q 1 (by decide)
  have q2 : nI w = 2 ↔ w = 2 := q 2 (by decide)
  have q3 : nI w = 3 ↔ w = 3 := q 3 (by decide)
  have q4 : nI w = 4 ↔ w = 4 := q 4 (by decide)
  have q5 : nI w = 5 ↔ w = 5 := q 5 (by decide)
  have q6 : nI w = 6 ↔ w = 6 := q 6 (by decide)
  have q7 : nI w = 7 ↔ w = 7 := q 7 (by decide)
  rw [q0, q1, q2, q3, q4, q5, q6, q7]
  refine ⟨fun z => ?_, fun z0 => ⟨fun z => ?_, fun z1 => ⟨fun z => ?_, fun z2 => ⟨fun z => ?_, fun z3 => ⟨fun z => ?_, fun z4 => ⟨fun z => ?_, fun z5 => ⟨fun z => ?_, fun z6 => ⟨fun z => ?_, fun z7 => ?_⟩⟩⟩⟩⟩⟩⟩⟩
  · subst z
    have l0 : lnS B len C f0 = (match rdS B len (nxS B len f0) 0 3 with
      | none => .inl (nxS B len f0)
      | some p => match kdS B len p.2 with
        | none => .inl p.2
        | some k => if k = 0 then .inr (0, [p.1, 0, 0], nxS B len p.2) else (match rdS B len (nxS B len p.2) 1 9 with
          | none => .inl (nxS B len p.2)
          | some q => .inr (0, [p.1, k, q.1], q.2))) := by
      unfold lnS
      rw [hw]
      rfl
    refine sp_rowM (lo := 0) (hi := 3) hX h3 hR hT hi8 (by decide) (by decide) (by decide) rfl rfl rfl (fun hn => ⟨fun _ => ⟨bool0, hno _ μ (by rw [l0, hn]) hR.1 hT.2.1⟩, fun y => absurd rfl y⟩) (fun p μ1 hp R1 t1 => ⟨fun y => absurd y (by decide), fun _ => ?_⟩)
    rw [hp] at l0
    dsimp only at l0
    refine sp_readsKindM hX h3 R1 t1 hi8 (fun hk => ⟨fun _ => ⟨bool0, hno p.2 μ1 (by rw [l0, hk]) R1.1 t1.2.1⟩, fun y => absurd rfl y⟩) (fun k μ2 hk k0 hr o2 h19 => ⟨fun _ => ⟨bool0, hno _ μ2 ?_ o2 h19⟩, fun y => absurd rfl y⟩) (fun μ2 hk R2 t2 => ⟨fun y => absurd y (by decide), fun _ => ⟨bool1, hyes _ _ μ2 ?_ R2 t2⟩⟩) (fun k y μ2 hk k0 hr R2 t2 => ⟨fun y => absurd y (by decide), fun _ => ⟨bool1, hyes _ _ μ2 ?_ R2 t2⟩⟩)
    · rw [l0, hk]
      dsimp only
      rw [if_neg k0, hr]
    · rw [l0, hk]
      dsimp only
      rw [if_pos rfl]
    · rw [l0, hk]
      dsimp only
      rw [if_neg k0, hr]
  · subst z
    have l0 : lnS B len C f0 = (match rdS B len (nxS B len f0) 0 3 with
      | none => .inl (nxS B len f0)
      | some p => if C p.1 = 4 then .inl (nxS B len f0) else (match rdL B len [(1, 300), (1, 99)] p.2 with
        | .inl q => .inl q
        | .inr z => .inr (1, p.1 :: z.1, z.2))) := by
      unfold lnS
      rw [hw]
      dsimp only
      rw [if_neg (by decide), if_pos rfl]
      cases rdS B len (nxS B len f0) 0 3 with
      | none => rfl
      | some p =>
        dsimp only
        cases rdL B len [(1, 300), (1, 99)] p.2 <;> rfl
    refine sp_readsLumpM hX h3 hR hT hi8 hC (fun p μ1 hp o1 h19 => ⟨bool0, hno p μ1 ?_ o1 h19⟩) (fun p z μ1 hp hc hz R1 t1 => ⟨bool1, hyes _ _ μ1 ?_ R1 t1⟩)
    · rcases hp with ⟨a, b⟩ | ⟨y, a, ⟨b, c⟩ | ⟨b, c⟩⟩
      · rw [l0, a, b]
      · rw [l0, a]
        dsimp only
        rw [if_pos b, c]
      · rw [l0, a]
        dsimp only
        rw [if_neg b, c]
    · rw [l0, hp]
      dsimp only
      rw [if_neg hc, hz]
  · subst z
    exact sp_oneM hX h3 hR hT hi8 (lo := 0) (hi := 3) (by decide) (by decide) rfl rfl (lN _ (by decide) (fun _ => rfl) (fun z => absurd rfl z)) hno hyes
  · subst z
    have l3 := lN (raS 3) (by decide) (fun z => absurd z (by decide)) (fun _ => rfl)
    refine sp_manM (pst := fun r σ => narrow .boolean (.int r) = .int r ∧ post r σ) hX h3 hR hT hi8 (fun p μ1 hp o1 h19 => ⟨bool0, hno p μ1 (by rw [l3, hp]) o1 h19⟩) (fun z μ1 hz R1 t1 => ⟨bool1, hyes _ _ μ1 (by rw [l3, hz]) R1 t1⟩)
  · subst z
    exact sp_oneM hX h3 hR hT hi8 (lo := 0) (hi := 999) (by decide) (by decide) rfl rfl (lN _ (by decide) (fun z => absurd z (by decide)) (fun _ => rfl)) hno hyes
  · subst z
    exact sp_oneM hX h3 hR hT hi8 (lo := 1) (hi := 99) (by decide) (by decide) rfl rfl (lN _ (by decide) (fun z => absurd z (by decide)) (fun _ => rfl)) hno hyes
  · subst z
    exact sp_oneM hX h3 hR hT hi8 (lo := 1) (hi := 999) (by decide) (by decide) rfl rfl (lN _ (by decide) (fun z => absurd z (by decide)) (fun _ => rfl)) hno hyes
  · subst z
    exact sp_oneM hX h3 hR hT hi8 (lo := 0) (hi := 20) (by decide) (by decide) rfl rfl (lN _ (by decide) (fun z => absurd z (by decide)) (fun _ => rfl)) hno hyes
  · have e8 : w = 8 := by omega
    subst e8
    exact sp_oneM hX h3 hR hT hi8 (lo := 0) (hi := 99) (by decide) (by decide) rfl rfl (lN _ (by decide) (fun z => absurd z (by decide)) (fun _ => rfl)) hno hyes
