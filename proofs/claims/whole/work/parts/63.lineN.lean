/-! TEXT: the reference reads the rest of a line -/
theorem rdL_no {B : Nat → Int32} {len f : Nat} {r : Nat × Nat} {rs : List (Nat × Nat)} (h : rdS B len f r.1 r.2 = none) : rdL B len (r :: rs) f = .inl f := by
  rw [rdL, h]
theorem rdL_l {B : Nat → Int32} {len f q : Nat} {r p : Nat × Nat} {rs : List (Nat × Nat)} (h : rdS B len f r.1 r.2 = some p) (hq : rdL B len rs p.2 = .inl q) : rdL B len (r :: rs) f = .inl q := by
  rw [rdL, h]
  dsimp only
  rw [hq]
theorem rdL_r {B : Nat → Int32} {len f : Nat} {r p : Nat × Nat} {rs : List (Nat × Nat)} {z : List Nat × Nat} (h : rdS B len f r.1 r.2 = some p) (hz : rdL B len rs p.2 = .inr z) : rdL B len (r :: rs) f = .inr (p.1 :: z.1, z.2) := by
  rw [rdL, h]
  dsimp only
  rw [hz]
theorem sp_readsLumpM {μ0 μ : St} {B : Nat → Int32} {C : Nat → Nat} {len f i : Nat} {post : Int32 → St → Prop} (hX : TxM μ0 B len) (h3 : μ0 0 0 3 = nI i) (hR : RwM μ0 μ i []) (hT : TkM μ B len f) (hi8 : i < 8) (hC : ∀ t, t < 4 → μ0 7 0 t = nI (C t) ∧ C t ≤ 4)
    (hno : ∀ p μ', (rdS B len f 0 3 = none ∧ p = f ∨ ∃ q, rdS B len f 0 3 = some q ∧ (C q.1 = 4 ∧ p = f ∨ ¬ C q.1 = 4 ∧ rdL B len [(1, 300), (1, 99)] q.2 = .inl p)) → offX μ0 μ' → μ' 0 0 19 = nI p → post 0 μ')
    (hyes : ∀ q z μ', rdS B len f 0 3 = some q → ¬ C q.1 = 4 → rdL B len [(1, 300), (1, 99)] q.2 = .inr z → RwM μ0 μ' i (q.1 :: z.1) → TkM μ' B len z.2 → post 1 μ') : wp_X9_readsLump post μ := by
  unfold wp_X9_readsLump wp_X9_readsLump_74 wp_X9_readsLump_75
  refine sp_rowM (lo := 0) (hi := 3) hX h3 hR hT hi8 (by decide) (by decide) (by decide) rfl rfl rfl (fun hn => ⟨fun z => absurd rfl z, fun _ => hno f μ (Or.inl ⟨hn, rfl⟩) hR.1 hT.2.1⟩) (fun q μ1 hq R1 t1 => ⟨fun _ => ?_, fun z => absurd z (by decide)⟩)
  have hq3 := rdS_in hq
  have x1 : 6 * nI i + 1 = nI (6 * i + 1) := by
    rw [show (6 : Int32) = nI 6 from rfl, pk_mul]
    exact nI_add _ 1
  have e1 : μ1 2 0 (6 * i + 1) = nI q.1 := R1.2.2 0 (show 0 < 1 by decide)
  obtain ⟨c1, c2⟩ := hC q.1 (by omega)
  rw [R1.1 0 0 3 (by omega), h3, x1, nI_clamp (by omega), e1, nI_clamp (by omega), R1.1 7 0 q.1 (by omega), c1, show (nI (C q.1) = 4 ↔ C q.1 = 4) from nI_eq (b := 4) (by omega) (by decide)]
  refine ⟨pk_in (6 * i + 1) 48 (by omega), pk_in q.1 4 (by omega), fun z => ?_, fun z => ?_⟩
  · refine sp_rowM hX h3 R1 t1 hi8 (show 1 < 5 by decide) (by decide) (by decide) rfl rfl rfl (fun hn => ⟨fun _ => ⟨bool0, hno q.2 μ1 (Or.inr ⟨q, hq, Or.inr ⟨z, rdL_no hn⟩⟩) R1.1 t1.2.1⟩, fun y => absurd rfl y⟩) (fun a μ2 ha R2 t2 => ⟨fun y => absurd y (by decide), fun _ => ?_⟩)
    refine sp_rowM hX h3 R2 t2 hi8 (show 2 < 5 by decide) (by decide) (by decide) rfl rfl rfl (fun hn => ⟨fun _ => ⟨bool0, hno a.2 μ2 (Or.inr ⟨q, hq, Or.inr ⟨z, rdL_l ha (rdL_no hn)⟩⟩) R2.1 t2.2.1⟩, fun y => absurd rfl y⟩) (fun b μ3 hb R3 t3 => ⟨fun y => absurd y (by decide), fun _ => ⟨bool1, hyes q _ μ3 hq z (rdL_r ha (rdL_r hb rfl)) R3 t3⟩⟩)
  · refine hno f _ (Or.inr ⟨q, hq, Or.inl ⟨z, rfl⟩⟩) ?_ ?_
    · intro c o k hc
      unfold su
      rw [if_neg (by omega)]
      exact R1.1 c o k hc
    · rw [su_eq]
      exact hT.2.1
theorem sp_manM {μ0 μ : St} {B : Nat → Int32} {len f i : Nat} {pst : Int32 → St → Prop} (hX : TxM μ0 B len) (h3 : μ0 0 0 3 = nI i) (hR : RwM μ0 μ i []) (hT : TkM μ B len f) (hi8 : i < 8)
    (hno : ∀ p μ', rdL B len (raS 3) f = .inl p → offX μ0 μ' → μ' 0 0 19 = nI p → pst 0 μ')
    (hyes : ∀ z μ', rdL B len (raS 3) f = .inr z → RwM μ0 μ' i z.1 → TkM μ' B len z.2 → pst 1 μ') :
    wp_X9_reads 0 0 40 (fun r5 σ5 => ((r5 = 0 → pst 0 σ5) ∧ (¬ r5 = 0 → wp_X9_reads 1 0 40 (fun r6 σ6 => ((r6 = 0 → pst 0 σ6) ∧ (¬ r6 = 0 → wp_X9_reads 2 0 6 (fun r7 σ7 => ((r7 = 0 → pst 0 σ7) ∧ (¬ r7 = 0 → wp_X9_reads 3 1 99 (fun r8 σ8 => ((r8 = 0 → pst 0 σ8) ∧ (¬ r8 = 0 → wp_X9_reads 4 0 99 (fun r9 σ9 => ((r9 = 0 → pst 0 σ9) ∧ (¬ r9 = 0 → pst 1 σ9))) σ8))) σ7))) σ6))) σ5))) μ := by
  have ra : raS 3 = [(0, 40), (0, 40), (0, 6), (1, 99), (0, 99)] := rfl
  rw [ra] at hno hyes
  refine sp_rowM hX h3 hR hT hi8 (by decide) (by decide) (by decide) rfl rfl rfl (fun hn => ⟨fun _ => hno f μ (rdL_no hn) hR.1 hT.2.1, fun y => absurd rfl y⟩) (fun a μ1 ha R1 t1 => ⟨fun y => absurd y (by decide), fun _ => ?_⟩)
  refine sp_rowM hX h3 R1 t1 hi8 (show 1 < 5 by decide) (by decide) (by decide) rfl rfl rfl (fun hn => ⟨fun _ => hno a.2 μ1 (rdL_l ha (rdL_no hn)) R1.1 t1.2.1, fun y => absurd rfl y⟩) (fun b μ2 hb R2 t2 => ⟨fun y => absurd y (by decide), fun _ => ?_⟩)
  refine sp_rowM hX h3 R2 t2 hi8 (show 2 < 5 by decide) (by decide) (by decide) rfl rfl rfl (fun hn => ⟨fun _ => hno b.2 μ2 (rdL_l ha (rdL_l hb (rdL_no hn))) R2.1 t2.2.1, fun y => absurd rfl y⟩) (fun c μ3 hc R3 t3 => ⟨fun y => absurd y (by decide), fun _ => ?_⟩)
  refine sp_rowM hX h3 R3 t3 hi8 (show 3 < 5 by decide) (by decide) (by decide) rfl rfl rfl (fun hn => ⟨fun _ => hno c.2 μ3 (rdL_l ha (rdL_l hb (rdL_l hc (rdL_no hn)))) R3.1 t3.2.1, fun y => absurd rfl y⟩) (fun d μ4 hd R4 t4 => ⟨fun y => absurd y (by decide), fun _ => ?_⟩)
  refine sp_rowM hX h3 R4 t4 hi8 (show 4 < 5 by decide) (by decide) (by decide) rfl rfl rfl (fun hn => ⟨fun _ => hno d.2 μ4 (rdL_l ha (rdL_l hb (rdL_l hc (rdL_l hd (rdL_no hn))))) R4.1 t4.2.1, fun y => absurd rfl y⟩) (fun e μ5 he R5 t5 => ⟨fun y => absurd y (by decide), fun _ => hyes _ μ5 (rdL_r ha (rdL_r hb (rdL_r hc (rdL_r hd (rdL_r he rfl))))) R5 t5⟩)
