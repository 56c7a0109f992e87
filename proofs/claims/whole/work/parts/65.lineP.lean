/-! TEXT: the reference reads any line -/
def offLm (μ μ' : St) : Prop := ∀ c o k, ¬ ((c = 0 ∧ (k = 3 ∨ (18 ≤ k ∧ k ≤ 20))) ∨ c = 2 ∨ c = 7) → μ' c o k = μ c o k
theorem offLm.rf {a : St} : offLm a a := fun _ _ _ _ => rfl
theorem offLm.trans {a b c : St} (h1 : offLm a b) (h2 : offLm b c) : offLm a c := fun x y z h => (h2 x y z h).trans (h1 x y z h)
theorem offX.Lm {a b : St} (h : offX a b) : offLm a b := fun c o k hc => h c o k (by omega)
theorem su_Lm {μ : St} {c o k : Nat} {v : Int32} (h : (c = 0 ∧ k = 3) ∨ c = 2 ∨ c = 7) : offLm μ (su μ c o k v) := by
  intro c' o' k' hc
  unfold su
  rw [if_neg (by omega)]
theorem TxM.offLm {μ μ' : St} {B : Nat → Int32} {len : Nat} (h : TxM μ B len) (ho : offLm μ μ') : TxM μ' B len := by
  obtain ⟨a, b, c⟩ := h
  exact ⟨(ho 0 0 1 (by omega)).trans a, b, fun i hi => (ho 1 0 i (by omega)).trans (c i hi)⟩
def LnM (μ : St) (i w : Nat) (vs : List Nat) : Prop := μ 2 0 (6 * i) = nI w ∧ ∀ j, j < vs.length → μ 2 0 (6 * i + 1 + j) = nI (vs.getD j 0)
theorem sp_readsLineM {μ : St} {B : Nat → Int32} {C : Nat → Nat} {len f i : Nat} {post : Int32 → St → Prop} (hX : TxM μ B len) (hT : TkM μ B len f) (hi8 : i < 8) (h3 : μ 0 0 3 = nI i) (hC : ∀ t, t < 4 → μ 7 0 t = nI (C t) ∧ C t ≤ 4)
    (hno : ∀ p μ', lnS B len C f = .inl p → offLm μ μ' → μ' 0 0 19 = nI p → post 0 μ')
    (hyes : ∀ w vs g μ', lnS B len C f = .inr (w, vs, g) → offLm μ μ' → μ' 0 0 3 = nI (i + 1) → (∀ k, k < 6 * i → μ' 2 0 k = μ 2 0 k) → LnM μ' i w vs → (∀ t, t < 4 → μ' 7 0 t = nI (upC C w vs t)) → TkM μ' B len g → post 1 μ') : wp_X9_readsLine post μ := by
  have he := enS_le (B := B) hT.1
  unfold wp_X9_readsLine wp_X9_readsLine_85
  refine sp_wordOfM hX hT ?_
  cases hw : wdS B len f with
  | none => exact ⟨fun z => absurd rfl z, fun _ => hno f μ (by unfold lnS; rw [hw]) offLm.rf hT.2.1⟩
  | some w =>
    have w9 := wdS_lt hw
    refine ⟨fun _ => ?_, fun z => absurd z (nI_m1 (by omega))⟩
    refine sp_tokenM hX he.2.1 hT.2.2.2 (fun μ2 o2 t2 => ?_)
    have e3 : μ2 0 0 3 = nI i := (o2 0 0 3 (by omega)).trans h3
    have x0 : 6 * nI i = nI (6 * i) := by rw [show (6 : Int32) = nI 6 from rfl, pk_mul]
    have x1 : nI (6 * i) + 1 = nI (6 * i + 1) := nI_1 _
    rw [e3, x0, x1, nI_clamp (by omega), nI_clamp (by omega)]
    refine ⟨pk_in (6 * i) 48 (by omega), ?_⟩
    have ow : opN (some w) = nI w := rfl
    rw [ow]
    have o3 : offLm μ (su μ2 2 0 (6 * i) (nI w)) := o2.X.Lm.trans (su_Lm (by omega))
    have t3 : TkM (su μ2 2 0 (6 * i) (nI w)) B len (nxS B len f) := ⟨t2.1, (su_nc rfl).trans t2.2.1, (su_nc rfl).trans t2.2.2.1, (su_nc rfl).trans t2.2.2.2⟩
    have f3 : su μ2 2 0 (6 * i) (nI w) 0 0 3 = nI i := (su_nc rfl).trans e3
    have f7 : ∀ t, t < 4 → su μ2 2 0 (6 * i) (nI w) 7 0 t = nI (C t) ∧ C t ≤ 4 := fun t ht => ⟨(su_nc rfl).trans ((o2 7 0 t (by omega)).trans (hC t ht).1), (hC t ht).2⟩
    have f6 : su μ2 2 0 (6 * i) (nI w) 2 0 (6 * i) = nI w := su_eq
    have fk : ∀ k, k < 6 * i → su μ2 2 0 (6 * i) (nI w) 2 0 k = μ 2 0 k := fun k hk => (su_nk' (by omega)).trans (o2 2 0 k (by omega))
    generalize su μ2 2 0 (6 * i) (nI w) = μ0 at o3 t3 f3 f7 f6 fk ⊢
    have hX0 := hX.offLm o3
    refine sp_readsRestM hX0 f3 ⟨offX.rf, fun _ _ => rfl, fun j hj => absurd hj (Nat.not_lt_zero j)⟩ t3 hi8 f7 hw rfl (fun p μ4 hl o4 h19 => ⟨fun z => absurd rfl z, fun _ => hno p μ4 hl (o3.trans o4.Lm) h19⟩) (fun vs g μ4 hl R4 t4 => ⟨fun _ => ?_, fun z => absurd z (by decide)⟩)
    obtain ⟨ok1, ok2, ok3⟩ := lnS_ok hl
    have e34 : μ4 0 0 3 = nI i := (R4.1 0 0 3 (by omega)).trans f3
    have fin : ∀ μ5, offLm μ4 μ5 → (∀ k, μ5 2 0 k = μ4 2 0 k) → μ5 0 0 3 = nI i → μ5 0 0 18 = μ4 0 0 18 → μ5 0 0 19 = μ4 0 0 19 → μ5 0 0 20 = μ4 0 0 20 → (∀ t, t < 4 → μ5 7 0 t = nI (upC C w vs t)) → post 1 (su μ5 0 0 3 (μ5 0 0 3 + 1)) := by
      intro μ5 o5 h2 h35 h18 h19 h20 h7
      rw [h35, nI_1]
      refine hyes w vs g _ hl (((o3.trans R4.1.Lm).trans o5).trans (su_Lm (Or.inl ⟨rfl, rfl⟩))) su_eq (fun k hk => ?_) ⟨?_, fun j hj => ?_⟩ (fun t ht => (su_nc rfl).trans (h7 t ht)) ⟨t4.1, (su_nk rfl).trans (h19.trans t4.2.1), (su_nk rfl).trans (h20.trans t4.2.2.1), (su_nk rfl).trans (h18.trans t4.2.2.2)⟩
      · rw [su_nc rfl, h2, R4.2.1 k (by omega), fk k hk]
      · rw [su_nc rfl, h2, R4.2.1 _ (by omega), f6]
      · rw [su_nc rfl, h2]
        exact R4.2.2 j hj
    have c4 : ∀ t, t < 4 → μ4 7 0 t = nI (C t) := fun t ht => (R4.1 7 0 t (by omega)).trans (f7 t ht).1
    have q1 : nI w = 1 ↔ w = 1 := nI_eq (b := 1) (by omega) (by decide)
    have q2 : nI w = 2 ↔ w = 2 := nI_eq (b := 2) (by omega) (by decide)
    rw [q1, q2]
    have v0 : w = 1 ∨ w = 2 → vs.getD 0 0 ≤ 3 ∧ μ4 2 0 (6 * i + 1) = nI (vs.getD 0 0) := by
      intro z
      rcases z with z | z
      · subst z
        have h1 := ok2.2 0 (by decide)
        exact ⟨h1.2, R4.2.2 0 (by rw [ok2.1]; decide)⟩
      · subst z
        have h1 := ok2.2 0 (by decide)
        exact ⟨h1.2, R4.2.2 0 (by rw [ok2.1]; decide)⟩
    have hv1 : vp_in (nI (6 * i + 1)) 48 := pk_in (6 * i + 1) 48 (by omega)
    refine ⟨fun z1 => ⟨fun z2 => ?_, fun z2 => ?_⟩, fun z1 => ?_⟩
    · refine fin μ4 offLm.rf (fun _ => rfl) e34 rfl rfl rfl (fun t ht => ?_)
      rw [c4 t ht]
      unfold upC
      rw [if_neg (fun q => z1 q.1), if_neg (fun q => z2 q.1)]
    · obtain ⟨u1, u2⟩ := v0 (Or.inr z2)
      rw [u2, nI_clamp (by omega)]
      refine ⟨hv1, pk_in (vs.getD 0 0) 4 (by omega), ?_⟩
      refine fin _ (su_Lm (Or.inr (Or.inr rfl))) (fun _ => su_nc rfl) ((su_nc rfl).trans e34) (su_nc rfl) (su_nc rfl) (su_nc rfl) (fun t ht => ?_)
      unfold upC
      rw [if_neg (fun q => z1 q.1)]
      by_cases e : t = vs.getD 0 0
      · rw [e, su_eq, if_pos ⟨z2, rfl⟩]
        rfl
      · rw [su_nk' e, if_neg (fun q => e q.2)]
        exact c4 t ht
    · obtain ⟨u1, u2⟩ := v0 (Or.inl z1)
      have hv : vp_in (nI (vs.getD 0 0)) 4 := pk_in (vs.getD 0 0) 4 (by omega)
      rw [u2, nI_clamp (by omega), c4 _ (by omega), nI_1]
      refine ⟨hv1, hv, hv, ?_⟩
      refine fin _ (su_Lm (Or.inr (Or.inr rfl))) (fun _ => su_nc rfl) ((su_nc rfl).trans e34) (su_nc rfl) (su_nc rfl) (su_nc rfl) (fun t ht => ?_)
      unfold upC
      by_cases e : t = vs.getD 0 0
      · rw [e, su_eq, if_pos ⟨z1, rfl⟩]
      · rw [su_nk' e, if_neg (fun q => e q.2), if_neg (fun q => e q.2)]
        exact c4 t ht
