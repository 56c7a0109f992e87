/-! TEXT: the reference's first fault -/
def txT (B : Nat → Int32) (len m g : Nat) (C : Nat → Nat) : Nat ⊕ List (Nat × List Nat) := if len ≤ g then .inr [] else if B g = 59 then txS B len m g C (enS B len g) else .inl g
theorem txS_l {B : Nat → Int32} {len m s b p : Nat} {C : Nat → Nat} (h : lnS B len C (frS B len b) = .inl p) : txS B len (m + 1) s C b = .inl p := by
  rw [txS, h]
theorem txS_r {B : Nat → Int32} {len m s b w g : Nat} {C : Nat → Nat} {vs : List Nat} (h : lnS B len C (frS B len b) = .inr (w, vs, g)) : (∀ p, txT B len m g (upC C w vs) = .inl p → txS B len (m + 1) s C b = .inl p) ∧ ∀ l, txT B len m g (upC C w vs) = .inr l → txS B len (m + 1) s C b = .inr ((w, vs) :: l) := by
  rw [txS, h]
  unfold txT
  dsimp only
  by_cases hg : len ≤ g
  · simp only [if_pos hg]
    exact ⟨fun p hp => absurd hp (by simp), fun l hl => by rw [← Sum.inr.inj hl]⟩
  · simp only [if_neg hg]
    by_cases y : B g = 59
    · simp only [if_pos y]
      exact ⟨fun p hp => by rw [hp], fun l hl => by rw [hl]⟩
    · simp only [if_neg y]
      exact ⟨fun p hp => by rw [← Sum.inl.inj hp], fun l hl => absurd hl (by simp)⟩
def LsM (μ : St) (L : List (Nat × List Nat)) : Prop := ∀ j, j < L.length → LnM μ j (L.getD j (0, [])).1 (L.getD j (0, [])).2 ∧ (L.getD j (0, [])).2.length ≤ 5
theorem LsM.keep {μ μ' : St} {L : List (Nat × List Nat)} (h : LsM μ L) (hk : ∀ k, k < 6 * L.length → μ' 2 0 k = μ 2 0 k) : LsM μ' L := by
  intro j hj
  obtain ⟨⟨a, b⟩, d⟩ := h j hj
  refine ⟨⟨(hk _ (by omega)).trans a, fun k hk2 => (hk _ (by omega)).trans (b k hk2)⟩, d⟩
theorem LsM.add {μ : St} {L : List (Nat × List Nat)} {w : Nat} {vs : List Nat} (h : LsM μ L) (hn : LnM μ L.length w vs) (hv : vs.length ≤ 5) : LsM μ (L ++ [(w, vs)]) := by
  intro j hj
  rw [List.length_append, List.length_singleton] at hj
  by_cases e : j = L.length
  · rw [e, List.getD_eq_getElem?_getD, List.getElem?_append_right (Nat.le_refl _), Nat.sub_self]
    exact ⟨hn, hv⟩
  · rw [List.getD_eq_getElem?_getD, List.getElem?_append_left (by omega), ← List.getD_eq_getElem?_getD]
    exact h j (by omega)
theorem sp_faultM {μ : St} {B : Nat → Int32} {C : Nat → Nat} {len : Nat} {post : Int32 → St → Prop} (hX : TxM μ B len) (hC : ∀ t, t < 4 → μ 5 0 t = nI (C t) ∧ C t ≤ 4)
    (hno : ∀ p μ', txS B len 8 0 C 0 = .inl p → offLm μ μ' → post (nI p) μ')
    (hyes : ∀ L μ', txS B len 8 0 C 0 = .inr L → L.length ≤ 8 → offLm μ μ' → μ' 0 0 3 = nI L.length → LsM μ' L → post (-1) μ') : wp_X9_fault post μ := by
  have hlen := hX.2.1
  have head : ∀ n m i g Ci (L : List (Nat × List Nat)) μ1, i + m = 8 → L.length = i → offLm μ μ1 → TkM μ1 B len g → μ1 0 0 3 = nI i → LsM μ1 L → (∀ p, txT B len m g Ci = .inl p → txS B len 8 0 C 0 = .inl p) → (∀ l, txT B len m g Ci = .inr l → txS B len 8 0 C 0 = .inr (L ++ l)) → (g < len → B g = 59 → i < 8 → wp_X9_fault_103 (fun τ => wp_X9_fault_51 post n τ) post 1 μ1) → wp_X9_fault_51 post (n + 1) μ1 := by
    intro n m i g Ci L μ1 e eL ho t1 h3 hL hl hr good
    have hX1 := hX.offLm ho
    have hgl := t1.1
    have hen := enS_le (B := B) hgl
    have bad : ¬ len ≤ g → (B g = 59 → m = 0) → wp_X9_fault_102 (fun τ => wp_X9_fault_51 post n τ) post μ1 := by
      intro hg hm
      unfold wp_X9_fault_102 wp_X9_fault_103 wp_X9_fault_117
      refine ⟨fun _ => ⟨fun z => absurd rfl z, fun _ => ?_⟩, fun z => absurd rfl z⟩
      rw [t1.2.1]
      refine hno g μ1 (hl g ?_) ho
      unfold txT
      rw [if_neg hg]
      by_cases y : B g = 59
      · rw [if_pos y, hm y]
        rfl
      · rw [if_neg y]
    have e59 : B g = 59 → g < len → enS B len g = g + 1 := by
      intro y hg
      unfold enS
      rw [if_pos hg, y, if_pos (by decide)]
    unfold wp_X9_fault_51
    rw [hX1.1, t1.2.1, t1.2.2.1, h3, nI_clamp (by omega), nI_leI (a := len) (b := g) (by omega) (by omega), pk_sub hen.1]
    refine ⟨fun hg => ?_, fun hg => ⟨fun z => bad hg (fun y => ?_), fun z => ⟨pk_in g 200 (by omega), fun y => bad hg (fun y2 => ?_), fun y => ⟨fun z8 => bad hg (fun _ => ?_), fun z8 => ?_⟩⟩⟩⟩
    · refine hyes L μ1 ?_ (by omega) ho (by rw [h3, eL]) hL
      rw [hr [] (by unfold txT; rw [if_pos hg]), List.append_nil]
    · exact absurd (show nI (enS B len g - g) = 1 by rw [e59 y (by omega), Nat.add_sub_cancel_left]; rfl) z
    · rw [hX1.2.2 g (by omega)] at y
      exact absurd y2 y
    · have h8 : 8 ≤ i := by
        rcases Nat.lt_or_ge i 8 with q | q
        · exact absurd z8 (nI_ge (a := i) (b := 8) q (by decide))
        · exact q
      omega
    · rw [hX1.2.2 g (by omega)] at y
      refine good (by omega) y ?_
      rcases Nat.lt_or_ge i 8 with q | q
      · exact q
      · exact absurd (nI_le (a := 8) (b := i) q (by omega)) z8
  have step : ∀ i b Ci (L : List (Nat × List Nat)) μ1 (K : Int32 → St → Prop), i < 8 → L.length = i → offLm μ μ1 → b ≤ len → μ1 0 0 18 = nI b → μ1 0 0 3 = nI i → (∀ t, t < 4 → μ1 7 0 t = nI (Ci t) ∧ Ci t ≤ 4) → LsM μ1 L →
      (∀ p μ2, lnS B len Ci (frS B len b) = .inl p → offLm μ μ2 → μ2 0 0 19 = nI p → K 0 μ2) →
      (∀ w vs g μ2, lnS B len Ci (frS B len b) = .inr (w, vs, g) → offLm μ μ2 → μ2 0 0 3 = nI (i + 1) → (∀ t, t < 4 → μ2 7 0 t = nI (upC Ci w vs t) ∧ upC Ci w vs t ≤ 4) → LsM μ2 (L ++ [(w, vs)]) → TkM μ2 B len g → K 1 μ2) →
      wp_X9_token (fun σ1 => wp_X9_readsLine (fun r2 σ2 => K r2 σ2) σ1) μ1 := by
    intro i b Ci L μ1 K hi eL ho hb h18 h3 hCi hL k0 k1
    refine sp_tokenM (hX.offLm ho) hb h18 (fun μ2 o2 t2 => ?_)
    have o12 := ho.trans o2.X.Lm
    refine sp_readsLineM (hX.offLm o12) t2 hi ((o2 0 0 3 (by omega)).trans h3) (fun t ht => ⟨(o2 7 0 t (by omega)).trans (hCi t ht).1, (hCi t ht).2⟩) (fun p μ3 hln o3 h19 => k0 p μ3 hln (o12.trans o3) h19) (fun w vs g μ3 hln o3 h33 hk n3 c3 t3 => ?_)
    have ok := lnS_ok hln
    have hvl : vs.length ≤ 5 := by rw [ok.2.1.1]; exact rg_len w ok.1
    have hup := upC_le hln (fun t ht => (hCi t ht).2)
    refine k1 w vs g μ3 hln (o12.trans o3) h33 (fun t ht => ⟨c3 t ht, hup t ht⟩) ?_ t3
    refine LsM.add ((hL.keep (fun k _ => o2 2 0 k (by omega))).keep (fun k hk2 => hk k (by omega))) (by rw [eL]; exact n3) hvl
  have loop : ∀ m i g Ci (L : List (Nat × List Nat)) μ1, i + m = 8 → L.length = i → offLm μ μ1 → TkM μ1 B len g → μ1 0 0 3 = nI i → (∀ t, t < 4 → μ1 7 0 t = nI (Ci t) ∧ Ci t ≤ 4) → LsM μ1 L → (∀ p, txT B len m g Ci = .inl p → txS B len 8 0 C 0 = .inl p) → (∀ l, txT B len m g Ci = .inr l → txS B len 8 0 C 0 = .inr (L ++ l)) → wp_X9_fault_51 post (m + 1) μ1 := by
    intro m
    induction m with
    | zero =>
      intro i g Ci L μ1 e eL ho t1 h3 hCi hL hl hr
      exact head 0 0 i g Ci L μ1 e eL ho t1 h3 hL hl hr (fun _ _ hi => absurd hi (by omega))
    | succ m ih =>
      intro i g Ci L μ1 e eL ho t1 h3 hCi hL hl hr
      refine head (m + 1) (m + 1) i g Ci L μ1 e eL ho t1 h3 hL hl hr (fun hg y hi => ?_)
      have et : txT B len (m + 1) g Ci = txS B len (m + 1) g Ci (enS B len g) := by
        unfold txT
        rw [if_neg (by omega), if_pos y]
      rw [et] at hl hr
      unfold wp_X9_fault_103
      refine ⟨fun z => absurd z (by decide), fun _ => ?_⟩
      refine step i (enS B len g) Ci L μ1 (fun r2 σ2 => wp_X9_fault_117 (fun τ => wp_X9_fault_51 post (m + 1) τ) post r2 σ2) hi eL ho (enS_le (B := B) t1.1).2.1 t1.2.2.2 h3 hCi hL (fun p μ2 hln o2 h19 => ?_) (fun w vs g2 μ2 hln o2 h32 c2 L2 t2 => ?_)
      · show wp_X9_fault_117 (fun τ => wp_X9_fault_51 post (m + 1) τ) post 0 μ2
        unfold wp_X9_fault_117
        refine ⟨fun z => absurd rfl z, fun _ => ?_⟩
        rw [h19]
        exact hno p μ2 (hl p (txS_l hln)) o2
      · show wp_X9_fault_117 (fun τ => wp_X9_fault_51 post (m + 1) τ) post 1 μ2
        unfold wp_X9_fault_117
        refine ⟨fun _ => ?_, fun z => absurd z (by decide)⟩
        obtain ⟨r1, r2⟩ := txS_r (s := g) (m := m) hln
        refine ih (i + 1) g2 (upC Ci w vs) (L ++ [(w, vs)]) μ2 (by omega) (by rw [List.length_append, List.length_singleton, eL]) o2 t2 h32 c2 L2 (fun p hp => hl p (r1 p hp)) (fun l hl2 => ?_)
        rw [hr _ (r2 l hl2), List.append_assoc]
        rfl
  have first : ∀ m t μ1, t + m = 4 → offLm μ μ1 → μ1 0 0 18 = nI 0 → μ1 0 0 3 = nI 0 → (∀ u, u < t → μ1 7 0 u = nI (C u)) → wp_X9_fault_12 post (m + 1) (nI t) μ1 := by
    intro m
    induction m with
    | zero =>
      intro t μ1 e ho h18 h3 hc
      have e4 : t = 4 := by omega
      subst e4
      unfold wp_X9_fault_12
      refine ⟨fun _ => ?_, fun hc2 => absurd (nI_le (a := 4) (b := 4) (by decide) (by decide)) hc2⟩
      refine step 0 0 C [] μ1 (fun r2 σ2 => ((¬ r2 = 0 → ∃ nn, wp_X9_fault_51 post nn σ2) ∧ (r2 = 0 → post (σ2 0 0 19) σ2))) (by decide) rfl ho (Nat.zero_le _) h18 h3 (fun u hu => ⟨hc u hu, (hC u hu).2⟩) (fun j hj => absurd hj (Nat.not_lt_zero j)) (fun p μ2 hln o2 h19 => ⟨fun z => absurd rfl z, fun _ => ?_⟩) (fun w vs g μ2 hln o2 h32 c2 L2 t2 => ⟨fun _ => ⟨8, ?_⟩, fun z => absurd z (by decide)⟩)
      · rw [h19]
        exact hno p μ2 (txS_l hln) o2
      · obtain ⟨r1, r2⟩ := txS_r (s := 0) (m := 7) hln
        exact loop 7 1 g (upC C w vs) _ μ2 (by omega) rfl o2 t2 h32 c2 L2 r1 r2
    | succ m ih =>
      intro t μ1 e ho h18 h3 hc
      unfold wp_X9_fault_12
      have hv : vp_in (nI t) 4 := pk_in t 4 (by omega)
      refine ⟨fun hc2 => absurd hc2 (nI_ge (a := t) (b := 4) (by omega) (by decide)), fun _ => ⟨hv, hv, ?_⟩⟩
      rw [nI_clamp (by omega), nI_1]
      refine ih (t + 1) _ (by omega) (ho.trans (su_Lm (Or.inr (Or.inr rfl)))) ((su_nc rfl).trans h18) ((su_nc rfl).trans h3) (fun u hu => ?_)
      by_cases eu : u = t
      · rw [eu, su_eq, ho 5 0 t (by omega)]
        exact (hC t (by omega)).1
      · rw [su_nk' eu]
        exact hc u (by omega)
  refine ⟨5, first 4 0 _ (by omega) ?_ ((su_nk rfl).trans su_eq) su_eq (fun u hu => absurd hu (by omega))⟩
  intro c o k hc
  unfold su
  rw [if_neg (by omega), if_neg (by omega)]
