/-! TEXT: the class reads a line of numbers; and any line -/
def plS2 (w : Nat) : Nat := if w = 3 then 0 else w + 1
def okR (rs : List (Nat × Nat)) (place : Nat) : Prop := ∀ j, j < rs.length → tLeast.getD (place + j) 0 = nI (rs.getD j (0, 0)).1 ∧ tMost.getD (place + j) 0 = nI (rs.getD j (0, 0)).2 ∧ (rs.getD j (0, 0)).1 < 1000 ∧ (rs.getD j (0, 0)).2 < 1000
theorem okR_all : ∀ w, 3 ≤ w → w < 9 → okR (raS w) (plS2 w) ∧ plS2 w + (raS w).length ≤ 10 ∧ 1 ≤ (raS w).length ∧ (raS w).length ≤ 5 := by
  intro w h1 h2
  unfold okR
  rcases Nat.lt_or_ge w 4 with z | z
  · rw [show w = 3 by omega]; decide
  · rcases Nat.lt_or_ge w 5 with z | z
    · rw [show w = 4 by omega]; decide
    · rcases Nat.lt_or_ge w 6 with z | z
      · rw [show w = 5 by omega]; decide
      · rcases Nat.lt_or_ge w 7 with z | z
        · rw [show w = 6 by omega]; decide
        · rcases Nat.lt_or_ge w 8 with z | z
          · rw [show w = 7 by omega]; decide
          · rw [show w = 8 by omega]; decide
theorem sp_rowsC {σ0 : St} {B : Nat → Int32} {len i last : Nat} {x1 : Int32} {post : Int32 → St → Prop} (hX : TxC σ0 B len) (hi8 : i < 8) (hl : last < 10) : ∀ (rs : List (Nat × Nat)) (place f : Nat) (vs : List Nat) (σ : St), place + rs.length = last + 1 → vs.length + rs.length ≤ 5 → okR rs place → RwC σ0 σ i vs → TkC σ B len f → (∀ q σ', rdL B len rs f = .inl q → offU σ0 σ' → σ' 7 0 9 = nI q → post 0 σ') → (∀ z σ', rdL B len rs f = .inr z → RwC σ0 σ' i (vs ++ z.1) → TkC σ' B len z.2 → post 1 σ') → wp_X5_readNumbers_26 x1 (nI last) post (rs.length + 1) (nI place) σ
  | [], place, f, vs, σ, hp, _, _, hR, hT, _, hyes => by
    have ep : place = last + 1 := by simpa using hp
    unfold wp_X5_readNumbers_26
    have hlt : nI last < nI place := nI_lt (by omega) (by omega)
    refine ⟨fun _ => ?_, fun hc => absurd hlt hc⟩
    have := hyes ([], f) σ rfl (by rw [List.append_nil]; exact hR) hT
    exact this
  | r :: rs, place, f, vs, σ, hp, hv, hok, hR, hT, hno, hyes => by
    rw [List.length_cons] at hp hv
    obtain ⟨k1, k2, k3, k4⟩ := hok 0 (by rw [List.length_cons]; omega)
    rw [Nat.add_zero] at k1 k2
    have ok2 : okR rs (place + 1) := by
      intro j hj
      have := hok (j + 1) (by rw [List.length_cons]; omega)
      rw [show place + (j + 1) = place + 1 + j by omega] at this
      exact this
    unfold wp_X5_readNumbers_26
    have hlt : ¬ nI last < nI place := by
      rw [fa_lt, nI_toInt (by omega), nI_toInt (by omega)]
      omega
    have hvp : vp_in (nI place) 10 := pk_in place 10 (by omega)
    refine ⟨fun hc => absurd hc hlt, fun _ => ⟨hvp, hvp, ?_⟩⟩
    rw [nI_clamp (by omega), nI_1]
    rw [rdL] at hno hyes
    refine sp_rowC hX hR hT hi8 (by omega) k3 k4 k1 k2 (fun hn => ⟨fun z => absurd rfl z, fun _ => hno f σ ?_ hR.1 hT.2.2.1⟩) (fun p σ2 hp2 R2 t2 => ⟨fun _ => ?_, fun z => absurd z (by decide)⟩)
    · rw [show rdS B len f r.1 r.2 = none from hn]
    · rw [show rdS B len f r.1 r.2 = some p from hp2] at hno hyes
      dsimp only at hno hyes
      refine sp_rowsC hX hi8 hl rs (place + 1) p.2 (vs ++ [p.1]) σ2 (by omega) (by rw [List.length_append, List.length_singleton]; omega) ok2 R2 t2 (fun q σ3 hq ho h9 => hno q σ3 (by rw [hq]) ho h9) (fun z σ3 hz R3 t3 => ?_)
      refine hyes (p.1 :: z.1, z.2) σ3 (by rw [hz]) ?_ t3
      rw [List.append_assoc] at R3
      exact R3
theorem sp_readNumbersC {σ : St} {B : Nat → Int32} {len f i w : Nat} {x1 x2 : Int32} {post : Int32 → St → Prop} (hX : TxC σ B len) (hT : TkC σ B len f) (hi8 : i < 8) (h2 : σ 7 0 2 = nI i) (h5 : σ 7 0 5 = nI (5 * i)) (hw : wdS B len f = some w) (w3 : 3 ≤ w) (w9 : w < 9) (e1 : x1 = nI (plS2 w)) (e2 : x2 = nI (plS2 w + (raS w).length - 1))
    (hno : ∀ p σ', (∀ C, lnS B len C f = .inl p) → offLn σ σ' → σ' 7 0 9 = nI p → post 0 σ')
    (hyes : ∀ vs g σ', (∀ C, lnS B len C f = .inr (w, vs, g)) → RwC (su (su σ 9 0 i 3) 11 0 i (nI (plS2 w))) σ' i vs → TkC σ' B len g → post 1 σ') : wp_X5_readNumbers x1 x2 post σ := by
  subst e1; subst e2
  obtain ⟨a1, a2, a3, a4⟩ := okR_all w w3 w9
  have he := enS_le (B := B) hT.1
  have l0 : ∀ C, lnS B len C f = (match rdL B len (raS w) (nxS B len f) with
      | .inl q => .inl q
      | .inr z => .inr (w, z.1, z.2)) := by
    intro C
    unfold lnS
    rw [hw]
    dsimp only
    rw [if_neg (by omega), if_neg (by omega), if_neg (by omega)]
    cases rdL B len (raS w) (nxS B len f) <;> rfl
  unfold wp_X5_readNumbers
  rw [h2, nI_clamp (by omega)]
  refine ⟨pk_in i 8 hi8, pk_in i 8 hi8, ?_⟩
  have hX0 : TxC (su (su σ 9 0 i 3) 11 0 i (nI (plS2 w))) B len := ⟨(su_nc rfl).trans ((su_nc rfl).trans hX.1), hX.2.1, fun j hj => (su_nc rfl).trans ((su_nc rfl).trans (hX.2.2 j hj))⟩
  have h50 : su (su σ 9 0 i 3) 11 0 i (nI (plS2 w)) 7 0 5 = nI (5 * i) := (su_nc rfl).trans ((su_nc rfl).trans h5)
  have h10 : su (su σ 9 0 i 3) 11 0 i (nI (plS2 w)) 7 0 10 = nI (enS B len f) := (su_nc rfl).trans ((su_nc rfl).trans hT.2.2.2)
  have oF : offLn σ (su (su σ 9 0 i 3) 11 0 i (nI (plS2 w))) := (su_F (Or.inl rfl)).trans (su_F (Or.inr (Or.inr (Or.inl rfl))))
  generalize su (su σ 9 0 i 3) 11 0 i (nI (plS2 w)) = σ0 at hX0 hyes h10 h50 oF ⊢
  have hR0 : RwC σ0 σ0 i [] := ⟨offU.rf, fun _ _ => rfl, h50, fun j hj => absurd hj (Nat.not_lt_zero j)⟩
  refine sp_tokenC hX0 he.2.1 h10 (fun σ1 o1 t1 => ⟨(raS w).length + 1, ?_⟩)
  refine sp_rowsC hX0 hi8 (by omega) (raS w) (plS2 w) (nxS B len f) [] σ1 (by omega) (by rw [List.length_nil]; omega) a1 (hR0.tok o1) t1 (fun q σ' hq ho h9 => hno q σ' (fun C => by rw [l0, hq]) (oF.trans ho.F) h9) (fun z σ' hz R t => hyes z.1 z.2 σ' (fun C => by rw [l0, hz]) R t)
def LnC (σ : St) (i w : Nat) (vs : List Nat) : Prop := σ 9 0 i = nI (if w < 3 then w else 3) ∧ (∀ j, j < vs.length → σ 10 0 (5 * i + j) = nI (vs.getD j 0)) ∧ (3 ≤ w → σ 11 0 i = nI (plS2 w))
def upC (C : Nat → Nat) (w : Nat) (vs : List Nat) (t : Nat) : Nat := if w = 1 ∧ t = vs.getD 0 0 then C t + 1 else if w = 2 ∧ t = vs.getD 0 0 then 0 else C t
def kpC (σ σ' : St) (i : Nat) : Prop := offLn σ σ' ∧ (∀ m, m < i → σ' 9 0 m = σ 9 0 m ∧ σ' 11 0 m = σ 11 0 m) ∧ ∀ k, k < 5 * i → σ' 10 0 k = σ 10 0 k
theorem sp_readLineC {σ : St} {B : Nat → Int32} {C : Nat → Nat} {len f i : Nat} {post : Int32 → St → Prop} (hX : TxC σ B len) (hT : TkC σ B len f) (hi8 : i < 8) (h2 : σ 7 0 2 = nI i) (h5 : σ 7 0 5 = nI (5 * i)) (hC : ∀ t, t < 4 → σ 12 0 t = nI (C t) ∧ C t ≤ 4)
    (hno : ∀ p σ', lnS B len C f = .inl p → offLn σ σ' → σ' 7 0 9 = nI p → post 0 σ')
    (hyes : ∀ w vs g σ', lnS B len C f = .inr (w, vs, g) → kpC σ σ' i → LnC σ' i w vs → (∀ t, t < 4 → σ' 12 0 t = nI (upC C w vs t)) → TkC σ' B len g → post 1 σ') : wp_X5_readLine post σ := by
  unfold wp_X5_readLine wp_X5_readLine_81 wp_X5_readLine_82 wp_X5_placeNamed wp_X5_placeNamed_62
  have num : ∀ (w : Nat) (x1 x2 : Int32) (pst : Int32 → St → Prop), wdS B len f = some w → 3 ≤ w → w < 9 → x1 = nI (plS2 w) → x2 = nI (plS2 w + (raS w).length - 1) → (∀ σ', post 0 σ' → pst 0 σ') → (∀ σ', post 1 σ' → pst 1 σ') → wp_X5_readNumbers x1 x2 pst σ := by
    intro w x1 x2 pst hw w3 w9 e1 e2 p0 p1
    refine sp_readNumbersC hX hT hi8 h2 h5 hw w3 w9 e1 e2 (fun p σ' hl ho h9 => p0 _ (hno p σ' (hl C) ho h9)) (fun vs g σ' hl R t => p1 _ (hyes w vs g σ' (hl C) ?_ ?_ (fun t ht => ?_) t))
    · refine ⟨((su_F (Or.inl rfl)).trans (su_F (Or.inr (Or.inr (Or.inl rfl))))).trans R.1.F, fun m hm => ⟨?_, ?_⟩, fun k hk => ?_⟩
      · rw [R.1 9 0 m (by omega), su_nc rfl, su_nk' (by omega)]
      · rw [R.1 11 0 m (by omega), su_nk' (by omega), su_nc rfl]
      · rw [R.2.1 k hk, su_nc rfl, su_nc rfl]
    · refine ⟨?_, R.2.2.2, fun _ => ?_⟩
      · rw [R.1 9 0 i (by omega), su_nc rfl, su_eq, if_neg (by omega)]
        rfl
      · rw [R.1 11 0 i (by omega), su_eq]
    · rw [R.1 12 0 t (by omega), su_nc rfl, su_nc rfl, (hC t ht).1]
      unfold upC
      rw [if_neg (by omega), if_neg (by omega)]
  refine sp_wordC hX hT (by decide) (fun a0 => ⟨fun _ => ?_, fun z => absurd rfl z⟩) (fun a0 => ⟨fun z => absurd z (by decide), fun _ => ?_⟩)
  · refine sp_wordC hX hT (by decide) (fun a1 => ⟨fun _ => ?_, fun z => absurd rfl z⟩) (fun a1 => ⟨fun z => absurd z (by decide), fun _ => ?_⟩)
    · refine sp_wordC hX hT (by decide) (fun a2 => ⟨fun _ => ?_, fun z => absurd rfl z⟩) (fun a2 => ⟨fun z => absurd z (by decide), fun _ => ?_⟩)
      · refine sp_wordC hX hT (by decide) (fun a3 => ⟨fun _ => ?_, fun z => absurd rfl z⟩) (fun a3 => ⟨fun z => absurd z (by decide), fun _ => ?_⟩)
        · have hno' : wdS B len f = none → post 0 σ := fun hw => hno f σ (by unfold lnS; rw [hw]) (fun _ _ _ _ => rfl) hT.2.2.1
          unfold wdS at num hno'
          rw [if_neg (fne a0), if_neg (fne a1), if_neg (fne a2), if_neg (fne a3)] at num hno'
          refine sp_wordC hX hT (by decide) (fun a => ⟨fun _ => ?_, fun z => absurd rfl z⟩) (fun a => ⟨fun z => absurd z (by decide), fun _ => ?_⟩)
          · rw [if_neg (fne a)] at num hno'
            refine sp_wordC hX hT (by decide) (fun a => ⟨fun _ => ?_, fun z => absurd rfl z⟩) (fun a => ⟨fun z => absurd z (by decide), fun _ => ?_⟩)
            · rw [if_neg (fne a)] at num hno'
              refine sp_wordC hX hT (by decide) (fun a => ⟨fun _ => ?_, fun z => absurd rfl z⟩) (fun a => ⟨fun z => absurd z (by decide), fun _ => ?_⟩)
              · rw [if_neg (fne a)] at num hno'
                refine sp_wordC hX hT (by decide) (fun a => ⟨fun _ => ?_, fun z => absurd rfl z⟩) (fun a => ⟨fun z => absurd z (by decide), fun _ => ?_⟩)
                · rw [if_neg (fne a)] at num hno'
                  refine sp_wordC hX hT (by decide) (fun a => ⟨fun _ => ?_, fun z => absurd rfl z⟩) (fun a => ⟨fun z => absurd z (by decide), fun _ => ?_⟩)
                  · rw [if_neg (fne a)] at hno'
                    exact ⟨fun _ => ⟨bool0, hno' rfl⟩, fun z => absurd rfl z⟩
                  · rw [if_pos a] at num
                    refine ⟨fun z => absurd z (by decide), fun _ => num 8 _ _ _ rfl (by decide) (by decide) rfl rfl (fun σ' hp => ⟨fun _ => ⟨bool0, hp⟩, fun z => absurd rfl z⟩) (fun σ' hp => ⟨fun z => absurd z (by decide), fun _ => ⟨bool1, hp⟩⟩)⟩
                · rw [if_pos a] at num
                  refine ⟨fun z => absurd z (by decide), fun _ => num 7 _ _ _ rfl (by decide) (by decide) rfl rfl (fun σ' hp => ⟨fun _ => ⟨bool0, hp⟩, fun z => absurd rfl z⟩) (fun σ' hp => ⟨fun z => absurd z (by decide), fun _ => ⟨bool1, hp⟩⟩)⟩
              · rw [if_pos a] at num
                refine ⟨fun z => absurd z (by decide), fun _ => num 6 _ _ _ rfl (by decide) (by decide) rfl rfl (fun σ' hp => ⟨fun _ => ⟨bool0, hp⟩, fun z => absurd rfl z⟩) (fun σ' hp => ⟨fun z => absurd z (by decide), fun _ => ⟨bool1, hp⟩⟩)⟩
            · rw [if_pos a] at num
              refine ⟨fun z => absurd z (by decide), fun _ => num 5 _ _ _ rfl (by decide) (by decide) rfl rfl (fun σ' hp => ⟨fun _ => ⟨bool0, hp⟩, fun z => absurd rfl z⟩) (fun σ' hp => ⟨fun z => absurd z (by decide), fun _ => ⟨bool1, hp⟩⟩)⟩
          · rw [if_pos a] at num
            refine ⟨fun z => absurd z (by decide), fun _ => num 4 _ _ _ rfl (by decide) (by decide) rfl rfl (fun σ' hp => ⟨fun _ => ⟨bool0, hp⟩, fun z => absurd rfl z⟩) (fun σ' hp => ⟨fun z => absurd z (by decide), fun _ => ⟨bool1, hp⟩⟩)⟩
        · have hw : wdS B len f = some 3 := by unfold wdS; rw [if_neg (fne a0), if_neg (fne a1), if_neg (fne a2), if_pos a3]
          exact num 3 _ _ _ hw (by decide) (by decide) rfl rfl (fun σ' hp => ⟨bool0, hp⟩) (fun σ' hp => ⟨bool1, hp⟩)
      · have hw : wdS B len f = some 2 := by unfold wdS; rw [if_neg (fne a0), if_neg (fne a1), if_pos a2]
        refine sp_readBareC hX hT hi8 h2 h5 hw (fun p σ' hl ho h9 => ⟨bool0, hno p σ' (hl C) ((su_F (Or.inl rfl)).trans ho.F) h9⟩) (fun t g σ' hl ht R tk => ⟨bool1, hyes 2 [t] g σ' (hl C) ?_ ?_ (fun u hu => ?_) tk⟩)
        · refine ⟨((su_F (Or.inl rfl)).trans (su_F (Or.inr (Or.inr (Or.inr rfl))))).trans R.1.F, fun m hm => ⟨?_, ?_⟩, fun k hk => ?_⟩
          · rw [R.1 9 0 m (by omega), su_nc rfl, su_nk' (by omega)]
          · rw [R.1 11 0 m (by omega), su_nc rfl, su_nc rfl]
          · rw [R.2.1 k hk, su_nc rfl, su_nc rfl]
        · refine ⟨?_, R.2.2.2, fun z => absurd z (by decide)⟩
          rw [R.1 9 0 i (by omega), su_nc rfl, su_eq, if_pos (by decide)]
          rfl
        · rw [R.1 12 0 u (by omega)]
          unfold upC
          by_cases e : u = t
          · rw [e, su_eq, if_neg (fun z => absurd z.1 (by decide)), if_pos ⟨rfl, rfl⟩]
            rfl
          · rw [su_nk' e, su_nc rfl, (hC u hu).1, if_neg (fun z => absurd z.1 (by decide)), if_neg (fun z => e z.2)]
    · have hw : wdS B len f = some 1 := by unfold wdS; rw [if_neg (fne a0), if_pos a1]
      refine sp_readLumpC hX hT hi8 h2 h5 hC hw (fun p σ' hl ho h9 => ⟨bool0, hno p σ' hl ho h9⟩) (fun t a b g σ' hl ht hlt R tk => ⟨bool1, hyes 1 [t, a, b] g σ' hl ?_ ?_ (fun u hu => ?_) tk⟩)
      · refine ⟨((su_F (Or.inl rfl)).trans (su_F (Or.inr (Or.inr (Or.inr rfl))))).trans R.1.F, fun m hm => ⟨?_, ?_⟩, fun k hk => ?_⟩
        · rw [R.1 9 0 m (by omega), su_nc rfl, su_nk' (by omega)]
        · rw [R.1 11 0 m (by omega), su_nc rfl, su_nc rfl]
        · rw [R.2.1 k hk, su_nc rfl, su_nc rfl]
      · refine ⟨?_, R.2.2.2, fun z => absurd z (by decide)⟩
        rw [R.1 9 0 i (by omega), su_nc rfl, su_eq, if_pos (by decide)]
        rfl
      · rw [R.1 12 0 u (by omega)]
        unfold upC
        by_cases e : u = t
        · rw [e, su_eq, if_pos ⟨rfl, rfl⟩]
        · rw [su_nk' e, su_nc rfl, (hC u hu).1, if_neg (fun z => e z.2), if_neg (fun z => e z.2)]
  · have hw : wdS B len f = some 0 := by unfold wdS; rw [if_pos a0]
    refine sp_readThingC hX hT hi8 h2 h5 hw (fun p σ' hl ho h9 => ⟨bool0, hno p σ' (hl C) ((su_F (Or.inl rfl)).trans ho.F) h9⟩) (fun vs g σ' hl R tk => ⟨bool1, hyes 0 vs g σ' (hl C) ?_ ?_ (fun u hu => ?_) tk⟩)
    · refine ⟨(su_F (Or.inl rfl)).trans R.1.F, fun m hm => ⟨?_, ?_⟩, fun k hk => ?_⟩
      · rw [R.1 9 0 m (by omega), su_nk' (by omega)]
      · rw [R.1 11 0 m (by omega), su_nc rfl]
      · rw [R.2.1 k hk, su_nc rfl]
    · refine ⟨?_, R.2.2.2, fun z => absurd z (by decide)⟩
      rw [R.1 9 0 i (by omega), su_eq, if_pos (by decide)]
      rfl
    · rw [R.1 12 0 u (by omega), su_nc rfl, (hC u hu).1]
      unfold upC
      rw [if_neg (fun z => absurd z.1 (by decide)), if_neg (fun z => absurd z.1 (by decide))]
