/-! TEXT: the class's first fault -/
def txS (B : Nat → Int32) (len : Nat) : Nat → Nat → (Nat → Nat) → Nat → Nat ⊕ List (Nat × List Nat)
  | 0, s, _, _ => .inl s
  | m + 1, _, C, b => match lnS B len C (frS B len b) with
    | .inl p => .inl p
    | .inr q => if len ≤ q.2.2 then .inr [(q.1, q.2.1)] else if B q.2.2 = 59 then (match txS B len m q.2.2 (upC C q.1 q.2.1) (enS B len q.2.2) with
      | .inl p => .inl p
      | .inr l => .inr ((q.1, q.2.1) :: l)) else .inl q.2.2
def offFt (σ σ' : St) : Prop := ∀ c o k, ¬ ((c = 7 ∧ (k = 2 ∨ k = 5 ∨ (8 ≤ k ∧ k ≤ 10))) ∨ c = 9 ∨ c = 10 ∨ c = 11 ∨ c = 12) → σ' c o k = σ c o k
theorem offFt.rf {a : St} : offFt a a := fun _ _ _ _ => rfl
theorem offFt.trans {a b c : St} (h1 : offFt a b) (h2 : offFt b c) : offFt a c := fun x y z h => (h2 x y z h).trans (h1 x y z h)
theorem offLn.Ft {a b : St} (h : offLn a b) : offFt a b := fun c o k hc => h c o k (by omega)
theorem offTk.Ft {a b : St} (h : offTk a b) : offFt a b := fun c o k hc => h c o k (by omega)
theorem TxC.offFt {σ σ' : St} {B : Nat → Int32} {len : Nat} (h : TxC σ B len) (ho : offFt σ σ') : TxC σ' B len := by
  obtain ⟨a, b, c⟩ := h
  exact ⟨(ho 7 0 1 (by omega)).trans a, b, fun i hi => (ho 8 0 i (by omega)).trans (c i hi)⟩
theorem upC_le {B : Nat → Int32} {len : Nat} {C : Nat → Nat} {f w g : Nat} {vs : List Nat} (h : lnS B len C f = .inr (w, vs, g)) (hC : ∀ t, t < 4 → C t ≤ 4) : ∀ t, t < 4 → upC C w vs t ≤ 4 := by
  intro t ht
  have ok := (lnS_ok h).2.2
  have := hC t ht
  unfold upC
  by_cases a : w = 1 ∧ t = vs.getD 0 0
  · rw [if_pos a]
    have h2 := ok a.1
    rw [← a.2] at h2
    omega
  · rw [if_neg a]
    split <;> omega
theorem rg_len : ∀ w, w < 9 → (rgS w).length ≤ 5 := by decide
/-- the lines that were read -/
def LsC (σ : St) (L : List (Nat × List Nat)) : Prop := ∀ j, j < L.length → LnC σ j (L.getD j (0, [])).1 (L.getD j (0, [])).2 ∧ (L.getD j (0, [])).2.length ≤ 5
theorem LsC.keep {σ σ' : St} {L : List (Nat × List Nat)} (h : LsC σ L) (h9 : ∀ m, m < L.length → σ' 9 0 m = σ 9 0 m ∧ σ' 11 0 m = σ 11 0 m) (h10 : ∀ k, k < 5 * L.length → σ' 10 0 k = σ 10 0 k) : LsC σ' L := by
  intro j hj
  obtain ⟨⟨a, b, c⟩, d⟩ := h j hj
  refine ⟨⟨(h9 j hj).1.trans a, fun k hk => (h10 _ (by omega)).trans (b k hk), fun z => (h9 j hj).2.trans (c z)⟩, d⟩
theorem LsC.add {σ : St} {L : List (Nat × List Nat)} {w : Nat} {vs : List Nat} (h : LsC σ L) (hn : LnC σ L.length w vs) (hv : vs.length ≤ 5) : LsC σ (L ++ [(w, vs)]) := by
  intro j hj
  rw [List.length_append, List.length_singleton] at hj
  by_cases e : j = L.length
  · rw [e, List.getD_eq_getElem?_getD, List.getElem?_append_right (Nat.le_refl _), Nat.sub_self]
    exact ⟨hn, hv⟩
  · rw [List.getD_eq_getElem?_getD, List.getElem?_append_left (by omega), ← List.getD_eq_getElem?_getD]
    exact h j (by omega)
theorem rdS_le {B : Nat → Int32} {len f lo hi : Nat} {p : Nat × Nat} (hf : f ≤ len) (h : rdS B len f lo hi = some p) : p.2 ≤ len := by
  unfold rdS at h
  cases hv : nuS B len f with
  | none => rw [hv] at h; exact absurd h (by simp)
  | some v =>
    rw [hv] at h
    dsimp only at h
    by_cases z : lo ≤ v ∧ v ≤ hi
    · rw [if_pos z] at h
      have := Option.some.inj h
      subst this
      exact (frS_le (enS_le (B := B) hf).2.1).2
    · rw [if_neg z] at h
      exact absurd h (by simp)
theorem rdL_le {B : Nat → Int32} {len : Nat} : ∀ rs f q, f ≤ len → rdL B len rs f = .inl q → q ≤ len
  | [], f, q, _, h => by
    rw [rdL] at h
    exact absurd h (by simp)
  | r :: rs, f, q, hf, h => by
    rw [rdL] at h
    cases hr : rdS B len f r.1 r.2 with
    | none =>
      rw [hr] at h
      have := Sum.inl.inj h
      omega
    | some p =>
      rw [hr] at h
      dsimp only at h
      cases hq : rdL B len rs p.2 with
      | inl y =>
        rw [hq] at h
        have := Sum.inl.inj h
        subst this
        exact rdL_le rs p.2 _ (rdS_le hf hr) hq
      | inr y =>
        rw [hq] at h
        exact absurd h (by simp)
theorem lnS_le {B : Nat → Int32} {len : Nat} {C : Nat → Nat} {f q : Nat} (hf : f ≤ len) (h : lnS B len C f = .inl q) : q ≤ len := by
  have hn : ∀ g, g ≤ len → nxS B len g ≤ len := fun g hg => (frS_le (enS_le (B := B) hg).2.1).2
  have hx := hn f hf
  unfold lnS at h
  cases hw : wdS B len f with
  | none =>
    rw [hw] at h
    have := Sum.inl.inj h
    omega
  | some u =>
    rw [hw] at h
    dsimp only at h
    by_cases u0 : u = 0
    · rw [if_pos u0] at h
      cases hr : rdS B len (nxS B len f) 0 3 with
      | none => rw [hr] at h; have := Sum.inl.inj h; omega
      | some p =>
        rw [hr] at h
        dsimp only at h
        have hp := rdS_le hx hr
        cases hk : kdS B len p.2 with
        | none => rw [hk] at h; have := Sum.inl.inj h; omega
        | some k =>
          rw [hk] at h
          dsimp only at h
          by_cases k0 : k = 0
          · rw [if_pos k0] at h; exact absurd h (by simp)
          · rw [if_neg k0] at h
            cases hq : rdS B len (nxS B len p.2) 1 9 with
            | none =>
              rw [hq] at h
              have e := Sum.inl.inj h
              have := hn p.2 hp
              omega
            | some y => rw [hq] at h; exact absurd h (by simp)
    · rw [if_neg u0] at h
      by_cases u1 : u = 1
      · rw [if_pos u1] at h
        cases hr : rdS B len (nxS B len f) 0 3 with
        | none => rw [hr] at h; have := Sum.inl.inj h; omega
        | some p =>
          rw [hr] at h
          dsimp only at h
          have hp := rdS_le hx hr
          by_cases c4 : C p.1 = 4
          · rw [if_pos c4] at h; have := Sum.inl.inj h; omega
          · rw [if_neg c4] at h
            cases hq : rdL B len [(1, 300), (1, 99)] p.2 with
            | inl y =>
              rw [hq] at h
              have e := Sum.inl.inj h
              have := rdL_le _ _ _ hp hq
              omega
            | inr z => rw [hq] at h; exact absurd h (by simp)
      · rw [if_neg u1] at h
        by_cases u2 : u = 2
        · rw [if_pos u2] at h
          cases hq : rdL B len [(0, 3)] (nxS B len f) with
          | inl y =>
            rw [hq] at h
            have e := Sum.inl.inj h
            have := rdL_le _ _ _ hx hq
            omega
          | inr z => rw [hq] at h; exact absurd h (by simp)
        · rw [if_neg u2] at h
          cases hq : rdL B len (raS u) (nxS B len f) with
          | inl y =>
            rw [hq] at h
            have e := Sum.inl.inj h
            have := rdL_le _ _ _ hx hq
            omega
          | inr z => rw [hq] at h; exact absurd h (by simp)
theorem sp_faultC {σ : St} {B : Nat → Int32} {C : Nat → Nat} {len : Nat} {post : Int32 → St → Prop} (hX : TxC σ B len) (hC : ∀ t, t < 4 → σ 2 t 2 = nI (C t) ∧ C t ≤ 4)
    (hno : ∀ p σ', txS B len 8 0 C 0 = .inl p → p ≤ 200 → offFt σ σ' → post (nI p) σ')
    (hyes : ∀ L σ', txS B len 8 0 C 0 = .inr L → L.length ≤ 8 → offFt σ σ' → σ' 7 0 2 = nI L.length → LsC σ' L → post (-1) σ') : wp_X5_firstFault post σ := by
  have hlen := hX.2.1
  have loop : ∀ m i s b Ci (L : List (Nat × List Nat)) σ1, i + m = 8 → L.length = i → offFt σ σ1 → b ≤ len → σ1 7 0 10 = nI b → (m = 0 → σ1 7 0 9 = nI s ∧ s ≤ 200) → (∀ t, t < 4 → σ1 12 0 t = nI (Ci t) ∧ Ci t ≤ 4) → LsC σ1 L → (∀ p, txS B len m s Ci b = .inl p → txS B len 8 0 C 0 = .inl p) → (∀ l, txS B len m s Ci b = .inr l → txS B len 8 0 C 0 = .inr (L ++ l)) → wp_X5_firstFault_35 post (m + 1) (nI i) σ1 := by
    intro m
    induction m with
    | zero =>
      intro i s b Ci L σ1 e eL ho hb h10 h9 hCi hL hl hr
      have e8 : i = 8 := by omega
      subst e8
      obtain ⟨h9a, h9b⟩ := h9 rfl
      unfold wp_X5_firstFault_35
      rw [h9a]
      exact ⟨fun _ => hno s σ1 (hl s rfl) h9b ho, fun hc => absurd (nI_le (a := 8) (b := 8) (by decide) (by decide)) hc⟩
    | succ m ih =>
      intro i s b Ci L σ1 e eL ho hb h10 h9 hCi hL hl hr
      unfold wp_X5_firstFault_35 wp_X5_firstFault_107
      refine ⟨fun hc => absurd hc (nI_ge (a := i) (b := 8) (by omega) (by decide)), fun _ => ?_⟩
      have o2 : offFt σ (su (su σ1 7 0 2 (nI i)) 7 0 5 (nI i * 5)) := by
        intro c o k hc
        unfold su
        rw [if_neg (by omega), if_neg (by omega)]
        exact ho c o k hc
      have f2 : su (su σ1 7 0 2 (nI i)) 7 0 5 (nI i * 5) 7 0 2 = nI i := (su_nk rfl).trans su_eq
      have f5 : su (su σ1 7 0 2 (nI i)) 7 0 5 (nI i * 5) 7 0 5 = nI (5 * i) := by
        rw [su_eq, show (5 : Int32) = nI 5 from rfl, pk_mul, Nat.mul_comm]
      have f10 : su (su σ1 7 0 2 (nI i)) 7 0 5 (nI i * 5) 7 0 10 = nI b := (su_nk rfl).trans ((su_nk rfl).trans h10)
      have f12 : ∀ t, t < 4 → su (su σ1 7 0 2 (nI i)) 7 0 5 (nI i * 5) 12 0 t = nI (Ci t) ∧ Ci t ≤ 4 := fun t ht => ⟨(su_nc rfl).trans ((su_nc rfl).trans (hCi t ht).1), (hCi t ht).2⟩
      have fL : LsC (su (su σ1 7 0 2 (nI i)) 7 0 5 (nI i * 5)) L := hL.keep (fun k _ => ⟨(su_nc rfl).trans (su_nc rfl), (su_nc rfl).trans (su_nc rfl)⟩) (fun k _ => (su_nc rfl).trans (su_nc rfl))
      generalize su (su σ1 7 0 2 (nI i)) 7 0 5 (nI i * 5) = σ2 at o2 f2 f5 f10 f12 fL ⊢
      refine sp_tokenC (hX.offFt o2) hb f10 (fun σ3 o3 t3 => ?_)
      rw [txS] at hl hr
      have o23 := o2.trans o3.Ft
      refine sp_readLineC (hX.offFt o23) t3 (by omega) ((o3 7 0 2 (by omega)).trans f2) ((o3 7 0 5 (by omega)).trans f5) (fun t ht => ⟨(o3 12 0 t (by omega)).trans (f12 t ht).1, (f12 t ht).2⟩) (fun p σ4 hln o4 h94 => ⟨fun z => absurd rfl z, fun _ => ?_⟩) (fun w vs g σ4 hln k4 n4 c4 t4 => ⟨fun _ => ?_, fun z => absurd z (by decide)⟩)
      · have hpl := lnS_le t3.1 hln
        rw [h94]
        exact hno p σ4 (hl p (by rw [hln])) (by omega) (o23.trans o4.Ft)
      · have ok := lnS_ok hln
        have hvl : vs.length ≤ 5 := by rw [ok.2.1.1]; exact rg_len w ok.1
        have o4 : offFt σ σ4 := o23.trans k4.1.Ft
        have L4 : LsC σ4 (L ++ [(w, vs)]) := by
          refine LsC.add ((fL.keep (fun k _ => ⟨o3 9 0 k (by omega), o3 11 0 k (by omega)⟩) (fun k _ => o3 10 0 k (by omega))).keep (fun k hk => k4.2.1 k (by omega)) (fun k hk => k4.2.2 k (by omega))) (by rw [eL]; exact n4) hvl
        have hup := upC_le hln (fun t ht => (hCi t ht).2)
        rw [hln] at hl hr
        dsimp only at hl hr
        have hX4 := hX.offFt o4
        rw [t4.2.1, t4.2.2.1]
        have hgl := t4.1
        by_cases hg : len ≤ g
        · rw [if_pos hg] at hl hr
          have ek : kiS B len g = 0 := by unfold kiS; rw [if_neg (by omega)]
          rw [ek]
          refine ⟨fun z => absurd rfl z, fun _ => ?_⟩
          refine hyes (L ++ [(w, vs)]) _ (hr _ rfl) (by rw [List.length_append, List.length_singleton]; omega) ?_ ?_ (L4.keep (fun k _ => ⟨su_nc rfl, su_nc rfl⟩) (fun k _ => su_nc rfl))
          · intro c o k hc
            unfold su
            rw [if_neg (by omega)]
            exact o4 c o k hc
          · rw [su_eq, nI_1, List.length_append, List.length_singleton, eL]
        · rw [if_neg hg] at hl hr
          have hgl2 : g < len := by omega
          have ek : kiS B len g = sortS (B g) := by unfold kiS; rw [if_pos hgl2]
          have s1 := sortS_le (B g)
          rw [ek, nI_clamp (by omega), hX4.2.2 g hgl2, show (nI (sortS (B g)) = 0 ↔ sortS (B g) = 0) from nI_eq (b := 0) (by omega) (by decide), show (nI (sortS (B g)) = 3 ↔ sortS (B g) = 3) from nI_eq (b := 3) (by omega) (by decide)]
          have he := enS_le (B := B) hgl
          refine ⟨fun _ => ⟨fun z => ?_, fun z => ⟨pk_in g 200 (by omega), fun y => ?_, fun y => ?_⟩⟩, fun z => absurd z (by omega)⟩
          · have y : ¬ B g = 59 := by
              intro y
              apply z
              rw [y]
              decide
            rw [if_neg y] at hl
            exact hno g σ4 (hl g rfl) (by omega) o4
          · rw [if_pos y] at hl hr
            rw [nI_1]
            refine ih (i + 1) g (enS B len g) (upC Ci w vs) (L ++ [(w, vs)]) σ4 (by omega) (by rw [List.length_append, List.length_singleton, eL]) o4 he.2.1 t4.2.2.2 (fun _ => ⟨t4.2.2.1, by omega⟩) (fun t ht => ⟨c4 t ht, hup t ht⟩) L4 (fun p hp => hl p (by rw [hp])) (fun l hl2 => ?_)
            rw [hr ((w, vs) :: l) (by rw [hl2]), List.append_assoc]
            rfl
          · rw [if_neg y] at hl
            exact hno g σ4 (hl g rfl) (by omega) o4
  have first : ∀ m t σ1, t + m = 4 → offFt σ σ1 → (∀ u, u < t → σ1 12 0 u = nI (C u)) → wp_X5_firstFault_2 post (m + 1) (nI t) σ1 := by
    intro m
    induction m with
    | zero =>
      intro t σ1 e ho hc
      have e4 : t = 4 := by omega
      subst e4
      unfold wp_X5_firstFault_2
      refine ⟨fun _ => ⟨9, ?_⟩, fun hc2 => absurd (nI_le (a := 4) (b := 4) (by decide) (by decide)) hc2⟩
      refine loop 8 0 0 0 C [] _ (by omega) rfl ?_ (Nat.zero_le _) su_eq (fun z => absurd z (by decide)) (fun u hu => ⟨(su_nc rfl).trans (hc u hu), (hC u hu).2⟩) (fun j hj => absurd hj (Nat.not_lt_zero j)) (fun p hp => hp) (fun l hl => hl)
      intro c o k hk
      unfold su
      rw [if_neg (by omega)]
      exact ho c o k hk
    | succ m ih =>
      intro t σ1 e ho hc
      unfold wp_X5_firstFault_2
      have hv : vp_in (nI t) 4 := pk_in t 4 (by omega)
      refine ⟨fun hc2 => absurd hc2 (nI_ge (a := t) (b := 4) (by omega) (by decide)), fun _ => ⟨hv, hv, ?_⟩⟩
      rw [nI_clamp (by omega), nI_1]
      refine ih (t + 1) _ (by omega) ?_ (fun u hu => ?_)
      · intro c o k hk
        unfold su
        rw [if_neg (by omega)]
        exact ho c o k hk
      · by_cases eu : u = t
        · rw [eu, su_eq, ho 2 t 2 (by omega)]
          exact (hC t (by omega)).1
        · rw [su_nk' eu]
          exact hc u (by omega)
  exact ⟨5, first 4 0 σ (by omega) offFt.rf (fun u hu => absurd hu (by omega))⟩
