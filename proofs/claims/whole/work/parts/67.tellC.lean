/-! TEXT: the lines are done: what they do to numbers and things; the class -/
abbrev TX := Int32 × Nat × Nat × (Nat → Int32) × (Nat → Int32)
def tlT (w : Nat) (vs : List Nat) (T : TS) : TS := fun t => if t = vs.getD 0 0 then (if w = 0 then (nI (vs.getD 1 0), vs.getD 2 0, (T t).2.2) else if w = 1 then ((T t).1, (T t).2.1, (T t).2.2.1 + 1, upd (T t).2.2.2.1 (T t).2.2.1 (nI (vs.getD 1 0)), upd (T t).2.2.2.2 (T t).2.2.1 (nI (vs.getD 2 0))) else if w = 2 then ((T t).1, (T t).2.1, 0, (T t).2.2.2) else T t) else T t
def tlN (w : Nat) (vs : List Nat) (N : Nat → Int32) : Nat → Int32 := fun k => if 3 ≤ w ∧ plS2 w ≤ k ∧ k < plS2 w + vs.length then nI (vs.getD (k - plS2 w) 0) else N k
def doN : List (Nat × List Nat) → (Nat → Int32) → Nat → Int32
  | [], N => N
  | p :: l, N => doN l (tlN p.1 p.2 N)
def doT : List (Nat × List Nat) → TS → TS
  | [], T => T
  | p :: l, T => doT l (tlT p.1 p.2 T)
def okL : List (Nat × List Nat) → (Nat → Nat) → Prop
  | [], _ => True
  | p :: l, C => p.1 < 9 ∧ inR (rgS p.1) p.2 ∧ (p.1 = 1 → ¬ C (p.2.getD 0 0) = 4) ∧ okL l (upC C p.1 p.2)
theorem txS_ok {B : Nat → Int32} {len : Nat} : ∀ m s C b L, txS B len m s C b = .inr L → okL L C := by
  intro m
  induction m with
  | zero =>
    intro s C b L h
    rw [txS] at h
    exact absurd h (by simp)
  | succ m ih =>
    intro s C b L h
    cases hl : lnS B len C (frS B len b) with
    | inl p =>
      rw [txS_l hl] at h
      exact absurd h (by simp)
    | inr q =>
      obtain ⟨w, vs, g⟩ := q
      have ok := lnS_ok hl
      rw [txS, hl] at h
      dsimp only at h
      by_cases hg : len ≤ g
      · rw [if_pos hg] at h
        have := Sum.inr.inj h
        subst this
        exact ⟨ok.1, ok.2.1, ok.2.2, trivial⟩
      · rw [if_neg hg] at h
        by_cases y : B g = 59
        · rw [if_pos y] at h
          cases hx : txS B len m g (upC C w vs) (enS B len g) with
          | inl p =>
            rw [hx] at h
            exact absurd h (by simp)
          | inr l =>
            rw [hx] at h
            have := Sum.inr.inj h
            subst this
            exact ⟨ok.1, ok.2.1, ok.2.2, ih _ _ _ _ hx⟩
        · rw [if_neg y] at h
          exact absurd h (by simp)
theorem tlT_ne {w t : Nat} {vs : List Nat} {T : TS} (h : ¬ t = vs.getD 0 0) : tlT w vs T t = T t := if_neg h
theorem tlT_0 {vs : List Nat} {T : TS} : tlT 0 vs T (vs.getD 0 0) = (nI (vs.getD 1 0), vs.getD 2 0, (T (vs.getD 0 0)).2.2) := by
  unfold tlT
  rw [if_pos rfl, if_pos rfl]
theorem tlT_1 {vs : List Nat} {T : TS} : tlT 1 vs T (vs.getD 0 0) = ((T (vs.getD 0 0)).1, (T (vs.getD 0 0)).2.1, (T (vs.getD 0 0)).2.2.1 + 1, upd (T (vs.getD 0 0)).2.2.2.1 (T (vs.getD 0 0)).2.2.1 (nI (vs.getD 1 0)), upd (T (vs.getD 0 0)).2.2.2.2 (T (vs.getD 0 0)).2.2.1 (nI (vs.getD 2 0))) := by
  unfold tlT
  rw [if_pos rfl, if_neg (by decide), if_pos rfl]
theorem tlT_2 {vs : List Nat} {T : TS} : tlT 2 vs T (vs.getD 0 0) = ((T (vs.getD 0 0)).1, (T (vs.getD 0 0)).2.1, 0, (T (vs.getD 0 0)).2.2.2) := by
  unfold tlT
  rw [if_pos rfl, if_neg (by decide), if_neg (by decide), if_pos rfl]
theorem tlT_3 {w : Nat} {vs : List Nat} {T : TS} (h : 3 ≤ w) : tlT w vs T = T := by
  funext t
  unfold tlT
  by_cases e : t = vs.getD 0 0
  · rw [if_pos e, if_neg (by omega), if_neg (by omega), if_neg (by omega)]
  · rw [if_neg e]
theorem tlN_3 {w : Nat} {vs : List Nat} {N : Nat → Int32} (h : w < 3) : tlN w vs N = N := by
  funext k
  unfold tlN
  rw [if_neg (by omega)]
theorem upC_tl {w : Nat} {vs : List Nat} {T : TS} {C : Nat → Nat} (hC : ∀ t, t < 4 → C t = (T t).2.2.1) : ∀ t, t < 4 → upC C w vs t = (tlT w vs T t).2.2.1 := by
  intro t ht
  have hc := hC t ht
  by_cases e : t = vs.getD 0 0
  · subst e
    by_cases w0 : w = 0
    · subst w0
      rw [tlT_0]
      unfold upC
      rw [if_neg (by omega), if_neg (by omega)]
      exact hc
    · by_cases w1 : w = 1
      · subst w1
        rw [tlT_1]
        unfold upC
        rw [if_pos ⟨rfl, rfl⟩, hc]
      · by_cases w2 : w = 2
        · subst w2
          rw [tlT_2]
          unfold upC
          rw [if_neg (by omega), if_pos ⟨rfl, rfl⟩]
        · rw [tlT_3 (by omega)]
          unfold upC
          rw [if_neg (by omega), if_neg (by omega)]
          exact hc
  · rw [tlT_ne e]
    unfold upC
    rw [if_neg (fun q => e q.2), if_neg (fun q => e q.2)]
    exact hc
/-- a thing of the class, whole -/
def TcO (σ : St) (t : Nat) (X : TX) : Prop := σ 2 t 0 = X.1 ∧ σ 2 t 1 = nI X.2.1 ∧ X.2.1 ≤ 9 ∧ σ 2 t 3 = lgS X.2.2.2.1 X.2.2.2.2 X.2.2.1 ∧ X.2.2.1 ≤ 4 ∧ LB X.2.2.2.1 X.2.2.2.2 X.2.2.1 ∧ σ 2 t 2 = nI X.2.2.1 ∧ (∀ i, i < X.2.2.1 → σ 3 t i = X.2.2.2.1 i ∧ σ 4 t i = X.2.2.2.2 i) ∧ σ 2 t 4 = tlS X.2.2.2.1 X.2.2.1
def TcC (σ : St) (T : TS) : Prop := ∀ t, t < 4 → TcO σ t (T t)
theorem TcC.ts {σ : St} {T : TS} (h : TcC σ T) : TsC σ T := fun t ht => by
  obtain ⟨a0, a1, a9, a3, a4, aB, a2, aL, aT⟩ := h t ht
  exact ⟨a0, a1, a9, a3, a4, aB⟩
theorem TcO.congr {σ σ' : St} {t : Nat} {X : TX} (h : TcO σ t X) (ho : ∀ c k, (c = 2 ∨ c = 3 ∨ c = 4) → σ' c t k = σ c t k) : TcO σ' t X := by
  obtain ⟨a0, a1, a9, a3, a4, aB, a2, aL, aT⟩ := h
  have o2 := fun k => ho 2 k (Or.inl rfl)
  exact ⟨(o2 0).trans a0, (o2 1).trans a1, a9, (o2 3).trans a3, a4, aB, (o2 2).trans a2, fun i hi => ⟨(ho 3 i (Or.inr (Or.inl rfl))).trans (aL i hi).1, (ho 4 i (Or.inr (Or.inr rfl))).trans (aL i hi).2⟩, (o2 4).trans aT⟩
theorem TcC.one {σ σ' : St} {T T' : TS} {t : Nat} (hT : TcC σ T) (ho : ∀ c o k, (c = 2 ∨ c = 3 ∨ c = 4) → ¬ o = t → σ' c o k = σ c o k) (hE : ∀ t', ¬ t' = t → T' t' = T t') (h1 : TcO σ' t (T' t)) : TcC σ' T' := by
  intro t' ht'
  by_cases e : t' = t
  · rw [e]
    exact h1
  · rw [hE t' e]
    exact (hT t' ht').congr (fun c k hc => ho c t' k hc e)
def offTe (σ σ' : St) : Prop := ∀ c o k, ¬ (((c = 2 ∨ c = 3 ∨ c = 4) ∧ o < 4) ∨ (c = 6 ∧ o = 0)) → σ' c o k = σ c o k
theorem offTe.rf {a : St} : offTe a a := fun _ _ _ _ => rfl
theorem offTe.trans {a b c : St} (h1 : offTe a b) (h2 : offTe b c) : offTe a c := fun x y z h => (h2 x y z h).trans (h1 x y z h)
theorem rg_first {w : Nat} {vs : List Nat} (hw : w < 3) (hr : inR (rgS w) vs) : vs.getD 0 0 ≤ 3 := by
  rcases (show w = 0 ∨ w = 1 ∨ w = 2 by omega) with z | z | z
  · subst z
    exact (hr.2 0 (by decide)).2
  · subst z
    exact (hr.2 0 (by decide)).2
  · subst z
    exact (hr.2 0 (by decide)).2
theorem LB_add {h w : Nat → Int32} {n a b : Nat} (hb : LB h w n) (ha : 1 ≤ a ∧ a ≤ 300) (hb2 : 1 ≤ b ∧ b ≤ 99) : LB (upd h n (nI a)) (upd w n (nI b)) (n + 1) := by
  intro i hi
  by_cases e : i = n
  · subst e
    simp only [upd, if_true]
    rw [nI_toInt (by omega), nI_toInt (by omega)]
    omega
  · simp only [upd, if_neg e]
    exact hb i (by omega)
theorem sp_tellThingC {σ : St} {T : TS} {w i : Nat} {vs : List Nat} {x2 x3 : Int32} {post : St → Prop} (hT : TcC σ T) (hw : w < 3) (hr : inR (rgS w) vs) (h4 : w = 1 → ¬ (T (vs.getD 0 0)).2.2.1 = 4) (hi : i < 8) (hv : ∀ j, j < vs.length → σ 10 0 (5 * i + j) = nI (vs.getD j 0)) (e2 : x2 = nI w) (e3 : x3 = nI (5 * i)) (h : ∀ σ', offTe σ σ' → (∀ k, σ' 6 0 k = σ 6 0 k) → TcC σ' (tlT w vs T) → post σ') : wp_X5_tellThing (vs.getD 0 0) x2 x3 post σ := by
  subst e2
  subst e3
  have t3 := rg_first hw hr
  have X1 : nI (5 * i) + 1 = nI (5 * i + 1) := nI_1 _
  have X2 : nI (5 * i) + 2 = nI (5 * i + 2) := nI_add _ 2
  have v1 : vp_in (nI (5 * i + 1)) 40 := pk_in (5 * i + 1) 40 (by omega)
  have v2 : vp_in (nI (5 * i + 2)) 40 := pk_in (5 * i + 2) 40 (by omega)
  obtain ⟨a0, a1, a9, a3, a4, aB, a2, aL, aT⟩ := hT (vs.getD 0 0) (by omega)
  unfold wp_X5_tellThing wp_X5_tellThing_59
  rw [X1, X2, nI_clamp (by omega), nI_clamp (by omega), show (nI w = 0 ↔ w = 0) from nI_eq (b := 0) (by omega) (by decide), show (nI w = 1 ↔ w = 1) from nI_eq (b := 1) (by omega) (by decide)]
  refine ⟨fun z0 => ⟨fun z1 => ?_, fun z1 => ⟨v1, v2, ?_⟩⟩, fun z0 => ⟨v1, v2, ?_⟩⟩
  · have w2 : w = 2 := by omega
    subst w2
    unfold wp_X6_strip
    refine sp_measureC (n := 0) (by decide) (by rw [su_eq]; rfl) (fun i hi => by omega) (fun σ1 o1 e3 e4 => ?_)
    refine h σ1 ?_ ?_ ?_
    · intro c o k hn
      rw [o1 c o k (by omega)]
      unfold su
      rw [if_neg (by omega)]
    · intro k
      rw [o1 6 0 k (by omega), su_nc rfl]
    · refine hT.one (t := vs.getD 0 0) ?_ (fun t' ht' => tlT_ne ht') ?_
      · intro c o k hc hne
        rw [o1 c o k (by omega)]
        unfold su
        rw [if_neg (by omega)]
      · rw [tlT_2]
        exact ⟨(o1 2 _ 0 (by omega)).trans ((su_nk rfl).trans a0), (o1 2 _ 1 (by omega)).trans ((su_nk rfl).trans a1), a9, e3, Nat.zero_le _, fun i hi => absurd hi (Nat.not_lt_zero i), (o1 2 _ 2 (by omega)).trans su_eq, fun i hi => absurd hi (Nat.not_lt_zero i), e4⟩
  · subst z1
    have hl : vs.length = 3 := hr.1
    have r1 : 1 ≤ vs.getD 1 0 ∧ vs.getD 1 0 ≤ 300 := hr.2 1 (by decide)
    have r2 : 1 ≤ vs.getD 2 0 ∧ vs.getD 2 0 ≤ 99 := hr.2 2 (by decide)
    have n4 : (T (vs.getD 0 0)).2.2.1 < 4 := by
      have := h4 rfl
      omega
    rw [hv 1 (by omega), hv 2 (by omega)]
    unfold wp_X6_addLump
    rw [a2, nI_clamp (by omega)]
    have hv4 : vp_in (nI (T (vs.getD 0 0)).2.2.1) 4 := pk_in _ 4 n4
    refine ⟨fun _ => ⟨hv4, hv4, ?_⟩, fun hc => absurd (nI_lt (b := 4) n4 (by decide)) hc⟩
    have cg : ∀ i, i < (T (vs.getD 0 0)).2.2.1 + 1 → (su (su (su σ 3 (vs.getD 0 0) (T (vs.getD 0 0)).2.2.1 (nI (vs.getD 1 0))) 4 (vs.getD 0 0) (T (vs.getD 0 0)).2.2.1 (nI (vs.getD 2 0))) 2 (vs.getD 0 0) 2 (nI (T (vs.getD 0 0)).2.2.1 + 1)) 3 (vs.getD 0 0) i = upd (T (vs.getD 0 0)).2.2.2.1 (T (vs.getD 0 0)).2.2.1 (nI (vs.getD 1 0)) i ∧ (su (su (su σ 3 (vs.getD 0 0) (T (vs.getD 0 0)).2.2.1 (nI (vs.getD 1 0))) 4 (vs.getD 0 0) (T (vs.getD 0 0)).2.2.1 (nI (vs.getD 2 0))) 2 (vs.getD 0 0) 2 (nI (T (vs.getD 0 0)).2.2.1 + 1)) 4 (vs.getD 0 0) i = upd (T (vs.getD 0 0)).2.2.2.2 (T (vs.getD 0 0)).2.2.1 (nI (vs.getD 2 0)) i := by
      intro i hi
      by_cases e : i = (T (vs.getD 0 0)).2.2.1
      · subst e
        exact ⟨(su_nc rfl).trans ((su_nc rfl).trans (su_eq.trans (by simp [upd]))), (su_nc rfl).trans (su_eq.trans (by simp [upd]))⟩
      · exact ⟨(su_nc rfl).trans ((su_nc rfl).trans ((su_nk' e).trans ((aL i (by omega)).1.trans (by simp only [upd, if_neg e])))), (su_nc rfl).trans ((su_nk' e).trans ((su_nc rfl).trans ((aL i (by omega)).2.trans (by simp only [upd, if_neg e]))))⟩
    refine sp_measureC (n := (T (vs.getD 0 0)).2.2.1 + 1) (by omega) (by rw [su_eq, nI_1]) (LB_congr cg (LB_add aB r1 r2)) (fun σ1 o1 e3 e4 => ?_)
    refine h σ1 ?_ ?_ ?_
    · intro c o k hn
      rw [o1 c o k (by omega)]
      unfold su
      rw [if_neg (by omega), if_neg (by omega), if_neg (by omega)]
    · intro k
      rw [o1 6 0 k (by omega), su_nc rfl, su_nc rfl, su_nc rfl]
    · refine hT.one (t := vs.getD 0 0) ?_ (fun t' ht' => tlT_ne ht') ?_
      · intro c o k hc hne
        rw [o1 c o k (by omega)]
        unfold su
        rw [if_neg (by omega), if_neg (by omega), if_neg (by omega)]
      · rw [tlT_1]
        exact ⟨(o1 2 _ 0 (by omega)).trans ((su_nk rfl).trans ((su_nc rfl).trans ((su_nc rfl).trans a0))), (o1 2 _ 1 (by omega)).trans ((su_nk rfl).trans ((su_nc rfl).trans ((su_nc rfl).trans a1))), a9, e3.trans (lg_congr cg), by show _ + 1 ≤ 4; omega, LB_add aB r1 r2, (o1 2 _ 2 (by omega)).trans (su_eq.trans (nI_1 _)), fun i hi => ⟨(o1 3 _ i (by omega)).trans (cg i hi).1, (o1 4 _ i (by omega)).trans (cg i hi).2⟩, e4.trans (sums_congr _ cg).2.2⟩
  · subst z0
    have hl : vs.length = 3 := hr.1
    have r2 : 0 ≤ vs.getD 2 0 ∧ vs.getD 2 0 ≤ 9 := hr.2 2 (by decide)
    rw [hv 1 (by omega), hv 2 (by omega)]
    unfold wp_X6_become
    refine h _ ?_ ?_ ?_
    · intro c o k hn
      unfold su
      rw [if_neg (by omega), if_neg (by omega)]
    · intro k
      rw [su_nc rfl, su_nc rfl]
    · refine hT.one (t := vs.getD 0 0) ?_ (fun t' ht' => tlT_ne ht') ?_
      · intro c o k hc hne
        unfold su
        rw [if_neg (by omega), if_neg (by omega)]
      · rw [tlT_0]
        exact ⟨(su_nk rfl).trans su_eq, su_eq, r2.2, (su_nk rfl).trans ((su_nk rfl).trans a3), a4, aB, (su_nk rfl).trans ((su_nk rfl).trans a2), fun i hi => ⟨(su_nc rfl).trans ((su_nc rfl).trans (aL i hi).1), (su_nc rfl).trans ((su_nc rfl).trans (aL i hi).2)⟩, (su_nk rfl).trans ((su_nk rfl).trans aT)⟩
theorem sp_tellC {σ : St} {N : Nat → Int32} {T : TS} {C : Nat → Nat} {L : List (Nat × List Nat)} {post : St → Prop} (hN : ∀ k, k < 10 → σ 6 0 k = N k) (hT : TcC σ T) (h72 : σ 7 0 2 = nI L.length) (h8 : L.length ≤ 8) (hL : LsC σ L) (hok : okL L C) (hC : ∀ t, t < 4 → C t = (T t).2.2.1) (h : ∀ σ', offTe σ σ' → (∀ k, k < 10 → σ' 6 0 k = doN L N k) → TcC σ' (doT L T) → post σ') : wp_X5_tell post σ := by
  have loop : ∀ (l pre : List (Nat × List Nat)) C1 N1 T1 σ1, pre ++ l = L → offTe σ σ1 → (∀ k, k < 10 → σ1 6 0 k = N1 k) → TcC σ1 T1 → okL l C1 → (∀ t, t < 4 → C1 t = (T1 t).2.2.1) → doN l N1 = doN L N → doT l T1 = doT L T → wp_X5_tell_2 post (l.length + 1) (nI pre.length) σ1 := by
    intro l
    induction l with
    | nil =>
      intro pre C1 N1 T1 σ1 e ho hn1 ht1 _ _ eN eT
      have el : pre.length = L.length := by rw [← e, List.append_nil]
      unfold wp_X5_tell_2
      rw [ho 7 0 2 (by omega), h72, el]
      refine ⟨fun _ => h σ1 ho (fun k hk => by rw [← eN]; exact hn1 k hk) (by rw [← eT]; exact ht1), fun hc => absurd (nI_le (Nat.le_refl L.length) (by omega)) hc⟩
    | cons p l ih =>
      intro pre C1 N1 T1 σ1 e ho hn1 ht1 hok1 hc1 eN eT
      obtain ⟨w, vs⟩ := p
      have el : pre.length < L.length := by
        rw [← e, List.length_append, List.length_cons]
        omega
      have eg : L.getD pre.length (0, []) = (w, vs) := by
        rw [← e, List.getD_eq_getElem?_getD, List.getElem?_append_right (Nat.le_refl _), Nat.sub_self]
        rfl
      obtain ⟨⟨l9, l10, l11⟩, lv⟩ := hL pre.length el
      rw [eg] at l9 l10 l11 lv
      dsimp only at l9 l10 l11 lv
      obtain ⟨k9, kr, k4, kl⟩ := hok1
      dsimp only at k9 kr k4 kl
      have m9 := (ho 9 0 pre.length (by omega)).trans l9
      have m10 : ∀ j, j < vs.length → σ1 10 0 (5 * pre.length + j) = nI (vs.getD j 0) := fun j hj => (ho 10 0 _ (by omega)).trans (l10 j hj)
      have m11 : 3 ≤ w → σ1 11 0 pre.length = nI (plS2 w) := fun z => (ho 11 0 _ (by omega)).trans (l11 z)
      have next : ∀ σ2, offTe σ1 σ2 → (∀ k, k < 10 → σ2 6 0 k = tlN w vs N1 k) → TcC σ2 (tlT w vs T1) → wp_X5_tell_2 post (l.length + 1) (nI pre.length + 1) σ2 := by
        intro σ2 o2 n2 t2
        rw [nI_1]
        have q := ih (pre ++ [(w, vs)]) (upC C1 w vs) (tlN w vs N1) (tlT w vs T1) σ2 (by rw [List.append_assoc]; exact e) (ho.trans o2) n2 t2 kl (upC_tl hc1) eN eT
        rw [List.length_append, List.length_singleton] at q
        exact q
      have X5 : nI pre.length * 5 = nI (5 * pre.length) := by rw [show (5 : Int32) = nI 5 from rfl, pk_mul, Nat.mul_comm]
      have V8 : vp_in (nI pre.length) 8 := pk_in pre.length 8 (by omega)
      have V40 : vp_in (nI (5 * pre.length)) 40 := pk_in (5 * pre.length) 40 (by omega)
      have E : wp_X5_tell_2 post (((w, vs) :: l).length + 1) (nI pre.length) σ1 = wp_X5_tell_2 post (l.length + 1 + 1) (nI pre.length) σ1 := rfl
      rw [E]
      generalize hn : l.length + 1 = n at next ⊢
      unfold wp_X5_tell_2 wp_X5_tell_38 wp_X5_tell_97
      rw [ho 7 0 2 (by omega), h72, X5, nI_clamp (by omega), nI_clamp (by omega), m9]
      refine ⟨fun hc => absurd hc (nI_ge (by omega) (by omega)), fun _ => ⟨V8, fun z => ?_, fun z => ?_⟩⟩
      · have w3 : w < 3 := by
          rcases Nat.lt_or_ge w 3 with q | q
          · exact q
          · rw [if_neg (by omega)] at z
            exact absurd rfl z
        have t3 := rg_first w3 kr
        have hl1 : 0 < vs.length := by
          rw [kr.1]
          rcases (show w = 0 ∨ w = 1 ∨ w = 2 by omega) with q | q | q <;> subst q <;> decide
        have m0 : σ1 10 0 (5 * pre.length) = nI (vs.getD 0 0) := m10 0 hl1
        rw [m0, e_isThing, bi_0, isThingN (by omega), m0, nI_clamp (by omega)]
        refine ⟨V40, fun q => absurd t3 q, fun _ => ⟨V40, pk_in (vs.getD 0 0) 4 (by omega), V8, ?_⟩⟩
        rw [m9, if_pos w3]
        refine sp_tellThingC ht1 w3 kr (fun w1 => ?_) (by omega) m10 rfl rfl (fun σ2 o2 n2 t2 => next σ2 o2 ?_ t2)
        · rw [← hc1 _ (by omega)]
          exact k4 w1
        · intro k hk
          rw [tlN_3 w3, n2 k]
          exact hn1 k hk
      · have w3 : 3 ≤ w := by
          rcases Nat.lt_or_ge w 3 with q | q
          · rw [if_pos q] at z
            exact absurd ((nI_eq (b := 3) (by omega) (by decide)).mp z) (by omega)
          · exact q
        have rg : rgS w = raS w := by
          unfold rgS
          rw [if_neg (by omega), if_neg (by omega), if_neg (by omega)]
        have hl5 : vs.length = (raS w).length := by rw [kr.1, rg]
        have o9 := okR_all w w3 k9
        have fin : ∀ (x : Int32), x = nI vs.length → (vp_in (nI pre.length) 8 ∧ (¬ nI (5 * pre.length) < 0 ∧ ¬ nI (plS2 w) < 0 ∧ ¬ x < 0 ∧ 5 * pre.length + x.toNatClampNeg ≤ 40 ∧ (nI (plS2 w)).toNatClampNeg + x.toNatClampNeg ≤ 10 ∧ wp_X5_tell_2 post n (nI pre.length + 1) (sr σ1 6 0 (va_cpy (fun i => σ1 10 0 i) (fun i => σ1 6 0 i) (5 * pre.length) (nI (plS2 w)).toNatClampNeg x.toNatClampNeg)))) := by
          intro x hx
          rw [hx, nI_clamp (by omega), nI_clamp (by omega)]
          refine ⟨V8, nI_pos (by omega), nI_pos (by omega), nI_pos (by omega), by omega, by omega, ?_⟩
          refine next _ ?_ ?_ ?_
          · intro c o k hc
            exact sr_ne (by omega) k
          · intro k hk
            rw [sr_eq]
            unfold tlN va_cpy
            by_cases q : plS2 w ≤ k ∧ k < plS2 w + vs.length
            · rw [if_pos q, if_pos ⟨w3, q⟩]
              exact m10 _ (by omega)
            · rw [if_neg q, if_neg (fun y => q y.2)]
              exact hn1 k hk
          · rw [tlT_3 w3]
            intro t ht
            exact (ht1 t ht).congr (fun c k hc => sr_ne (by omega) k)
        have p8 : plS2 w ≤ 9 := by omega
        rw [m11 w3, show (nI (plS2 w) = 0 ↔ plS2 w = 0) from nI_eq (b := 0) (by omega) (by decide)]
        refine ⟨V8, fun q => fin 1 ?_, fun q => fin 5 ?_⟩
        · have : ¬ w = 3 := by
            intro y
            rw [y] at q
            exact q rfl
          have r1 : (raS w).length = 1 := by
            unfold raS
            rw [if_neg this]
            split
            · rfl
            · split
              · rfl
              · split
                · rfl
                · split <;> rfl
          rw [hl5, r1]
          rfl
        · have : w = 3 := by
            unfold plS2 at q
            by_cases y : w = 3
            · exact y
            · rw [if_neg y] at q
              omega
          rw [hl5, this]
          rfl
  exact ⟨L.length + 1, loop L [] C N T σ rfl offTe.rf hN hT hok hC rfl rfl⟩
