/-! WHOLE: what is kept up, images -/
theorem sp_refusal {σ : St} {T : TS} {x a : Int32} {post : Int32 → St → Prop} (hT : TcC σ T) (h2 : ¬ (0 ≤ x ∧ x ≤ 3) → post (-2) σ) (h3 : (0 ≤ x ∧ x ≤ 3) → a = 0 → post (-3) σ) (h4 : ∀ t, t < 4 → x = nI t → ¬ a = 0 → (T t).2.2.1 = 0 → post (-4) σ) (h0 : ∀ t, t < 4 → x = nI t → ¬ a = 0 → ¬ (T t).2.2.1 = 0 → post 0 σ) : wp_X8_refusal x a post σ := by
  rw [e_refusal]
  unfold refS
  by_cases hx : 0 ≤ x ∧ x ≤ 3
  · rw [if_pos hx]
    by_cases ha : a = 0
    · rw [if_neg (fun q => q ha)]
      exact h3 hx ha
    · rw [if_pos ha]
      obtain ⟨t, -, ht, e⟩ := nat_in (m := 0) (n := 3) hx (by decide) (by decide)
      have b := hT t (by omega)
      have e2 : σ 2 x.toNatClampNeg 2 = nI (T t).2.2.1 := by
        rw [e, nI_clamp (by omega)]
        exact b.2.2.2.2.2.2.1
      rw [e2]
      by_cases hn : (T t).2.2.1 = 0
      · rw [if_neg (fun q => q ((lump_0 b.2.2.2.2.1).1.mpr hn))]
        exact h4 t (by omega) e ha hn
      · rw [if_pos (fun q => hn ((lump_0 b.2.2.2.2.1).1.mp q))]
        exact h0 t (by omega) e ha hn
  · rw [if_neg hx]
    exact h2 hx
theorem TcC.thing {σ : St} {T : TS} {t : Nat} (h : TcC σ T) (ht : t < 4) (hn : ¬ (T t).2.2.1 = 0) : ThC σ t (T t).1 (nI (T t).2.1) (tlg T t) (T t).2.1 := by
  obtain ⟨b0, b1, b9, b3, b4, bB, b2, bL, bT⟩ := h t ht
  exact ⟨b0, b1, b3, rfl, b9, lg_pos' (by omega) b4 bB⟩
def offRo (r : Nat) (μ μ' : St) : Prop := ∀ c o k, ¬ ((c = 8 ∧ 402 * r ≤ k ∧ k < 402 * r + 402) ∨ ((c = 9 ∨ c = 10 ∨ c = 11 ∨ c = 12 ∨ c = 13) ∧ k = r) ∨ (c = 0 ∧ 28 ≤ k ∧ k ≤ 34)) → μ' c o k = μ c o k
theorem offRo.trans {r : Nat} {a b c : St} (h1 : offRo r a b) (h2 : offRo r b c) : offRo r a c := fun x y z h => (h2 x y z h).trans (h1 x y z h)
theorem offR.Ro {r : Nat} {a b : St} (h : offR r a b) : offRo r a b := fun c o k hc => h c o k (by omega)
theorem offA.Ro {r : Nat} {a b : St} (h : offA a b) : offRo r a b := fun c o k hc => h c o k (by omega)
theorem Inv.ball {σ μ σ' μ' : St} {o r : Nat} (h : Inv σ μ) (ho : o < 3) (hr : r = o + 2) (o1 : offB o σ σ') (o2 : offRo r μ μ') (hk : KB σ' μ' o r) : Inv σ' μ' := by
  obtain ⟨⟨N, la, T, B, len, dr, L, hA⟩, ⟨k0, k1, k2⟩, hF⟩ := h
  have other : ∀ p, ¬ p = o → KB σ μ p (p + 2) → KB σ' μ' p (p + 2) := fun p hp q => q.keep (fun k => ⟨o1 13 p k (by omega), o1 14 p k (by omega)⟩) (fun k k1 k2 => o2 8 0 k (by omega)) ⟨o2 9 0 _ (by omega), o2 10 0 _ (by omega), o2 11 0 _ (by omega), o2 12 0 _ (by omega), o2 13 0 _ (by omega)⟩
  have all : ∀ p, KB σ μ p (p + 2) → KB σ' μ' p (p + 2) := by
    intro p q
    by_cases e : p = o
    · rw [e, ← hr]
      exact hk
    · exact other p e q
  exact ⟨⟨N, la, T, B, len, dr, L, hA.keep (fun c o' k q => o1 c o' k (by unfold rlC at q; omega)) (fun c o' k q => o2 c o' k (by unfold rlM at q; omega))⟩, ⟨all 0 k0, all 1 k1, all 2 k2⟩, hF.keep (fun c o' k q => o1 c o' k (by unfold rfC at q; omega)) (fun c o' k q => o2 c o' k (by unfold rfM at q; omega))⟩
theorem pub_begin {σ μ : St} (h : Inv σ μ) (x1 x2 x3 : Int32) : wp_X8_begin x1 x2 x3 (fun r σ' => wp_X9_begin x1 x2 x3 (fun r' μ' => r' = r ∧ Inv σ' μ') μ) σ := by
  have h0 := h
  obtain ⟨⟨N, la, T, B, len, dr, L, a1, a2, a3, a4, a5, a6, a7, a8, a9, a10⟩, hK, hF⟩ := h0
  have bad : ¬ ((-999 ≤ x2 ∧ x2 ≤ 999) ∧ (-99 ≤ x3 ∧ x3 ≤ 99)) → wp_X8_begin_31 x1 x2 x3 (fun r σ' => wp_X9_begin x1 x2 x3 (fun r' μ' => r' = r ∧ Inv σ' μ') μ) x1 0 σ := by
    intro hb
    unfold wp_X8_begin_31
    refine sp_refusal a3 (fun hx => ⟨fun z => absurd z (by decide), fun _ => ?_⟩) (fun hx _ => ⟨fun z => absurd z (by decide), fun _ => ?_⟩) (fun _ _ _ z => absurd rfl z) (fun _ _ _ z => absurd rfl z)
    · unfold wp_X9_begin
      exact m_isThing (fun _ => ⟨n00, fun _ => ⟨rfl, h⟩⟩) (fun q => absurd q hx)
    · unfold wp_X9_begin wp_X9_begin_24
      exact m_isThing (fun q => absurd hx q) (fun _ => ⟨fun _ => m_isX (fun _ => ⟨fun _ => ⟨rfl, h⟩, n00⟩) (fun p1 => ⟨n10, fun _ => m_isV (fun _ => ⟨n00, fun _ => ⟨rfl, h⟩⟩) (fun p2 => absurd ⟨p1, p2⟩ hb)⟩), n10⟩)
  unfold wp_X8_begin wp_X8_begin_30
  refine c_within (fun p1 => ⟨fun _ => bad (fun q => p1 q.1), n00⟩) (fun p1 => ⟨n10, fun _ => c_within (fun p2 => ⟨fun _ => bad (fun q => p2 q.2), n00⟩) (fun p2 => ⟨n10, fun _ => ?_⟩)⟩)
  unfold wp_X8_begin_31
  refine sp_refusal a3 (fun hx => ⟨fun z => absurd z (by decide), fun _ => ?_⟩) (fun hx z => absurd z (by decide)) (fun t ht e _ hn => ⟨fun z => absurd z (by decide), fun _ => ?_⟩) (fun t ht e _ hn => ⟨fun _ => ?_, n00⟩)
  · unfold wp_X9_begin
    exact m_isThing (fun _ => ⟨n00, fun _ => ⟨rfl, h⟩⟩) (fun q => absurd q hx)
  · subst e
    unfold wp_X9_begin
    refine m_isThing (fun q => absurd (in_nat (m := 0) (n := 3) (by decide) (by decide) (by omega) (by omega)) q) (fun _ => ⟨fun _ => m_isX (fun q => absurd p1 q) (fun _ => ⟨n10, fun _ => m_isV (fun q => absurd p2 q) (fun _ => ⟨fun _ => ⟨pk_in t 4 ht, ?_⟩, n10⟩)⟩), n10⟩)
    rw [nI_clamp (by omega), (a4 t ht).2.2.2.2.1, hn]
    exact ⟨n00, fun _ => ⟨rfl, h⟩⟩
  · subst e
    refine sp_startC (fun σ' o1 e1 b1 => ?_)
    unfold wp_X9_begin
    refine m_isThing (fun q => absurd (in_nat (m := 0) (n := 3) (by decide) (by decide) (by omega) (by omega)) q) (fun _ => ⟨fun _ => m_isX (fun q => absurd p1 q) (fun _ => ⟨n10, fun _ => m_isV (fun q => absurd p2 q) (fun _ => ⟨fun _ => ⟨pk_in t 4 ht, ?_⟩, n10⟩)⟩), n10⟩)
    rw [nI_clamp (by omega), (a4 t ht).2.2.2.2.1]
    refine ⟨fun _ => ?_, fun z => absurd ((lump_0 (a4 t ht).2.2.2.2.2.1).2.mp z) hn⟩
    refine sp_startM (r := 2) (by decide) rfl (fun μ' o2 r2 => ⟨rfl, ?_⟩)
    have e2 : μ' 13 0 2 = nI t := (o2 13 0 2 (by omega)).trans su_eq
    refine h.ball (o := 0) (r := 2) (by decide) rfl o1 ?_ ⟨0, _, by omega, b1, r2, fun j hj => absurd hj (Nat.not_lt_zero j), e1.trans e2.symm, Or.inr ⟨t, ht, e1⟩⟩
    intro c o k hc
    rw [o2 c o k (by omega)]
    unfold su
    rw [if_neg (by omega)]
/-- n ticks, till it has fallen, 400 in all -/
def tkS (N : Nat → Int32) (kd own lg : Int32) (ago : Nat) : Nat → Nat → Q4 → Nat × Q4
  | 0, t, q => (t, q)
  | n + 1, t, q => if 400 ≤ t ∨ fellS (N 7) (q.1 t) = true then (t, q) else tkS N kd own lg ago n (t + 1) (stepS N kd own lg ago true 0 t q)
theorem step_hist {N : Nat → Int32} {kd own lg gu : Int32} {ago t : Nat} {mi : Bool} {q : Q4} {j : Nat} (hj : ¬ j = t + 1) : (stepS N kd own lg ago mi gu t q).1 j = q.1 j := by
  unfold stepS upd
  exact if_neg hj
theorem hist_next {N : Nat → Int32} {kd own lg : Int32} {ago t : Nat} {q : Q4} (hN : NB N) (hh : ∀ j, j < t → ab (q.1 j) 999) (hf : ¬ fellS (N 7) (q.1 t) = true) : (∀ j, j ≤ t → ab (q.1 j) 999) ∧ ∀ j, j < t + 1 → ab ((stepS N kd own lg ago true 0 t q).1 j) 999 := by
  have h1 : ∀ j, j ≤ t → ab (q.1 j) 999 := by
    intro j hj
    by_cases e : j = t
    · rw [e]
      exact ab_of_fell hN (by simpa using hf)
    · exact hh j (by omega)
  refine ⟨h1, fun j hj => ?_⟩
  rw [step_hist (by omega)]
  exact h1 j (by omega)
theorem tkS_stop {N : Nat → Int32} {kd own lg : Int32} {ago n t : Nat} {q : Q4} (c : 400 ≤ t ∨ fellS (N 7) (q.1 t) = true) : tkS N kd own lg ago (n + 1) t q = (t, q) := by
  rw [tkS, if_pos c]
theorem tkS_go {N : Nat → Int32} {kd own lg : Int32} {ago n t : Nat} {q : Q4} (c : ¬ (400 ≤ t ∨ fellS (N 7) (q.1 t) = true)) : tkS N kd own lg ago (n + 1) t q = tkS N kd own lg ago n (t + 1) (stepS N kd own lg ago true 0 t q) := by
  rw [tkS, if_neg c]
theorem tkS_ok {N : Nat → Int32} {kd own lg : Int32} {ago : Nat} (hN : NB N) : ∀ n t q, t ≤ 400 → (∀ j, j < t → ab (q.1 j) 999) → t ≤ (tkS N kd own lg ago n t q).1 ∧ (tkS N kd own lg ago n t q).1 ≤ 400 ∧ ∀ j, j < (tkS N kd own lg ago n t q).1 → ab ((tkS N kd own lg ago n t q).2.1 j) 999 := by
  intro n
  induction n with
  | zero =>
    intro t q ht hh
    exact ⟨Nat.le_refl _, ht, hh⟩
  | succ n ih =>
    intro t q ht hh
    unfold tkS
    by_cases c : 400 ≤ t ∨ fellS (N 7) (q.1 t) = true
    · rw [if_pos c]
      exact ⟨Nat.le_refl _, ht, hh⟩
    · rw [if_neg c]
      have hx := hist_next (kd := kd) (own := own) (lg := lg) (ago := ago) hN hh (fun z => c (Or.inr z))
      obtain ⟨u, v, w⟩ := ih (t + 1) (stepS N kd own lg ago true 0 t q) (by omega) hx.2
      exact ⟨by omega, v, w⟩
theorem ThC.offB {σ σ' : St} {kd own lg : Int32} {th ob o : Nat} (h : ThC σ th kd own lg ob) (ho : offB o σ σ') : ThC σ' th kd own lg ob := by
  obtain ⟨a, b, c, d⟩ := h
  exact ⟨(ho 2 th 0 (by omega)).trans a, (ho 2 th 1 (by omega)).trans b, (ho 2 th 3 (by omega)).trans c, d⟩
theorem RuC.offB {σ σ' : St} {N : Nat → Int32} {ru la o : Nat} (h : RuC σ ru N la) (ho : offB o σ σ') : RuC σ' ru N la := ⟨fun k hk => (ho 6 ru k (by omega)).trans (h.1 k hk), h.2⟩
theorem offB.trans {o : Nat} {a b c : St} (h1 : offB o a b) (h2 : offB o b c) : offB o a c := fun x y z h => (h2 x y z h).trans (h1 x y z h)
theorem offB.rf {o : Nat} {a : St} : offB o a a := fun _ _ _ _ => rfl
theorem bi_tt : (1 : Int32) = bi (true = true) := (bi_t rfl).symm
theorem sp_ticksC {σ : St} {N : Nat → Int32} {kd own lg : Int32} {th la ob t n : Nat} {q : Q4} {post : Int32 → St → Prop} (hT : ThC σ th kd own lg ob) (hR : RuC σ 0 N la) (hB : Bal σ 0 t q) (ht : t ≤ 400) (hh : ∀ j, j < t → ab (q.1 j) 999) (hth : th < 4) (h13 : σ 13 0 0 = nI th) (hn : n ≤ 100) (h : ∀ σ', offB 0 σ σ' → σ' 13 0 0 = nI th → Bal σ' 0 (tkS N kd own lg (agoS la kd ob) n t q).1 (tkS N kd own lg (agoS la kd ob) n t q).2 → post (nI ((tkS N kd own lg (agoS la kd ob) n t q).1 - t)) σ') : ∃ nn, wp_X8_ticks_62 (nI n) post nn 0 σ := by
  have hNB := hR.2.2.2
  have loop : ∀ m i t1 q1 σ1, i + m = n → t1 = t + i → offB 0 σ σ1 → σ1 13 0 0 = nI th → Bal σ1 0 t1 q1 → t1 ≤ 400 → (∀ j, j < t1 → ab (q1.1 j) 999) → tkS N kd own lg (agoS la kd ob) m t1 q1 = tkS N kd own lg (agoS la kd ob) n t q → wp_X8_ticks_62 (nI n) post (m + 1) (nI i) σ1 := by
    intro m
    induction m with
    | zero =>
      intro i t1 q1 σ1 e et ho h0 hb ht1 hh1 es
      have e2 : i = n := by omega
      subst e2
      unfold wp_X8_ticks_62 wp_X8_ticks_134
      refine ⟨fun _ => ?_, fun hc => absurd (nI_le (Nat.le_refl i) (by omega)) hc⟩
      have es2 : (t1, q1) = tkS N kd own lg (agoS la kd ob) i t q := es
      have := h σ1 ho h0 (by rw [← es2]; exact hb)
      rw [← es2, et] at this
      rw [Nat.add_sub_cancel_left] at this
      exact this
    | succ m ih =>
      intro i t1 q1 σ1 e et ho h0 hb ht1 hh1 es
      have stop : (400 ≤ t1 ∨ fellS (N 7) (q1.1 t1) = true) → post (nI i) σ1 := by
        intro c
        rw [tkS_stop c] at es
        have := h σ1 ho h0 (by rw [← es]; exact hb)
        rw [← es, et] at this
        rw [Nat.add_sub_cancel_left] at this
        exact this
      unfold wp_X8_ticks_62 wp_X8_ticks_134
      rw [hb.1, e_fellC (b := N 7) (x := q1.1 t1) ((ho 6 0 7 (by omega)).trans (hR.1 7 (by decide))) hb.2.1, show (400 ≤ nI t1 ↔ 400 ≤ t1) from nI_leI (a := 400) (by decide) (by omega)]
      refine ⟨fun hc => absurd hc (nI_ge (by omega) (by omega)), fun _ => ⟨fun hc => stop (Or.inl hc), fun hc => ⟨fun z => stop (Or.inr (bi_1.mp z)), fun z => ?_⟩⟩⟩
      have hf := bi_0.mp z
      have hx := hist_next (kd := kd) (own := own) (lg := lg) (ago := agoS la kd ob) hNB hh1 hf
      rw [h0, nI_clamp (by omega)]
      refine ⟨pk_in th 4 hth, sp_tickC (mi := true) hb (hT.offB ho) (hR.offB ho) (fun j hj => ?_) (by omega) bi_tt (fun σ2 o2 e2 b2 => ?_)⟩
      · have := hx.1 j hj
        unfold ab at this
        omega
      · rw [nI_1]
        refine ih (i + 1) (t1 + 1) _ σ2 (by omega) (by omega) (ho.trans o2) (e2.trans h0) b2 (by omega) hx.2 ?_
        rw [← es]
        rw [tkS_go (fun y => y.elim hc hf)]
  exact ⟨n + 1, loop n 0 t q σ (by omega) rfl offB.rf h13 hB ht hh rfl⟩
theorem sp_ticksM {μ : St} {N : Nat → Int32} {kd own lg : Int32} {la ob t n : Nat} {q : Q4} {post : Int32 → St → Prop} (hT : ThM μ kd own lg ob) (hR : RuM μ N la) (hB : Row μ 2 t q) (ht : t ≤ 400) (hn : n ≤ 100) (h : ∀ μ', offR 2 μ μ' → Row μ' 2 (tkS N kd own lg (agoS la kd ob) n t q).1 (tkS N kd own lg (agoS la kd ob) n t q).2 → post (nI ((tkS N kd own lg (agoS la kd ob) n t q).1 - t)) μ') : ∃ nn, wp_X9_ticks_54 (nI n) post nn 0 μ := by
  have loop : ∀ m i t1 q1 μ1, i + m = n → t1 = t + i → offR 2 μ μ1 → Row μ1 2 t1 q1 → t1 ≤ 400 → tkS N kd own lg (agoS la kd ob) m t1 q1 = tkS N kd own lg (agoS la kd ob) n t q → wp_X9_ticks_54 (nI n) post (m + 1) (nI i) μ1 := by
    intro m
    induction m with
    | zero =>
      intro i t1 q1 μ1 e et ho hb ht1 es
      have e2 : i = n := by omega
      subst e2
      unfold wp_X9_ticks_54 wp_X9_ticks_95
      refine ⟨fun _ => ?_, fun hc => absurd (nI_le (Nat.le_refl i) (by omega)) hc⟩
      have es2 : (t1, q1) = tkS N kd own lg (agoS la kd ob) i t q := es
      have := h μ1 ho (by rw [← es2]; exact hb)
      rw [← es2, et] at this
      rw [Nat.add_sub_cancel_left] at this
      exact this
    | succ m ih =>
      intro i t1 q1 μ1 e et ho hb ht1 es
      have stop : (400 ≤ t1 ∨ fellS (N 7) (q1.1 t1) = true) → post (nI i) μ1 := by
        intro c
        rw [tkS_stop c] at es
        have := h μ1 ho (by rw [← es]; exact hb)
        rw [← es, et] at this
        rw [Nat.add_sub_cancel_left] at this
        exact this
      have hR1 := hR.off ho
      unfold wp_X9_ticks_54 wp_X9_ticks_95
      rw [hb.1, e_fellM (x := 2) (b := N 7) hb hR1.2.2.2.2.2.2.2.2.1 (by decide) (by omega) rfl, show (400 ≤ nI t1 ↔ 400 ≤ t1) from nI_leI (a := 400) (by decide) (by omega)]
      refine ⟨fun hc => absurd hc (nI_ge (by omega) (by omega)), fun _ => ⟨fun hc => stop (Or.inl hc), fun hc => ⟨fun z => stop (Or.inr (bi_1.mp z)), fun z => ?_⟩⟩⟩
      have hf := bi_0.mp z
      refine sp_tickM (mi := true) (gu := 0) hb hR1 (hT.off ho) (by decide) (by omega) rfl bi_tt (by rw [hR1.2.2.2.2.2.2.2.2.2.1, ii_zero]) (fun μ2 o2 b2 => ?_)
      rw [nI_1]
      refine ih (i + 1) (t1 + 1) _ μ2 (by omega) (by omega) (ho.trans o2) b2 (by omega) ?_
      rw [← es]
      rw [tkS_go (fun y => y.elim hc hf)]
  exact ⟨n + 1, loop n 0 t q μ (by omega) rfl offR.rf hB ht rfl⟩
theorem pub_ticks {σ μ : St} (h : Inv σ μ) (x1 : Int32) : wp_X8_ticks x1 (fun r σ' => wp_X9_ticks x1 (fun r' μ' => r' = r ∧ Inv σ' μ') μ) σ := by
  have h0 := h
  obtain ⟨⟨N, la, T, B, len, dr, L, a1, a2, a3, a4, a5, a6, a7, a8, a9, a10⟩, ⟨⟨t, q, k1, k2, k3, k4, k5, k6⟩, _, _⟩, hF⟩ := h0
  unfold wp_X8_ticks wp_X8_ticks_57
  refine c_within (fun hx => ⟨n00, fun _ => ?_⟩) (fun hx => ⟨fun _ => ?_, n10⟩)
  · unfold wp_X9_ticks
    exact m_in (a := 1) (b := 100) rfl rfl (fun _ => ⟨n00, fun _ => ⟨rfl, h⟩⟩) (fun q => absurd q hx)
  · obtain ⟨n, hn1, hn, e⟩ := nat_in (m := 1) (n := 100) hx (by decide) (by decide)
    subst e
    have into : ∀ {P : Int32 → St → Prop}, (((μ 13 0 2) = (-1) → P (-4) μ) ∧ (¬ (μ 13 0 2) = (-1) → wp_X9_fell 2 (fun r2 σ2 => ((¬ r2 = 0 → P (-4) σ2) ∧ (r2 = 0 → (vp_in (μ 13 0 2) 4 ∧ ((¬ (σ2 5 0 ((μ 13 0 2).toNatClampNeg)) = 0 → wp_X9_asTold (μ 13 0 2) (fun σ3 => ∃ nn, wp_X9_ticks_54 (nI n) P nn 0 σ3) σ2) ∧ ((σ2 5 0 ((μ 13 0 2).toNatClampNeg)) = 0 → P (-4) σ2)))))) μ)) → wp_X9_ticks (nI n) P μ := by
      intro P hP
      unfold wp_X9_ticks wp_X9_ticks_44
      exact m_in (a := 1) (b := 100) rfl rfl (fun q => absurd hx q) (fun _ => ⟨fun _ => hP, n10⟩)
    rw [k5]
    rw [k5] at k6
    rcases k6 with k6 | ⟨th, hth, k6⟩
    · rw [k6]
      rw [k6] at into
      exact c_isThing (fun _ => ⟨fun _ => into (sel_t rfl ⟨rfl, h⟩), n00⟩) (fun z => absurd z (by decide))
    · rw [k6]
      rw [k6] at into
      have hne : ¬ nI th = -1 := nI_m1 (by omega)
      refine c_isThing (fun z => absurd (in_nat (m := 0) (n := 3) (by decide) (by decide) (by omega) (by omega)) z) (fun _ => ⟨n10, fun _ => ?_⟩)
      have eC : wp_X0_fell 0 0 = fun P τ => wp_X0_fell 0 0 P τ := rfl
      rw [e_fellC (b := N 7) (x := q.1 t) (a1 7 (by decide)) k2.2.1]
      have eM : ∀ P : Int32 → St → Prop, wp_X9_fell 2 P μ = P (bi (fellS (N 7) (q.1 t) = true)) μ := fun P => e_fellM k3 (a2.1 7 (by decide)) (by decide) (by omega) rfl
      by_cases hf : fellS (N 7) (q.1 t) = true
      · rw [bi_t hf]
        refine ⟨fun _ => into (sel_f hne ?_), n10⟩
        rw [eM, bi_t hf]
        exact ⟨fun _ => ⟨rfl, h⟩, n10⟩
      · rw [bi_f hf]
        refine ⟨n00, fun _ => ?_⟩
        have s13 : σ 13 0 0 = nI th := k5.trans k6
        rw [s13, e_hasLumps (in_nat (m := 0) (n := 3) (by decide) (by decide) (by omega) (by omega)), nI_clamp (by omega), (a3 th hth).2.2.2.2.2.2.1]
        have b4 := (a3 th hth).2.2.2.2.1
        by_cases hl : (T th).2.2.1 = 0
        · rw [bi_f (fun z => z ((lump_0 b4).1.mpr hl))]
          refine ⟨n00, fun _ => into (sel_f hne ?_)⟩
          rw [eM, bi_f hf]
          refine ⟨n00, fun _ => ⟨pk_in th 4 hth, ?_⟩⟩
          rw [nI_clamp (by omega), (a4 th hth).2.2.2.2.1, hl]
          exact ⟨n00, fun _ => ⟨rfl, h⟩⟩
        · rw [bi_t (show ¬ nI (T th).2.2.1 ≤ 0 from fun z => hl ((lump_0 b4).1.mp z))]
          refine ⟨fun _ => ?_, n10⟩
          refine sp_ticksC (a3.thing hth hl) ⟨a1, a2.2⟩ k2 k1 k4 hth s13 hn (fun σ' o1 e1 b1 => into (sel_f hne ?_))
          rw [eM, bi_f hf]
          refine ⟨n00, fun _ => ⟨pk_in th 4 hth, ?_⟩⟩
          rw [nI_clamp (by omega), (a4 th hth).2.2.2.2.1]
          refine ⟨fun _ => sp_asTold a2 (a4 th hth) (by omega) rfl (fun μ1 o2 r2 h32 h33 h34 => ?_), fun z => absurd ((lump_0 b4).2.mp z) hl⟩
          have hrow : Row μ1 2 t q := by
            obtain ⟨r1, r2, r3, r4, r5⟩ := k3
            exact ⟨(o2 11 0 2 (by omega)).trans r1, (o2 9 0 2 (by omega)).trans r2, (o2 10 0 2 (by omega)).trans r3, (o2 12 0 2 (by omega)).trans r4, fun j hj => (o2 8 0 _ (by omega)).trans (r5 j hj)⟩
          refine sp_ticksM (kd := (T th).1) (own := nI (T th).2.1) (lg := tlg T th) (ob := (T th).2.1) ⟨h32, h33, h34, rfl, (a4 th hth).2.2.2.1, lg_pos' (by omega) b4 (a3 th hth).2.2.2.2.2.1⟩ r2 hrow k1 hn (fun μ' o3 r3 => ⟨rfl, ?_⟩)
          obtain ⟨u, v, w⟩ := tkS_ok (kd := (T th).1) (own := nI (T th).2.1) (lg := tlg T th) (ago := agoS la (T th).1 (T th).2.1) a2.2.2.2 n t q k1 k4
          exact h.ball (o := 0) (r := 2) (by decide) rfl o1 (o2.Ro.trans o3.Ro) ⟨_, _, v, b1, r3, w, by rw [e1, o3 13 0 2 (by omega), o2 13 0 2 (by omega), k6], Or.inr ⟨th, hth, e1⟩⟩
