/-! PURE: TWO -/
def runG (N : Nat → Int32) (kd own lg : Int32) (ago : Nat) (mi : Nat → Bool) (x0 : Int32) : Nat → Q4
  | 0 => (fun _ => x0, 0, 0, 0)
  | t + 1 => stepS N kd own lg ago (mi t) 0 t (runG N kd own lg ago mi x0 t)
def fallG (N : Nat → Int32) (kd own lg : Int32) (ago : Nat) (mi : Nat → Bool) (x0 : Int32) (t : Nat) : Bool := fellS (N 7) ((runG N kd own lg ago mi x0 t).1 t)
theorem runG_stable {N : Nat → Int32} {kd own lg x0 : Int32} {ago : Nat} {mi : Nat → Bool} : ∀ t j, j ≤ t → (runG N kd own lg ago mi x0 t).1 j = (runG N kd own lg ago mi x0 j).1 j := by
  intro t
  induction t with
  | zero =>
    intro j hj
    have e : j = 0 := by omega
    subst e
    rfl
  | succ t ih =>
    intro j hj
    by_cases h : j = t + 1
    · subst h; rfl
    · show upd (runG N kd own lg ago mi x0 t).1 (t + 1) _ j = _
      rw [pk_un h]
      exact ih j (by omega)
theorem histG_ok {N : Nat → Int32} {kd own lg x0 : Int32} {ago t : Nat} {mi : Nat → Bool} (hNB : NB N) (h : ∀ s, s ≤ t → fallG N kd own lg ago mi x0 s = false) : ∀ j, j ≤ t → -2147483648 < ((runG N kd own lg ago mi x0 t).1 j).toInt := by
  intro j hj
  rw [runG_stable t j hj]
  have h1 := hNB.bound
  have h2 := fell_bound (by omega) (h j hj)
  omega
def mi1 (p q t : Nat) : Bool := decide (t % (p + q) < p)
def twoF (N : Nat → Int32) (k1 o1 l1 : Int32) (g1 : Nat) (k2 o2 l2 : Int32) (g2 p q : Nat) (x y : Int32) (t : Nat) : Bool := fallG N k1 o1 l1 g1 (fun s => mi1 p q s) x t || fallG N k2 o2 l2 g2 (fun s => !mi1 p q s) y t
theorem not_or {a b : Bool} (h : ¬ (a || b) = true) : a = false ∧ b = false := by
  cases a <;> cases b <;> simp_all
theorem sp_bothC {σ : St} {N : Nat → Int32} {k1 o1 l1 k2 o2 l2 x y x3 x4 : Int32} {t1 t2 la b1 b2 p q : Nat} {post : Int32 → St → Prop} (hT1 : ThC σ t1 k1 o1 l1 b1) (hT2 : ThC σ t2 k2 o2 l2 b2) (hR : RuC σ 1 N la) (hp : 1 ≤ p) (hp9 : p ≤ 9) (hq : 1 ≤ q) (hq9 : q ≤ 9) (hx3 : x3 = nI p) (hx4 : x4 = nI q) (hB1 : Bal σ 3 0 (fun _ => x, 0, 0, 0)) (hB2 : Bal σ 4 0 (fun _ => y, 0, 0, 0)) (h : ∀ σ', offK σ σ' → post (nI (lastF (twoF N k1 o1 l1 (agoS la k1 b1) k2 o2 l2 (agoS la k2 b2) p q x y) 400 0)) σ') : wp_X4_bothLast t1 t2 x3 x4 post σ := by
  subst hx3; subst hx4
  have er : (if 1 < nI p + nI q then nI p + nI q else 1) = nI (p + q) := by
    rw [nI_add, if_pos (show (1 : Int32) < nI (p + q) from nI_lt (a := 1) (b := p + q) (by omega) (by omega))]
  have loop : ∀ n t σ1, t + n = 400 → offK σ σ1 → Bal σ1 3 t (runG N k1 o1 l1 (agoS la k1 b1) (fun s => mi1 p q s) x t) → Bal σ1 4 t (runG N k2 o2 l2 (agoS la k2 b2) (fun s => !mi1 p q s) y t) → (∀ s, s < t → ¬ twoF N k1 o1 l1 (agoS la k1 b1) k2 o2 l2 (agoS la k2 b2) p q x y s = true) → lastF (twoF N k1 o1 l1 (agoS la k1 b1) k2 o2 l2 (agoS la k2 b2) p q x y) n t = lastF (twoF N k1 o1 l1 (agoS la k1 b1) k2 o2 l2 (agoS la k2 b2) p q x y) 400 0 → wp_X4_bothLast_13 t1 t2 (nI p) (nI q) post (n + 1) (nI (p + q)) (nI t) σ1 := by
    intro n
    induction n with
    | zero =>
      intro t σ1 e ho h1 h2 hn hl
      unfold wp_X4_bothLast_13 wp_X4_bothLast_109
      refine ⟨fun _ => ?_, fun hc => absurd (nI_le (a := 400) (b := t) (by omega) (by omega)) hc⟩
      have := h σ1 ho
      rw [← hl] at this
      rw [h1.1]
      exact this
    | succ n ih =>
      intro t σ1 e ho h1 h2 hn hl
      have hR1 := hR.off ho
      unfold wp_X4_bothLast_13 wp_X4_bothLast_109
      have stop : twoF N k1 o1 l1 (agoS la k1 b1) k2 o2 l2 (agoS la k2 b2) p q x y t = true → post (σ1 13 3 4) σ1 := by
        intro hf
        have := h σ1 ho
        rw [← hl, lastF, if_pos hf] at this
        rw [h1.1]
        exact this
      refine ⟨fun hc => absurd hc (nI_ge (a := t) (b := 400) (by omega) (by omega)), fun _ => ?_⟩
      rw [e_fellC (hR1.1 7 (by decide)) h1.2.1]
      refine ⟨fun hf => ?_, fun hf => ?_⟩
      · rw [bi_1] at hf
        exact stop (by simp [twoF, fallG, hf])
      · rw [bi_0] at hf
        rw [e_fellC (hR1.1 7 (by decide)) h2.2.1]
        refine ⟨fun hg => ?_, fun hg => ?_⟩
        · rw [bi_1] at hg
          exact stop (by simp [twoF, fallG, hg])
        · rw [bi_0] at hg
          have hnot : ¬ twoF N k1 o1 l1 (agoS la k1 b1) k2 o2 l2 (agoS la k2 b2) p q x y t = true := by
            simp [twoF, fallG, hf, hg]
          have hall : ∀ s, s ≤ t → ¬ twoF N k1 o1 l1 (agoS la k1 b1) k2 o2 l2 (agoS la k2 b2) p q x y s = true := by
            intro s hs
            by_cases hs2 : s = t
            · rw [hs2]; exact hnot
            · exact hn s (by omega)
          rw [lastF, if_neg hnot] at hl
          have ha1 : ∀ s, s ≤ t → fallG N k1 o1 l1 (agoS la k1 b1) (fun s => mi1 p q s) x s = false := fun s hs => (not_or (hall s hs)).1
          have ha2 : ∀ s, s ≤ t → fallG N k2 o2 l2 (agoS la k2 b2) (fun s => !mi1 p q s) y s = false := fun s hs => (not_or (hall s hs)).2
          have em : nI t - nI t / nI (p + q) * nI (p + q) = nI (t % (p + q)) := pk_rem (by omega) (by omega) (by omega)
          have hmod : t % (p + q) < p + q := Nat.mod_lt _ (by omega)
          have k63 : ∀ xs0, xs0 = bi (mi1 p q t = true) → wp_X4_bothLast_63 t1 t2 (nI p) (nI q) (fun y0 y1 τ => wp_X4_bothLast_13 t1 t2 (nI p) (nI q) post (n + 1) y0 y1 τ) post (nI (p + q)) (nI t) xs0 σ1 := by
            intro xs0 hxs
            unfold wp_X4_bothLast_63 wp_X4_bothLast_99
            refine sp_tickC h1 (hT1.off ho) hR1 (histG_ok hR.2.2.2 ha1) (by omega) (mi := mi1 p q t) hxs (fun σ2 hof _ hB3 => ?_)
            have ho2 := ho.trans (hof.K (Or.inl rfl))
            have h2' := h2.off hof (by decide)
            have last : ∀ z, z = bi ((!mi1 p q t) = true) → wp_X0_tick 4 t2 1 z 0 (fun σ1 => wp_X4_bothLast_13 t1 t2 (nI p) (nI q) post (n + 1) (nI (p + q)) (nI t + 1) σ1) σ2 := by
              intro z hz
              refine sp_tickC h2' (hT2.off ho2) (hR.off ho2) (histG_ok hR.2.2.2 ha2) (by omega) (mi := !mi1 p q t) hz (fun σ3 hof3 _ hB4 => ?_)
              rw [nI_1]
              exact ih (t + 1) σ3 (by omega) (ho2.trans (hof3.K (Or.inr rfl))) (hB3.off hof3 (by decide)) hB4 (fun s hs => hall s (by omega)) hl
            refine ⟨fun hz => last 0 ?_, fun hz => last 1 ?_⟩
            · rw [hxs, bi_1] at hz
              rw [bi_f]
              simp [hz]
            · rw [hxs, bi_0] at hz
              rw [bi_t]
              simp at hz
              simp [hz]
          rw [em, nI_leI (by omega) (by omega)]
          refine ⟨nI_ne0 (by omega) (by omega), fun hc => k63 0 ?_, fun hc => k63 1 ?_⟩
          · rw [bi_f]
            simp only [mi1, decide_eq_true_eq]
            omega
          · rw [bi_t]
            simp only [mi1, decide_eq_true_eq]
            omega
  unfold wp_X4_bothLast
  rw [er]
  exact ⟨401, loop 400 0 σ (by omega) offK.rf hB1 hB2 (fun s hs => by omega) rfl⟩
def offM3 (μ μ' : St) : Prop := ∀ c o k, ¬ ((c = 0 ∧ 32 ≤ k ∧ k ≤ 34) ∨ (c = 8 ∧ k < 804) ∨ ((c = 9 ∨ c = 10 ∨ c = 11 ∨ c = 12) ∧ k < 2)) → μ' c o k = μ c o k
theorem offM3.trans {a b c : St} (h1 : offM3 a b) (h2 : offM3 b c) : offM3 a c := fun x y z h => (h2 x y z h).trans (h1 x y z h)
theorem TgM.off3 {μ μ' : St} {t ob n : Nat} {kd own : Int32} {h w : Nat → Int32} (hT : TgM μ t kd own ob n h w) (ho : offM3 μ μ') : TgM μ' t kd own ob n h w := by
  obtain ⟨a1, a2, a3, a4, a5, a6, a7, a8⟩ := hT
  unfold TgM
  rw [ho 3 0 t (by omega), ho 4 0 t (by omega), ho 5 0 t (by omega)]
  refine ⟨a1, a2, a3, a4, a5, a6, fun i hi => ?_, a8⟩
  rw [ho 6 0 _ (by omega), ho 6 0 _ (by omega)]
  exact a7 i hi
theorem RuM.off3 {μ μ' : St} {N : Nat → Int32} {la : Nat} (h : RuM μ N la) (ho : offM3 μ μ') : RuM μ' N la := by
  have e : ∀ k, k < 32 → μ' 0 0 k = μ 0 0 k := fun k hk => ho 0 0 k (by omega)
  unfold RuM
  rw [e 28 (by decide), e 29 (by decide), e 30 (by decide), e 31 (by decide), e 11 (by decide), e 12 (by decide), e 13 (by decide), e 14 (by decide), e 15 (by decide), e 16 (by decide)]
  exact h
theorem Row.off {μ μ' : St} {r r' t : Nat} {q : Q4} (h : Row μ r t q) (ho : offR r' μ μ') (hne : ¬ r = r') (ht : t ≤ 401) : Row μ' r t q := by
  obtain ⟨b1, b2, b3, b4, b5⟩ := h
  unfold Row
  rw [ho 11 0 r (by omega), ho 9 0 r (by omega), ho 10 0 r (by omega), ho 12 0 r (by omega)]
  refine ⟨b1, b2, b3, b4, fun j hj => ?_⟩
  rw [ho 8 0 _ (by omega)]
  exact b5 j hj
theorem Row.su0 {μ : St} {r t : Nat} {q : Q4} {v : Int32} {k : Nat} (h : Row μ r t q) : Row (su μ 0 0 k v) r t q := by
  obtain ⟨b1, b2, b3, b4, b5⟩ := h
  unfold Row
  rw [su_nc rfl, su_nc rfl, su_nc rfl, su_nc rfl]
  refine ⟨b1, b2, b3, b4, fun j hj => ?_⟩
  rw [su_nc rfl]
  exact b5 j hj
theorem sp_twoM {μ : St} {N : Nat → Int32} {k1 o1 k2 o2 x y x1 x2 x3 x4 x5 x6 : Int32} {t1 t2 la b1 b2 n1 n2 p q : Nat} {h1 w1 h2 w2 : Nat → Int32} {post : Int32 → St → Prop} (hT1 : TgM μ t1 k1 o1 b1 n1 h1 w1) (hT2 : TgM μ t2 k2 o2 b2 n2 h2 w2) (hn1 : 0 < n1) (hn2 : 0 < n2) (ht1 : t1 ≤ 3) (ht2 : t2 ≤ 3) (hR : RuM μ N la) (hp : 1 ≤ p) (hp9 : p ≤ 9) (hq : 1 ≤ q) (hq9 : q ≤ 9) (hx1 : x1 = nI t1) (hx3 : x3 = nI t2) (hx5 : x5 = nI p) (hx6 : x6 = nI q) (hB1 : Row μ 0 0 (fun _ => x, 0, 0, 0)) (hB2 : Row μ 1 0 (fun _ => y, 0, 0, 0)) (h : ∀ μ', offM3 μ μ' → post (nI (lastF (twoF N k1 o1 (lgS h1 w1 n1) (agoS la k1 b1) k2 o2 (lgS h2 w2 n2) (agoS la k2 b2) p q x y) 400 0)) μ') : ∃ nn, wp_X9_two_105 x1 x2 x3 x4 x5 x6 post nn 0 μ := by
  subst hx5; subst hx6
  have hl1 := lg_pos' hn1 hT1.2.2.2.2.2.1 hT1.2.2.2.2.2.2.2
  have hl2 := lg_pos' hn2 hT2.2.2.2.2.2.1 hT2.2.2.2.2.2.2.2
  have loop : ∀ n t μ1, t + n = 400 → offM3 μ μ1 → Row μ1 0 t (runG N k1 o1 (lgS h1 w1 n1) (agoS la k1 b1) (fun s => mi1 p q s) x t) → Row μ1 1 t (runG N k2 o2 (lgS h2 w2 n2) (agoS la k2 b2) (fun s => !mi1 p q s) y t) → lastF (twoF N k1 o1 (lgS h1 w1 n1) (agoS la k1 b1) k2 o2 (lgS h2 w2 n2) (agoS la k2 b2) p q x y) n t = lastF (twoF N k1 o1 (lgS h1 w1 n1) (agoS la k1 b1) k2 o2 (lgS h2 w2 n2) (agoS la k2 b2) p q x y) 400 0 → wp_X9_two_105 x1 x2 x3 x4 (nI p) (nI q) post (n + 1) (nI t) μ1 := by
    intro n
    induction n with
    | zero =>
      intro t μ1 e ho r1 r2 hl
      unfold wp_X9_two_105 wp_X9_two_195
      refine ⟨fun _ => ?_, fun hc => absurd (nI_le (a := 400) (b := t) (by omega) (by omega)) hc⟩
      have := h μ1 ho
      rw [← hl] at this
      exact this
    | succ n ih =>
      intro t μ1 e ho r1 r2 hl
      have hR1 := hR.off3 ho
      unfold wp_X9_two_105 wp_X9_two_195
      have stop : twoF N k1 o1 (lgS h1 w1 n1) (agoS la k1 b1) k2 o2 (lgS h2 w2 n2) (agoS la k2 b2) p q x y t = true → post (nI t) μ1 := by
        intro hf
        have := h μ1 ho
        rw [← hl, lastF, if_pos hf] at this
        exact this
      refine ⟨fun hc => absurd hc (nI_ge (a := t) (b := 400) (by omega) (by omega)), fun _ => ?_⟩
      rw [e_fellM (x := 0) r1 hR1.2.2.2.2.2.2.2.2.1 (by decide) (by omega) rfl]
      refine ⟨fun hf => ?_, fun hf => ?_⟩
      · rw [bi_1] at hf
        exact stop (by simp [twoF, fallG, hf])
      · rw [bi_0] at hf
        rw [e_fellM (x := 1) r2 hR1.2.2.2.2.2.2.2.2.1 (by decide) (by omega) rfl]
        refine ⟨fun hg => ?_, fun hg => ?_⟩
        · rw [bi_1] at hg
          exact stop (by simp [twoF, fallG, hg])
        · rw [bi_0] at hg
          have hnot : ¬ twoF N k1 o1 (lgS h1 w1 n1) (agoS la k1 b1) k2 o2 (lgS h2 w2 n2) (agoS la k2 b2) p q x y t = true := by
            simp [twoF, fallG, hf, hg]
          rw [lastF, if_neg hnot] at hl
          have em : nI t - nI t / nI (p + q) * nI (p + q) = nI (t % (p + q)) := pk_rem (by omega) (by omega) (by omega)
          have hmod : t % (p + q) < p + q := Nat.mod_lt _ (by omega)
          have k147 : ∀ xs0, xs0 = bi (mi1 p q t = true) → wp_X9_two_147 x1 x2 x3 x4 (nI p) (nI q) (fun y0 τ => wp_X9_two_105 x1 x2 x3 x4 (nI p) (nI q) post (n + 1) y0 τ) post (nI t) xs0 μ1 := by
            intro xs0 hxs
            unfold wp_X9_two_147 wp_X9_two_182
            refine sp_lookM (hT1.off3 ho) ht1 hx1 ?_
            have o1' : offM3 μ (su (su (su μ1 0 0 32 k1) 0 0 33 o1) 0 0 34 (lgS h1 w1 n1)) := by
              intro c o z hz
              have m0 : ¬ (c = 0 ∧ z = 32 ∧ o = 0) := by omega
              have m1 : ¬ (c = 0 ∧ z = 33 ∧ o = 0) := by omega
              have m2 : ¬ (c = 0 ∧ z = 34 ∧ o = 0) := by omega
              rw [← ho c o z hz]
              simp [su, m0, m1, m2]
            have hRa := hR.off3 o1'
            have hTa : ThM (su (su (su μ1 0 0 32 k1) 0 0 33 o1) 0 0 34 (lgS h1 w1 n1)) k1 o1 (lgS h1 w1 n1) b1 := ⟨by rw [su_nk rfl, su_nk rfl, su_eq], by rw [su_nk rfl, su_eq], su_eq, hT1.2.2.1, hT1.2.2.2.1, hl1⟩
            refine sp_tickM (r := 0) (r1.su0.su0.su0) hRa hTa (by decide) (by omega) rfl (mi := mi1 p q t) hxs (gu := 0) (by rw [hRa.2.2.2.2.2.2.2.2.2.1, ii_zero]) (fun μ2 of2 rB => ?_)
            have o2' : offM3 μ μ2 := o1'.trans (fun c o z hz => of2 c o z (by omega))
            have r2' : Row μ2 1 t (runG N k2 o2 (lgS h2 w2 n2) (agoS la k2 b2) (fun s => !mi1 p q s) y t) := (r2.su0.su0.su0).off of2 (by decide) (by omega)
            refine sp_lookM (hT2.off3 o2') ht2 hx3 ?_
            have o3' : offM3 μ (su (su (su μ2 0 0 32 k2) 0 0 33 o2) 0 0 34 (lgS h2 w2 n2)) := by
              intro c o z hz
              have m0 : ¬ (c = 0 ∧ z = 32 ∧ o = 0) := by omega
              have m1 : ¬ (c = 0 ∧ z = 33 ∧ o = 0) := by omega
              have m2 : ¬ (c = 0 ∧ z = 34 ∧ o = 0) := by omega
              rw [← o2' c o z hz]
              simp [su, m0, m1, m2]
            have hRb := hR.off3 o3'
            have hTb : ThM (su (su (su μ2 0 0 32 k2) 0 0 33 o2) 0 0 34 (lgS h2 w2 n2)) k2 o2 (lgS h2 w2 n2) b2 := ⟨by rw [su_nk rfl, su_nk rfl, su_eq], by rw [su_nk rfl, su_eq], su_eq, hT2.2.2.1, hT2.2.2.2.1, hl2⟩
            have last : ∀ z, z = bi ((!mi1 p q t) = true) → wp_X9_tick 1 z ((su (su (su μ2 0 0 32 k2) 0 0 33 o2) 0 0 34 (lgS h2 w2 n2)) 0 0 16) (fun σ1 => wp_X9_two_105 x1 x2 x3 x4 (nI p) (nI q) post (n + 1) (nI t + 1) σ1) (su (su (su μ2 0 0 32 k2) 0 0 33 o2) 0 0 34 (lgS h2 w2 n2)) := by
              intro z hz
              refine sp_tickM (r := 1) (r2'.su0.su0.su0) hRb hTb (by decide) (by omega) rfl (mi := !mi1 p q t) hz (gu := 0) (by rw [hRb.2.2.2.2.2.2.2.2.2.1, ii_zero]) (fun μ3 of3 rC => ?_)
              rw [nI_1]
              exact ih (t + 1) μ3 (by omega) (o3'.trans (fun c o z hz => of3 c o z (by omega))) ((rB.su0.su0.su0).off of3 (by decide) (by omega)) rC hl
            refine ⟨fun hz => last 0 ?_, fun hz => last 1 ?_⟩
            · rw [hxs, bi_1] at hz
              rw [bi_f]
              simp [hz]
            · rw [hxs, bi_0] at hz
              rw [bi_t]
              simp at hz
              simp [hz]
          rw [nI_add, em, nI_leI (by omega) (by omega)]
          refine ⟨nI_ne0 (by omega) (by omega), fun hc => k147 0 ?_, fun hc => k147 1 ?_⟩
          · rw [bi_f]
            simp only [mi1, decide_eq_true_eq]
            omega
          · rw [bi_t]
            simp only [mi1, decide_eq_true_eq]
            omega
  exact ⟨401, loop 400 0 μ (by omega) (fun _ _ _ _ => rfl) hB1 hB2 rfl⟩
