/-! PURE: how long a thing is kept: the row of states; the reference counts, the class finds rounds -/
def runS (N : Nat → Int32) (kd own lg : Int32) (ago : Nat) (mi : Bool) (x0 v0 : Int32) : Nat → Q4
  | 0 => (fun _ => x0, v0, 0, 0)
  | t + 1 => stepS N kd own lg ago mi 0 t (runS N kd own lg ago mi x0 v0 t)
def xS (N : Nat → Int32) (kd own lg : Int32) (ago : Nat) (mi : Bool) (x0 v0 : Int32) (t : Nat) : Int32 := (runS N kd own lg ago mi x0 v0 t).1 t
def fellS (b x : Int32) : Bool := decide (b < x) || !decide (-b ≤ x)
/-- from t on, at most n more -/
def lastF (F : Nat → Bool) : Nat → Nat → Nat
  | 0, t => t
  | n + 1, t => if F t then t else lastF F n (t + 1)
def fallS (N : Nat → Int32) (kd own lg : Int32) (ago : Nat) (mi : Bool) (x0 v0 : Int32) (t : Nat) : Bool := fellS (N 7) (xS N kd own lg ago mi x0 v0 t)
theorem lastF_never {F : Nat → Bool} : ∀ n t, (∀ s, t ≤ s → F s = false) → lastF F n t = t + n
  | 0, t, _ => rfl
  | n + 1, t, h => by
    rw [lastF, h t (Nat.le_refl t)]
    simp only [Bool.false_eq_true, if_false]
    rw [lastF_never n (t + 1) (fun s hs => h s (by omega))]
    omega
theorem lastF_bounds {F : Nat → Bool} : ∀ n t, t ≤ lastF F n t ∧ lastF F n t ≤ t + n
  | 0, t => ⟨Nat.le_refl t, Nat.le_refl t⟩
  | n + 1, t => by
    rw [lastF]
    have := lastF_bounds (F := F) n (t + 1)
    split <;> omega
theorem fell_bound {b x : Int32} (hb : 0 ≤ b.toInt) (h : fellS b x = false) : -b.toInt ≤ x.toInt ∧ x.toInt ≤ b.toInt := by
  have hn : (-b).toInt = -b.toInt := i_neg (by omega)
  simp only [fellS, Bool.or_eq_false_iff, decide_eq_false_iff_not, Bool.not_eq_false', decide_eq_true_eq] at h
  obtain ⟨h1, h2⟩ := h
  rw [fa_lt] at h1
  rw [fa_le, hn] at h2
  omega
theorem NB.bound {N : Nat → Int32} (h : NB N) : 1 ≤ (N 7).toInt ∧ (N 7).toInt ≤ 999 := by
  have h1 := h 7 (by decide)
  have e1 : (tLeast.getD 7 0).toInt = 1 := by decide
  have e2 : (tMost.getD 7 0).toInt = 999 := by decide
  omega
theorem e_fellC {σ : St} {o ru : Nat} {b x : Int32} {post : Int32 → St → Prop} (hb : σ 6 ru 7 = b) (hx : σ 13 o 1 = x) : wp_X0_fell o ru post σ = post (bi (fellS b x = true)) σ := by
  unfold wp_X0_fell wp_X0_fell_23 wp_X0_fell_28
  rw [hb, hx]
  by_cases h1 : b < x
  · simp [h1, fellS, bi, bool1]
  · by_cases h2 : -b ≤ x
    · simp [h1, h2, fellS, bi, bool0]
    · simp [h1, h2, fellS, bi, bool1]
theorem e_fellM {μ : St} {r t : Nat} {q : Q4} {x b : Int32} {post : Int32 → St → Prop} (hB : Row μ r t q) (hb : μ 0 0 15 = b) (hr : r ≤ 4) (ht : t ≤ 401) (hx : x = nI r) : wp_X9_fell x post μ = post (bi (fellS b (q.1 t) = true)) μ := by
  unfold wp_X9_fell wp_X9_fell_23 wp_X9_fell_28
  rw [e_leansAt hB hr ht hx, hb]
  by_cases h1 : b < q.1 t
  · simp [h1, fellS, bi, bool1]
  · by_cases h2 : -b ≤ q.1 t
    · simp [h1, h2, fellS, bi, bool0]
    · simp [h1, h2, fellS, bi, bool1]
theorem offR.trans {r : Nat} {a b c : St} (h1 : offR r a b) (h2 : offR r b c) : offR r a c := fun x y z h => (h2 x y z h).trans (h1 x y z h)
theorem offR.rf {r : Nat} {a : St} : offR r a a := fun _ _ _ _ => rfl
theorem RuM.off {μ μ' : St} {N : Nat → Int32} {la r : Nat} (h : RuM μ N la) (ho : offR r μ μ') : RuM μ' N la := by
  have e : ∀ k, μ' 0 0 k = μ 0 0 k := fun k => ho 0 0 k (by omega)
  unfold RuM
  simp only [e]
  exact h
theorem ThM.off {μ μ' : St} {kd own lg : Int32} {ob r : Nat} (h : ThM μ kd own lg ob) (ho : offR r μ μ') : ThM μ' kd own lg ob := by
  have e : ∀ k, μ' 0 0 k = μ 0 0 k := fun k => ho 0 0 k (by omega)
  unfold ThM
  simp only [e]
  exact h
theorem sp_startM {μ : St} {r : Nat} {x x0 v0 : Int32} {post : St → Prop} (hr : r ≤ 4) (hx : x = nI r) (h : ∀ μ', offR r μ μ' → Row μ' r 0 (fun _ => x0, v0, 0, 0) → post μ') : wp_X9_start x x0 v0 post μ := by
  have ec : x.toNatClampNeg = r := by rw [hx, nI_clamp (by omega)]
  have v1 : vp_in x 5 := by rw [hx]; exact vp_in_nI (by omega) (by decide)
  unfold wp_X9_start
  rw [ec, m402' hx, nI_clamp (by omega)]
  refine ⟨vp_in_nI (by omega) (by decide), v1, v1, v1, v1, h _ ?_ ?_⟩
  · intro c o' k hn
    have n8 : ¬ (c = 8 ∧ k = 402 * r ∧ o' = 0) := fun z => hn (Or.inl ⟨z.1, by omega, by omega⟩)
    have n9 : ∀ d, (d = 9 ∨ d = 10 ∨ d = 11 ∨ d = 12) → ¬ (c = d ∧ k = r ∧ o' = 0) := by
      intro d hd z
      refine hn (Or.inr ⟨?_, z.2.1⟩)
      rw [z.1]
      exact hd
    have e9 := n9 9 (by decide)
    have e10 := n9 10 (by decide)
    have e11 := n9 11 (by decide)
    have e12 := n9 12 (by decide)
    simp [su, n8, e9, e10, e11, e12]
  · refine ⟨?_, ?_, ?_, ?_, ?_⟩
    · rw [su_nc rfl, su_eq]; rfl
    · rw [su_nc rfl, su_nc rfl, su_nc rfl, su_eq]
    · rw [su_nc rfl, su_nc rfl, su_eq]
    · rw [su_eq]
    · intro j hj
      have e : j = 0 := by omega
      subst e
      rw [Nat.add_zero, su_nc rfl, su_nc rfl, su_nc rfl, su_nc rfl, su_eq]
theorem sp_lastsM {μ : St} {N : Nat → Int32} {kd own lg x0 v0 x3 : Int32} {la ob : Nat} {mi : Bool} {post : Int32 → St → Prop} (hR : RuM μ N la) (hT : ThM μ kd own lg ob) (hmi : x3 = bi (mi = true)) (h : ∀ μ', offR 0 μ μ' → post (nI (lastF (fallS N kd own lg (agoS la kd ob) mi x0 v0) 400 0)) μ') : wp_X9_lasts x0 v0 x3 post μ := by
  have loop : ∀ n t μ1, t + n = 400 → offR 0 μ μ1 → Row μ1 0 t (runS N kd own lg (agoS la kd ob) mi x0 v0 t) → lastF (fallS N kd own lg (agoS la kd ob) mi x0 v0) n t = lastF (fallS N kd own lg (agoS la kd ob) mi x0 v0) 400 0 → wp_X9_lasts_7 x0 v0 x3 post (n + 1) μ1 := by
    intro n
    induction n with
    | zero =>
      intro t μ1 e ho hB hl
      have hB' := hB
      obtain ⟨b1, -⟩ := hB'
      unfold wp_X9_lasts_7 wp_X9_lasts_40
      have et : t = 400 := by omega
      refine ⟨fun _ => ?_, fun hc => ?_⟩
      · rw [b1]
        have := h μ1 ho
        rw [← hl] at this
        exact this
      · exfalso
        apply hc
        rw [b1, et]
        decide
    | succ n ih =>
      intro t μ1 e ho hB hl
      have hB' := hB
      obtain ⟨b1, -⟩ := hB'
      have hR1 := hR.off ho
      have hT1 := hT.off ho
      unfold wp_X9_lasts_7 wp_X9_lasts_40
      refine ⟨fun hc => ?_, fun _ => ?_⟩
      · exfalso
        rw [b1] at hc
        exact nI_ge (a := t) (b := 400) (by omega) (by decide) hc
      · rw [e_fellM (x := 0) hB hR1.2.2.2.2.2.2.2.2.1 (by decide) (by omega) rfl]
        refine ⟨fun hf => ?_, fun hf => ?_⟩
        · rw [bi_1] at hf
          rw [b1]
          have := h μ1 ho
          rw [← hl, lastF, if_pos (show fallS N kd own lg (agoS la kd ob) mi x0 v0 t = true from hf)] at this
          exact this
        · rw [bi_0] at hf
          rw [lastF, if_neg (show ¬ fallS N kd own lg (agoS la kd ob) mi x0 v0 t = true from hf)] at hl
          refine sp_tickM hB hR1 hT1 (by decide) (by omega) rfl hmi (gu := 0) ?_ (fun μ2 ho2 hB2 => ih (t + 1) μ2 (by omega) (ho.trans ho2) hB2 hl)
          rw [hR1.2.2.2.2.2.2.2.2.2.1, ii_zero]
  unfold wp_X9_lasts
  refine sp_startM (by decide) rfl (fun μ1 ho hB => ⟨401, loop 400 0 μ1 (by omega) ho hB rfl⟩)
