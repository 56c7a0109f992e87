/-! PURE: one tick, as the document has it; class and reference both do it -/
theorem ii_assoc (a b c : Int32) : a + b + c = a + (b + c) := Int32.add_assoc a b c
theorem ii_comm (a b : Int32) : a + b = b + a := Int32.add_comm a b
theorem ii_sub (a b : Int32) : a - b = a + -b := Int32.sub_eq_add_neg a b
theorem ii_cancel (a b : Int32) : a + b - a = b := by
  apply Int32.toBitVec_inj.1
  simp [BitVec.add_comm a.toBitVec, BitVec.add_sub_cancel]
theorem ii_subsub (a b c : Int32) : a - b - c = a - (b + c) := by
  rw [ii_sub, ii_sub, ii_sub, ii_assoc, Int32.neg_add, ii_sub]
theorem ii_addsub (a b c : Int32) : a + b - c = a + (b - c) := by
  rw [ii_sub, ii_sub, ii_assoc]
theorem ii_zero (a : Int32) : a + 0 = a := Int32.add_zero a
theorem ii_szero (a : Int32) : a - 0 = a := by rw [ii_sub, Int32.neg_zero, ii_zero]
abbrev Q4 : Type := (Nat → Int32) × Int32 × Int32 × Int32
def mind (N : Nat → Int32) (s b : Int32) : Int32 := if N 4 ≤ s ∨ s ≤ -(N 4) then lim ((N 0 * s + N 1 * (s - b)) / 10) (N 3) else 0
def mvS (N : Nat → Int32) (ago : Nat) (h : Nat → Int32) (t : Nat) (f : Int32) : Int32 := lim (f + mind N (h (t - ago)) (h (t - (ago + 1)))) (N 5) - f
def leanS (kd own lg x v pull : Int32) : Int32 := if kd = 1 then x * pull / lg - x * own / 10 else if kd = 2 then x * pull / lg + v * own / 20 else x * pull / lg
def pullS (N : Nat → Int32) (t : Nat) : Int32 := if t % 2 = 0 then N 6 + N 9 else N 6 - N 9
def vS (N : Nat → Int32) (kd own lg gu : Int32) (t : Nat) (q : Q4) : Int32 := q.2.1 + ((leanS kd own lg (q.1 t) q.2.1 (pullS N t) + N 8) + gu)
def mS (N : Nat → Int32) (ago : Nat) (mi : Bool) (t : Nat) (q : Q4) : Int32 := if mi then mvS N ago q.1 t q.2.2.1 else 0
def stepS (N : Nat → Int32) (kd own lg : Int32) (ago : Nat) (mi : Bool) (gu : Int32) (t : Nat) (q : Q4) : Q4 :=
  (upd q.1 (t + 1) (q.1 t + (vS N kd own lg gu t q - mS N ago mi t q)), vS N kd own lg gu t q, q.2.2.1 + mS N ago mi t q, mS N ago mi t q)
/-- LATE and a joint, as numbers of ticks -/
def agoS (la : Nat) (kd : Int32) (own : Nat) : Nat := la + (if kd = 3 then own else 0)
/-- a balance of the class -/
def Bal (σ : St) (o t : Nat) (q : Q4) : Prop := σ 13 o 4 = nI t ∧ σ 13 o 1 = q.1 t ∧ σ 13 o 2 = q.2.1 ∧ σ 13 o 3 = q.2.2.1 ∧ σ 13 o 5 = q.2.2.2 ∧ ∀ j, j ≤ t → t < j + 32 → σ 14 o (j % 32) = q.1 j
/-- a row of the reference -/
def Row (μ : St) (r t : Nat) (q : Q4) : Prop := μ 11 0 r = nI t ∧ μ 9 0 r = q.2.1 ∧ μ 10 0 r = q.2.2.1 ∧ μ 12 0 r = q.2.2.2 ∧ ∀ j, j ≤ t → μ 8 0 (402 * r + j) = q.1 j
theorem nI_sub_pos {a b : Nat} (h : b ≤ a) : nI a - nI b = nI (a - b) := pk_sub h
theorem nI_sub_le {a b : Nat} (ha : a < 2 ^ 30) (hb : b < 2 ^ 30) (h : a ≤ b) : nI a - nI b ≤ 0 := by
  have h0 : (0 : Int32).toInt = 0 := by decide
  rw [fa_le, pk_sub_toInt ha hb, h0]
  omega
theorem sp_was {σ : St} {o t d : Nat} {q : Q4} {x : Int32} {post : Int32 → St → Prop} (hB : Bal σ o t q) (hd : d ≤ 16) (ht : t < 2 ^ 30) (hx : x = nI t - nI d) (h : post (q.1 (t - d)) σ) : wp_X0_was o x post σ := by
  subst hx
  obtain ⟨-, -, -, -, -, hT⟩ := hB
  unfold wp_X0_was wp_X0_was_22
  refine ⟨fun h1 => ?_, fun h1 => ?_⟩
  · have h2 : t ≤ d := by
      rcases Nat.lt_or_ge d t with z | z
      · exfalso
        rw [nI_sub_pos (by omega)] at h1
        exact nI_nle (by omega) (by omega) h1
      · exact z
    have e1 : t - d = 0 := by omega
    rw [e1] at h
    have := hT 0 (by omega) (by omega)
    rw [Nat.zero_mod] at this
    rw [this]
    exact h
  · have h2 : d < t := by
      rcases Nat.lt_or_ge d t with z | z
      · exact z
      · exact absurd (nI_sub_le (by omega) (by omega) z) h1
    rw [nI_sub_pos (by omega)]
    have e31 : (31 : Int32).toBitVec.toNat = 2 ^ 5 - 1 := by decide
    have e := pk_andN (n := t - d) (by omega) 5 e31
    have e2 := hT (t - d) (by omega) (by omega)
    rw [e]
    have hlt : (t - d) % 2 ^ 5 < 32 := Nat.mod_lt _ (by decide)
    refine ⟨vp_in_nI hlt (by decide), ?_⟩
    rw [nI_clamp (by omega)]
    show post (σ 14 o ((t - d) % 32)) σ
    rw [e2]
    exact h
theorem abs_iff {d x : Int32} (hd : 0 ≤ d.toInt) (hx : -2147483648 < x.toInt) : (d ≤ (if 0 ≤ x then x else 0 - x)) ↔ (d ≤ x ∨ x ≤ -d) := by
  have h0 : (0 : Int32).toInt = 0 := by decide
  have hn : (-d).toInt = -d.toInt := i_neg (by omega)
  have := i_hi x
  by_cases h : 0 ≤ x
  · rw [if_pos h]
    rw [fa_le] at h
    rw [fa_le, fa_le, hn]
    omega
  · rw [if_neg h]
    rw [fa_le] at h
    rw [fa_le, fa_le, fa_le, hn, i_sub (by omega) (by omega)]
    omega
theorem e_wish {σ : St} {ru : Nat} {s b : Int32} {post : Int32 → St → Prop} (hd : 0 ≤ (σ 6 ru 4).toInt) (hs : -2147483648 < s.toInt) : wp_X8_wish ru s b post σ = post (mind (fun k => σ 6 ru k) s b) σ := by
  unfold wp_X8_wish mind
  simp only [e_limited, abs_iff hd hs, br2]
  split <;> rfl
theorem e_seenLater {σ : St} {th : Nat} {post : Int32 → St → Prop} : wp_X6_seenLater th post σ = post (if σ 2 th 0 = 3 then σ 2 th 1 else 0) σ := by
  unfold wp_X6_seenLater wp_X6_seenLater_16
  by_cases h : σ 2 th 0 = 3 <;> simp [h]
theorem e_leaning {σ : St} {th : Nat} {x v pull : Int32} {post : Int32 → St → Prop} (hl : 0 < σ 2 th 3) : wp_X6_leaning th x v pull post σ = post (leanS (σ 2 th 0) (σ 2 th 1) (σ 2 th 3) x v pull) σ := by
  have h0 : ¬ σ 2 th 3 = 0 := fun e => (fa_of_lt hl).2.2.2.2 e
  have h1 : ¬ σ 2 th 3 ≤ 0 := (fa_of_lt hl).2.1
  unfold wp_X6_leaning wp_X6_leaning_19 leanS
  by_cases a : σ 2 th 0 = 1
  · simp [h0, h1, a]
  · by_cases b : σ 2 th 0 = 2
    · simp [h0, h1, b]
    · simp [h0, h1, a, b]
/-- the numbers told, in their bounds -/
def NB (N : Nat → Int32) : Prop := ∀ k, k < 10 → (tLeast.getD k 0).toInt ≤ (N k).toInt ∧ (N k).toInt ≤ (tMost.getD k 0).toInt
def ThC (σ : St) (th : Nat) (kd own lg : Int32) (ob : Nat) : Prop := σ 2 th 0 = kd ∧ σ 2 th 1 = own ∧ σ 2 th 3 = lg ∧ own = nI ob ∧ ob ≤ 9 ∧ 0 < lg
def RuC (σ : St) (ru : Nat) (N : Nat → Int32) (la : Nat) : Prop := (∀ k, k < 10 → σ 6 ru k = N k) ∧ N 2 = nI la ∧ la ≤ 6 ∧ NB N
theorem NB.dead {N : Nat → Int32} (h : NB N) : 0 ≤ (N 4).toInt := by
  have := (h 4 (by decide)).1
  have e : (tLeast.getD 4 0).toInt = 0 := by decide
  omega
theorem mind_congr {N N' : Nat → Int32} (h : ∀ k, k < 10 → N k = N' k) (s b : Int32) : mind N s b = mind N' s b := by
  unfold mind
  rw [h 4 (by decide), h 0 (by decide), h 1 (by decide), h 3 (by decide)]
def offB (o : Nat) (σ σ' : St) : Prop := ∀ c o' k, ¬ ((c = 13 ∨ c = 14) ∧ o' = o) → σ' c o' k = σ c o' k
theorem sp_moveC {σ : St} {o th ru t la ob : Nat} {q : Q4} {N : Nat → Int32} {kd own lg : Int32} {post : Int32 → St → Prop} (hB : Bal σ o t q) (hT : ThC σ th kd own lg ob) (hR : RuC σ ru N la) (hh : ∀ j, j ≤ t → -2147483648 < (q.1 j).toInt) (ht : t < 2 ^ 20) (h : post (mvS N (agoS la kd ob) q.1 t q.2.2.1) σ) : wp_X0_move o th ru post σ := by
  obtain ⟨t1, t2, t3, t4, t5, t6⟩ := hT
  obtain ⟨r1, r2, r3, r4⟩ := hR
  have hB' := hB
  obtain ⟨b1, b2, b3, b4, b5, b6⟩ := hB'
  unfold wp_X0_move
  rw [e_seenLater]
  have eago : (if σ 2 th 0 = 3 then σ 2 th 1 else 0) = nI (if kd = 3 then ob else 0) := by
    rw [t1, t2, t4]
    split <;> rfl
  have ele : (if kd = 3 then ob else 0) ≤ 9 := by split <;> omega
  have e1 : σ 13 o 4 - σ 6 ru 2 - (if σ 2 th 0 = 3 then σ 2 th 1 else 0) = nI t - nI (agoS la kd ob) := by
    rw [eago, b1, r1 2 (by decide), r2, ii_subsub, nI_add, agoS]
  have e2 : σ 13 o 4 - σ 6 ru 2 - (if σ 2 th 0 = 3 then σ 2 th 1 else 0) - 1 = nI t - nI (agoS la kd ob + 1) := by
    rw [e1, ii_subsub, nI_succ]
  have hago : agoS la kd ob ≤ 15 := by unfold agoS; omega
  refine sp_was hB (d := agoS la kd ob) (by omega) (by omega) e1 ?_
  refine sp_was hB (d := agoS la kd ob + 1) (by omega) (by omega) e2 ?_
  have hd : 0 ≤ (σ 6 ru 4).toInt := by rw [r1 4 (by decide)]; exact r4.dead
  rw [e_wish hd (hh _ (by omega)), e_limited, b4, r1 5 (by decide), mind_congr r1]
  exact h
theorem par_C {t : Nat} (ht : t < 2 ^ 30) : (nI t - nI t / 2 * 2 = 0) ↔ t % 2 = 0 := by
  have e := pk_rem (a := t) (d := 2) (by omega) (by decide) (by decide)
  have e2 : nI t - nI t / 2 * 2 = nI (t % 2) := e
  rw [e2]
  have h2 : t % 2 < 2 := Nat.mod_lt _ (by decide)
  constructor
  · intro h
    have := (nI_eq (a := t % 2) (b := 0) (by omega) (by decide)).mp h
    exact this
  · intro h
    rw [h]; rfl
theorem sp_tickC {σ : St} {o th ru t la ob : Nat} {q : Q4} {N : Nat → Int32} {kd own lg x3 gu : Int32} {mi : Bool} {post : St → Prop} (hB : Bal σ o t q) (hT : ThC σ th kd own lg ob) (hR : RuC σ ru N la) (hh : ∀ j, j ≤ t → -2147483648 < (q.1 j).toInt) (ht : t < 2 ^ 20) (hmi : x3 = bi (mi = true)) (h : ∀ σ', offB o σ σ' → σ' 13 o 0 = σ 13 o 0 → Bal σ' o (t + 1) (stepS N kd own lg (agoS la kd ob) mi gu t q) → post σ') : wp_X0_tick o th ru x3 gu post σ := by
  have hT' := hT
  have hR' := hR
  obtain ⟨t1, t2, t3, t4, t5, t6⟩ := hT'
  obtain ⟨r1, r2, r3, r4⟩ := hR'
  have hB' := hB
  obtain ⟨b1, b2, b3, b4, b5, b6⟩ := hB'
  -- the last block, for any M
  have key : ∀ m : Int32, m = mS N (agoS la kd ob) mi t q → wp_X0_tick_47 o th ru x3 gu post (pullS N t) o m σ := by
    intro m hm
    unfold wp_X0_tick_47
    have hl : 0 < (su σ 13 o 5 m) 2 th 3 := by rw [su_nc rfl, t3]; exact t6
    rw [e_leaning hl]
    have e31 : (31 : Int32).toBitVec.toNat = 2 ^ 5 - 1 := by decide
    have et : (su σ 13 o 5 m) 13 o 4 + 1 = nI (t + 1) := by rw [su_nk rfl, b1, nI_1]
    have ea := pk_andN (n := t + 1) (by omega) 5 e31
    have hlt : (t + 1) % 2 ^ 5 < 32 := Nat.mod_lt _ (by decide)
    rw [et, ea]
    refine ⟨vp_in_nI hlt (by decide), ?_⟩
    rw [nI_clamp (by omega)]
    have ev : σ 13 o 2 + ((leanS ((su σ 13 o 5 m) 2 th 0) ((su σ 13 o 5 m) 2 th 1) ((su σ 13 o 5 m) 2 th 3) (σ 13 o 1) (σ 13 o 2) (pullS N t) + (su σ 13 o 5 m) 6 ru 8) + gu) = vS N kd own lg gu t q := by
      rw [su_nc rfl, su_nc rfl, su_nc rfl, su_nc rfl, t1, t2, t3, b2, b3, r1 8 (by decide)]
      rfl
    rw [ev, su_eq, su_nk rfl, su_nk rfl, b2, b4, hm]
    refine h _ ?_ ?_ ?_
    · intro c o' k hn
      have h1 : ¬ (c = 13 ∧ o' = o) := fun z => hn ⟨Or.inl z.1, z.2⟩
      have h2 : ¬ (c = 14 ∧ o' = o) := fun z => hn ⟨Or.inr z.1, z.2⟩
      rw [su_ne h2, su_ne h1, su_ne h1, su_ne h1, su_ne h1, su_ne h1]
    · rw [su_nc rfl, su_nk rfl, su_nk rfl, su_nk rfl, su_nk rfl, su_nk rfl]
    · refine ⟨?_, ?_, ?_, ?_, ?_, ?_⟩
      · rw [su_nc rfl, su_eq]
      · rw [su_nc rfl, su_nk rfl, su_nk rfl, su_eq]
        simp [stepS, upd]
      · rw [su_nc rfl, su_nk rfl, su_nk rfl, su_nk rfl, su_eq]
        rfl
      · rw [su_nc rfl, su_nk rfl, su_eq]
        rfl
      · rw [su_nc rfl, su_nk rfl, su_nk rfl, su_nk rfl, su_nk rfl, su_eq]
        rfl
      · intro j hj1 hj2
        by_cases hj : j = t + 1
        · subst hj
          rw [show (t + 1) % 32 = (t + 1) % 2 ^ 5 from rfl, su_eq]
          simp [stepS, upd]
        · have hne : ¬ j % 32 = (t + 1) % 2 ^ 5 := by
            intro z
            have : j % 32 = (t + 1) % 32 := z
            omega
          have e1 : ∀ τ : St, ∀ x : Int32, su τ 14 o ((t + 1) % 2 ^ 5) x 14 o (j % 32) = τ 14 o (j % 32) := by
            intro τ x
            simp [su, hne]
          rw [e1, su_nc rfl, su_nc rfl, su_nc rfl, su_nc rfl, su_nc rfl, b6 j (by omega) (by omega)]
          simp [stepS, upd, hj]
  have k30 : wp_X0_tick_30 o th ru x3 gu post (pullS N t) σ := by
    unfold wp_X0_tick_30
    refine ⟨fun hz => key 0 ?_, fun hz => sp_moveC hB hT hR hh ht (key _ ?_)⟩
    · rw [hmi, bi_0] at hz
      simp [mS, hz]
    · rw [hmi, bi_1] at hz
      simp [mS, hz]
  unfold wp_X0_tick
  rw [b1, par_C (by omega), r1 6 (by decide), r1 9 (by decide)]
  refine ⟨fun hz => ?_, fun hz => ?_⟩
  · have : pullS N t = N 6 - N 9 := if_neg hz
    rw [← this]; exact k30
  · have : pullS N t = N 6 + N 9 := if_pos hz
    rw [← this]; exact k30
