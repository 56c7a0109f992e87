/-! TEXT: numbers -/
theorem ex_all {B : Nat → Int32} {k : Nat} : ∀ n b i, b ≤ i → i < exS B k n b → sortS (B i) = k
  | 0, b, i, h1, h2 => by
    rw [exS] at h2
    omega
  | n + 1, b, i, h1, h2 => by
    rw [exS] at h2
    by_cases z : sortS (B b) = k
    · rw [if_pos z] at h2
      by_cases e : i = b
      · rw [e]; exact z
      · exact ex_all n (b + 1) i (by omega) h2
    · rw [if_neg z] at h2
      omega
theorem digits_all {B : Nat → Int32} {len f i : Nat} (hk : kiS B len f = 2) (h1 : f ≤ i) (h2 : i < enS B len f) : f < len ∧ sortS (B i) = 2 := by
  unfold kiS at hk
  by_cases hl : f < len
  · rw [if_pos hl] at hk
    refine ⟨hl, ?_⟩
    by_cases e : i = f
    · rw [e]; exact hk
    · unfold enS at h2
      rw [if_pos hl, hk, if_neg (by decide)] at h2
      exact ex_all _ _ i (by omega) h2
  · rw [if_neg hl] at hk
    exact absurd hk (by decide)
def dS (B : Nat → Int32) (i : Nat) : Nat := (B i).toInt.toNat - 48
theorem dS_ok {B : Nat → Int32} {i : Nat} (h : sortS (B i) = 2) : B i = nI (48 + dS B i) ∧ dS B i ≤ 9 := by
  unfold sortS at h
  split at h
  · exact absurd h (by decide)
  · split at h
    · rename_i g
      obtain ⟨a, b⟩ := g
      rw [fa_lt, show (48 : Int32).toInt = 48 by decide] at a
      rw [fa_lt, show (57 : Int32).toInt = 57 by decide] at b
      have hd : 48 + dS B i < 2 ^ 31 := by unfold dS; omega
      refine ⟨?_, ?_⟩
      · rw [fa_eq, nI_toInt hd]
        unfold dS
        omega
      · unfold dS
        omega
    · exact absurd h (by decide)
def vlN (B : Nat → Int32) (f : Nat) : Nat → Nat
  | 0 => 0
  | n + 1 => 10 * vlN B f n + dS B (f + n)
theorem vlN_lt {B : Nat → Int32} {f : Nat} : ∀ n, (∀ i, f ≤ i → i < f + n → dS B i ≤ 9) → vlN B f n < 10 ^ n
  | 0, _ => by rw [vlN]; decide
  | n + 1, h => by
    have h1 := vlN_lt n (fun i a b => h i a (by omega))
    have h2 := h (f + n) (by omega) (by omega)
    rw [vlN, Nat.pow_succ]
    omega
def nuS (B : Nat → Int32) (len f : Nat) : Option Nat := if kiS B len f = 2 ∧ enS B len f - f ≤ 3 then some (vlN B f (enS B len f - f)) else none
theorem nuS_lt {B : Nat → Int32} {len f v : Nat} (h : nuS B len f = some v) : v < 1000 := by
  unfold nuS at h
  by_cases z : kiS B len f = 2 ∧ enS B len f - f ≤ 3
  · rw [if_pos z] at h
    have e := Option.some.inj h
    rw [← e]
    have := vlN_lt (B := B) (f := f) (enS B len f - f) (fun i a b => (dS_ok (digits_all z.1 a (by omega)).2).2)
    exact Nat.lt_of_lt_of_le this (Nat.le_trans (Nat.pow_le_pow_right (by decide) z.2) (by decide))
  · rw [if_neg z] at h
    exact absurd h (by simp)
theorem digit_add {v d : Nat} {x : Int32} (hx : x = nI (48 + d)) : 10 * nI v + x - 48 = nI (10 * v + d) := by
  rw [hx, show (10 : Int32) = nI 10 from rfl, show (48 : Int32) = nI 48 from rfl, pk_mul, nI_add, nI_sub_pos (by omega)]
  congr 1
  omega
theorem sp_numberC {σ : St} {B : Nat → Int32} {len f : Nat} {post : Int32 → St → Prop} (hX : TxC σ B len) (hT : TkC σ B len f) (h : post (opN (nuS B len f)) σ) : wp_X5_number post σ := by
  obtain ⟨t1, t2, t3, t4⟩ := hT
  have hlen := hX.2.1
  have he := enS_le (B := B) t1
  have hk : kiS B len f ≤ 3 := by
    unfold kiS
    have := sortS_le (B f)
    split <;> omega
  unfold wp_X5_number wp_X5_number_21
  rw [t2, t3, t4, show (nI (kiS B len f) = 2 ↔ kiS B len f = 2) from nI_eq (b := 2) (by omega) (by decide), nI_sub_pos he.1, show (nI (enS B len f - f) ≤ 3 ↔ enS B len f - f ≤ 3) from nI_leI (b := 3) (by omega) (by decide)]
  unfold nuS at h
  refine ⟨fun z => ?_, fun z => ⟨fun y => ?_, fun y => ?_⟩⟩
  · rw [if_neg (fun q => z q.1)] at h; exact h
  · rw [if_pos ⟨z, y⟩] at h
    have loop : ∀ n m, f + m + n = enS B len f → wp_X5_number_30 post (n + 1) (nI (vlN B f m)) (nI (f + m)) σ := by
      intro n
      induction n with
      | zero =>
        intro m e
        unfold wp_X5_number_30
        rw [t4]
        refine ⟨fun _ => ?_, fun hc => absurd (nI_le (show enS B len f ≤ f + m by omega) (by omega)) hc⟩
        rw [show m = enS B len f - f by omega]
        exact h
      | succ n ih =>
        intro m e
        unfold wp_X5_number_30
        have hd := digits_all z (i := f + m) (by omega) (by omega)
        have hdd := dS_ok hd.2
        rw [t4, nI_clamp (by omega), hX.2.2 (f + m) (by omega), digit_add hdd.1, nI_1]
        refine ⟨fun hc => absurd hc (nI_ge (a := f + m) (b := enS B len f) (by omega) (by omega)), fun _ => ⟨pk_in (f + m) 200 (by omega), ?_⟩⟩
        exact ih (m + 1) (by omega)
    exact ⟨_, loop (enS B len f - f) 0 (by omega)⟩
  · rw [if_neg (fun q => y q.2)] at h; exact h
/-- a number from lo to hi, and where the next token is -/
def rdS (B : Nat → Int32) (len f lo hi : Nat) : Option (Nat × Nat) := match nuS B len f with
  | none => none
  | some v => if lo ≤ v ∧ v ≤ hi then some (v, frS B len (enS B len f)) else none
def offU (σ σ' : St) : Prop := ∀ c o k, ¬ ((c = 7 ∧ (k = 5 ∨ (8 ≤ k ∧ k ≤ 10))) ∨ c = 10) → σ' c o k = σ c o k
theorem offU.rf {a : St} : offU a a := fun _ _ _ _ => rfl
theorem offU.trans {a b c : St} (h1 : offU a b) (h2 : offU b c) : offU a c := fun x y z h => (h2 x y z h).trans (h1 x y z h)
theorem offTk.U {a b : St} (h : offTk a b) : offU a b := fun c o k hc => h c o k (by omega)
theorem TxC.offU {σ σ' : St} {B : Nat → Int32} {len : Nat} (h : TxC σ B len) (ho : offU σ σ') : TxC σ' B len := by
  obtain ⟨a, b, c⟩ := h
  exact ⟨(ho 7 0 1 (by omega)).trans a, b, fun i hi => (ho 8 0 i (by omega)).trans (c i hi)⟩
/-- n is what is filled: it is set to v, and then stands one on -/
def StC (σ σ' : St) (n : Nat) (v : Int32) : Prop := offU σ σ' ∧ σ' 7 0 5 = nI (n + 1) ∧ σ' 10 0 n = v ∧ ∀ k, ¬ k = n → σ' 10 0 k = σ 10 0 k
theorem sp_storeC {σ : St} {n : Nat} {x : Int32} {post : St → Prop} (hn : n < 40) (h5 : σ 7 0 5 = nI n) (h : ∀ σ', StC σ σ' n x → (∀ k, ¬ k = 5 → σ' 7 0 k = σ 7 0 k) → post σ') : wp_X5_store x post σ := by
  unfold wp_X5_store wp_X5_store_32
  rw [h5, nI_clamp (by omega), nI_1]
  refine ⟨fun hc => absurd hc (nI_ge (a := n) (b := 40) hn (by decide)), fun _ => ⟨pk_in n 40 hn, ?_⟩⟩
  refine h _ ⟨?_, su_eq, (su_nc rfl).trans su_eq, fun k hk => (su_nc rfl).trans (su_nk' hk)⟩ (fun k hk => (su_nk' hk).trans (su_nc rfl))
  intro c o k hc
  unfold su
  rw [if_neg (by omega), if_neg (by omega)]
theorem sp_readNumberC {σ : St} {B : Nat → Int32} {len f n lo hi : Nat} {x1 x2 : Int32} {post : Int32 → St → Prop} (hX : TxC σ B len) (hT : TkC σ B len f) (hn : n < 40) (h5 : σ 7 0 5 = nI n) (hlo : lo < 1000) (hhi : hi < 1000) (h1 : x1 = nI lo) (h2 : x2 = nI hi) (hno : rdS B len f lo hi = none → post 0 σ) (hyes : ∀ v g σ', rdS B len f lo hi = some (v, g) → StC σ σ' n (nI v) → TkC σ' B len g → post 1 σ') : wp_X5_readNumber x1 x2 post σ := by
  subst h1; subst h2
  unfold wp_X5_readNumber wp_X5_readNumber_19
  refine sp_numberC hX hT ?_
  unfold rdS at hno hyes
  cases hv : nuS B len f with
  | none =>
    rw [hv] at hno
    exact ⟨fun _ => hno rfl, fun hc => absurd rfl hc⟩
  | some v =>
    have hvl := nuS_lt hv
    rw [hv] at hno hyes
    dsimp only at hno hyes
    refine ⟨fun hc => absurd hc (nI_m1 (by omega)), fun _ => ?_⟩
    rw [e_within]
    have eb : (nI lo ≤ opN (some v) ∧ opN (some v) ≤ nI hi) ↔ (lo ≤ v ∧ v ≤ hi) := by
      show (nI lo ≤ nI v ∧ nI v ≤ nI hi) ↔ _
      rw [nI_leI (by omega) (by omega), nI_leI (by omega) (by omega)]
    refine ⟨fun hc => ?_, fun hc => ?_⟩
    · have hin := eb.mp (bi_1.mp hc)
      rw [if_pos hin] at hyes
      refine sp_storeC hn h5 (fun σ2 hs h7 => ?_)
      refine sp_tokenC (hX.offU hs.1) (enS_le (B := B) hT.1).2.1 ((h7 10 (by decide)).trans hT.2.2.2) (fun σ3 o3 t3 => ?_)
      refine hyes v _ σ3 rfl ⟨hs.1.trans o3.U, (o3 7 0 5 (by omega)).trans hs.2.1, (o3 10 0 n (by omega)).trans hs.2.2.1, fun k hk => (o3 10 0 k (by omega)).trans (hs.2.2.2 k hk)⟩ t3
    · have hin : ¬ (lo ≤ v ∧ v ≤ hi) := fun z => bi_0.mp hc (eb.mpr z)
      rw [if_neg hin] at hno
      exact hno rfl
