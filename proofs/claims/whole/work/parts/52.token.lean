/-! TEXT: tokens, on both sides -/
def sortS (x : Int32) : Nat := if ¬ x < 97 ∧ ¬ 122 < x then 1 else if ¬ x < 48 ∧ ¬ 57 < x then 2 else 3
theorem sortS_le (x : Int32) : 1 ≤ sortS x ∧ sortS x ≤ 3 := by
  unfold sortS
  split
  · omega
  · split <;> omega
theorem sp_sortC {σ : St} {x : Int32} {post : Int32 → St → Prop} (h : post (nI (sortS x)) σ) : wp_X5_sort x post σ := by
  unfold wp_X5_sort wp_X5_sort_14 wp_X5_sort_30 wp_X5_sort_31
  unfold sortS at h
  by_cases a : x < 97
  · rw [if_neg (fun z => z.1 a)] at h
    refine ⟨fun _ => ⟨fun b => ?_, fun b => ⟨fun c => ?_, fun c => ?_⟩⟩, fun z => absurd a z⟩
    · rw [if_neg (fun z => z.1 b)] at h; exact h
    · rw [if_neg (fun z => z.2 c)] at h; exact h
    · rw [if_pos ⟨b, c⟩] at h; exact h
  · by_cases d : 122 < x
    · rw [if_neg (fun z => z.2 d)] at h
      refine ⟨fun z => absurd z a, fun _ => ⟨fun _ => ⟨fun b => ?_, fun b => ⟨fun c => ?_, fun c => ?_⟩⟩, fun z => absurd d z⟩⟩
      · rw [if_neg (fun z => z.1 b)] at h; exact h
      · rw [if_neg (fun z => z.2 c)] at h; exact h
      · rw [if_pos ⟨b, c⟩] at h; exact h
    · rw [if_pos ⟨a, d⟩] at h
      exact ⟨fun z => absurd z a, fun _ => ⟨fun z => absurd z d, fun _ => h⟩⟩
def sort0 (x : Int32) : Nat := if sortS x = 3 then 0 else sortS x
theorem sp_sortM {μ : St} {x : Int32} {post : Int32 → St → Prop} (h : post (nI (sort0 x)) μ) : wp_X9_sort x post μ := by
  unfold wp_X9_sort wp_X9_sort_16 wp_X9_sort_32 wp_X9_sort_33
  have low : ¬ (¬ x < 97 ∧ ¬ 122 < x) → (x < 48 → post 0 μ) ∧ (¬ x < 48 → (57 < x → post 0 μ) ∧ (¬ 57 < x → post 2 μ)) := by
    intro g
    refine ⟨fun b => ?_, fun b => ⟨fun c => ?_, fun c => ?_⟩⟩
    · have e : sortS x = 3 := by unfold sortS; rw [if_neg g, if_neg (fun z => z.1 b)]
      unfold sort0 at h
      rw [if_pos e] at h
      exact h
    · have e : sortS x = 3 := by unfold sortS; rw [if_neg g, if_neg (fun z => z.2 c)]
      unfold sort0 at h
      rw [if_pos e] at h
      exact h
    · have e : sortS x = 2 := by unfold sortS; rw [if_neg g, if_pos ⟨b, c⟩]
      unfold sort0 at h
      rw [e, if_neg (by decide)] at h
      exact h
  by_cases a : x < 97
  · exact ⟨fun _ => low (fun z => z.1 a), fun z => absurd a z⟩
  · by_cases d : 122 < x
    · exact ⟨fun z => absurd z a, fun _ => ⟨fun _ => low (fun z => z.2 d), fun z => absurd d z⟩⟩
    · have e : sortS x = 1 := by unfold sortS; rw [if_pos ⟨a, d⟩]
      unfold sort0 at h
      rw [e, if_neg (by decide)] at h
      exact ⟨fun z => absurd z a, fun _ => ⟨fun z => absurd z d, fun _ => h⟩⟩
def skS (B : Nat → Int32) : Nat → Nat → Nat
  | 0, b => b
  | n + 1, b => if B b = 32 then skS B n (b + 1) else b
def exS (B : Nat → Int32) (k : Nat) : Nat → Nat → Nat
  | 0, b => b
  | n + 1, b => if sortS (B b) = k then exS B k n (b + 1) else b
theorem skS_le (B : Nat → Int32) : ∀ n b, b ≤ skS B n b ∧ skS B n b ≤ b + n
  | 0, b => ⟨Nat.le_refl b, Nat.le_refl b⟩
  | n + 1, b => by
    rw [skS]
    have := skS_le B n (b + 1)
    split <;> omega
theorem exS_le (B : Nat → Int32) (k : Nat) : ∀ n b, b ≤ exS B k n b ∧ exS B k n b ≤ b + n
  | 0, b => ⟨Nat.le_refl b, Nat.le_refl b⟩
  | n + 1, b => by
    rw [exS]
    have := exS_le B k n (b + 1)
    split <;> omega
def frS (B : Nat → Int32) (len b : Nat) : Nat := skS B (len - b) b
def kiS (B : Nat → Int32) (len f : Nat) : Nat := if f < len then sortS (B f) else 0
def enS (B : Nat → Int32) (len f : Nat) : Nat := if f < len then (if sortS (B f) = 3 then f + 1 else exS B (sortS (B f)) (len - (f + 1)) (f + 1)) else len
theorem frS_le {B : Nat → Int32} {len b : Nat} (h : b ≤ len) : b ≤ frS B len b ∧ frS B len b ≤ len := by
  have := skS_le B (len - b) b
  unfold frS
  omega
theorem enS_le {B : Nat → Int32} {len f : Nat} (h : f ≤ len) : f ≤ enS B len f ∧ enS B len f ≤ len ∧ (f < len → f < enS B len f) := by
  unfold enS
  by_cases hl : f < len
  · rw [if_pos hl]
    have := exS_le B (sortS (B f)) (len - (f + 1)) (f + 1)
    split <;> omega
  · rw [if_neg hl]
    omega
def TxC (σ : St) (B : Nat → Int32) (len : Nat) : Prop := σ 7 0 1 = nI len ∧ len ≤ 200 ∧ ∀ i, i < len → σ 8 0 i = B i
def TxM (μ : St) (B : Nat → Int32) (len : Nat) : Prop := μ 0 0 1 = nI len ∧ len ≤ 200 ∧ ∀ i, i < len → μ 1 0 i = B i
def TkC (σ : St) (B : Nat → Int32) (len f : Nat) : Prop := f ≤ len ∧ σ 7 0 8 = nI (kiS B len f) ∧ σ 7 0 9 = nI f ∧ σ 7 0 10 = nI (enS B len f)
def TkM (μ : St) (B : Nat → Int32) (len f : Nat) : Prop := f ≤ len ∧ μ 0 0 19 = nI f ∧ μ 0 0 20 = nI (enS B len f) ∧ μ 0 0 18 = nI (enS B len f)
def offTk (σ σ' : St) : Prop := ∀ c o k, ¬ (c = 7 ∧ 8 ≤ k ∧ k ≤ 10) → σ' c o k = σ c o k
def offSk (μ μ' : St) : Prop := ∀ c o k, ¬ (c = 0 ∧ 18 ≤ k ∧ k ≤ 20) → μ' c o k = μ c o k
theorem offTk.rf {a : St} : offTk a a := fun _ _ _ _ => rfl
theorem offTk.trans {a b c : St} (h1 : offTk a b) (h2 : offTk b c) : offTk a c := fun x y z h => (h2 x y z h).trans (h1 x y z h)
theorem offSk.rf {a : St} : offSk a a := fun _ _ _ _ => rfl
theorem offSk.trans {a b c : St} (h1 : offSk a b) (h2 : offSk b c) : offSk a c := fun x y z h => (h2 x y z h).trans (h1 x y z h)
theorem TxC.off {σ σ' : St} {B : Nat → Int32} {len : Nat} (h : TxC σ B len) (ho : offTk σ σ') : TxC σ' B len := by
  obtain ⟨a, b, c⟩ := h
  exact ⟨(ho 7 0 1 (by omega)).trans a, b, fun i hi => (ho 8 0 i (by omega)).trans (c i hi)⟩
theorem TxM.off {μ μ' : St} {B : Nat → Int32} {len : Nat} (h : TxM μ B len) (ho : offSk μ μ') : TxM μ' B len := by
  obtain ⟨a, b, c⟩ := h
  exact ⟨(ho 0 0 1 (by omega)).trans a, b, fun i hi => (ho 1 0 i (by omega)).trans (c i hi)⟩
theorem su_T {σ : St} {k : Nat} {v : Int32} (h : 8 ≤ k ∧ k ≤ 10) : offTk σ (su σ 7 0 k v) := by
  intro c o k' hc
  unfold su
  rw [if_neg (by omega)]
theorem su_S {σ : St} {k : Nat} {v : Int32} (h : 18 ≤ k ∧ k ≤ 20) : offSk σ (su σ 0 0 k v) := by
  intro c o k' hc
  unfold su
  rw [if_neg (by omega)]
theorem sp_tokenC {σ : St} {B : Nat → Int32} {len b : Nat} {post : St → Prop} (hX : TxC σ B len) (hb : b ≤ len) (h10 : σ 7 0 10 = nI b) (h : ∀ σ', offTk σ σ' → TkC σ' B len (frS B len b) → post σ') : wp_X5_readToken post σ := by
  have hf := frS_le (B := B) hb
  have he := enS_le (B := B) hf.2
  have hlen := hX.2.1
  have ext : ∀ n e σ1, e + n = len → offTk σ σ1 → σ1 7 0 8 = nI (sortS (B (frS B len b))) → σ1 7 0 9 = nI (frS B len b) → σ1 7 0 10 = nI e → frS B len b < len → enS B len (frS B len b) = exS B (sortS (B (frS B len b))) n e → wp_X5_readToken_110 post (n + 1) σ1 := by
    intro n
    induction n with
    | zero =>
      intro e σ1 en ho e8 e9 e10 hl hex
      have ee : e = len := by omega
      subst ee
      have hX1 := hX.off ho
      unfold wp_X5_readToken_110 wp_X5_readToken_153
      rw [hX1.1, e10]
      refine ⟨fun _ => h σ1 ho ⟨hf.2, ?_, e9, ?_⟩, fun hc => absurd (nI_le (Nat.le_refl e) (by omega)) hc⟩
      · rw [e8]; unfold kiS; rw [if_pos hl]
      · rw [e10, hex]; rfl
    | succ n ih =>
      intro e σ1 en ho e8 e9 e10 hl hex
      have hX1 := hX.off ho
      unfold wp_X5_readToken_110 wp_X5_readToken_153
      rw [hX1.1, e10, nI_clamp (by omega), hX1.2.2 e (by omega)]
      refine ⟨fun hc => absurd hc (nI_ge (a := e) (b := len) (by omega) (by omega)), fun _ => ⟨pk_in e 200 (by omega), ?_⟩⟩
      refine sp_sortC ?_
      rw [e8, e10, nI_1]
      have s1 := sortS_le (B e)
      have s2 := sortS_le (B (frS B len b))
      have e1 : nI (sortS (B e)) = nI (sortS (B (frS B len b))) ↔ sortS (B e) = sortS (B (frS B len b)) := nI_eq (by omega) (by omega)
      rw [e1]
      rw [exS] at hex
      refine ⟨fun hc => h σ1 ho ⟨hf.2, ?_, e9, ?_⟩, fun hc => ?_⟩
      · rw [e8]; unfold kiS; rw [if_pos hl]
      · rw [e10, hex, if_neg hc]
      · rw [if_pos hc] at hex
        exact ih (e + 1) _ (by omega) (ho.trans (su_T (by decide))) ((su_nk rfl).trans e8) ((su_nk rfl).trans e9) su_eq hl hex
  have fix : ∀ n f σ1, f + n = len → offTk σ σ1 → σ1 7 0 9 = nI f → frS B len b = skS B n f → wp_X5_readToken_8 post (n + 1) σ1 := by
    have mid : ∀ f σ1, f = frS B len b → offTk σ σ1 → σ1 7 0 9 = nI f → wp_X5_readToken_46 post σ1 := by
      intro f σ1 ef ho e9
      subst ef
      have hX1 := hX.off ho
      generalize hF : frS B len b = f at hf he ext e9 h
      unfold wp_X5_readToken_46
      rw [hX1.1, e9, nI_clamp (by omega), nI_leI (by omega) (by omega)]
      refine ⟨fun hc => ?_, fun hc => ⟨pk_in f 200 (by omega), ?_⟩⟩
      · unfold wp_X5_readToken_74 wp_X5_readToken_153
        rw [hX1.1, e9, nI_1]
        refine ⟨fun z => absurd z (by decide), fun _ => ⟨fun _ => ?_, fun z => absurd z (by decide)⟩⟩
        have el : nI len < nI (f + 1) := nI_lt (by omega) (by omega)
        rw [if_pos el]
        refine h _ (ho.trans ((su_T (by decide)).trans (su_T (by decide)))) ⟨hf.2, ?_, (su_nk rfl).trans ((su_nk rfl).trans e9), ?_⟩
        · rw [su_nk rfl, su_eq]; unfold kiS; rw [if_neg (by omega)]; rfl
        · rw [su_eq]; unfold enS; rw [if_neg (by omega)]
      · have hl : f < len := by omega
        rw [hX1.2.2 f hl]
        refine sp_sortC ?_
        unfold wp_X5_readToken_74 wp_X5_readToken_153
        rw [hX1.1, e9, nI_1]
        have el : ¬ nI len < nI (f + 1) := by
          rw [fa_lt, nI_toInt (by omega), nI_toInt (by omega)]
          omega
        rw [if_neg el]
        have s1 := sortS_le (B f)
        have z1 : nI (sortS (B f)) = 1 ↔ sortS (B f) = 1 := nI_eq (b := 1) (by omega) (by decide)
        have z2 : nI (sortS (B f)) = 2 ↔ sortS (B f) = 2 := nI_eq (b := 2) (by omega) (by decide)
        rw [z1, z2]
        have o2 : offTk σ (su (su σ1 7 0 8 (nI (sortS (B f)))) 7 0 10 (nI (f + 1))) := ho.trans ((su_T (by decide)).trans (su_T (by decide)))
        have more : ¬ sortS (B f) = 3 → ∃ nn, wp_X5_readToken_110 post nn (su (su σ1 7 0 8 (nI (sortS (B f)))) 7 0 10 (nI (f + 1))) := by
          intro h3
          refine ⟨_, ext (len - (f + 1)) (f + 1) _ (by omega) o2 ((su_nk rfl).trans su_eq) ((su_nk rfl).trans ((su_nk rfl).trans e9)) su_eq hl ?_⟩
          unfold enS
          rw [if_pos hl, if_neg h3]
        refine ⟨fun z => more (by omega), fun z => ⟨fun y => ?_, fun y => more (by omega)⟩⟩
        refine h _ o2 ⟨hf.2, ?_, (su_nk rfl).trans ((su_nk rfl).trans e9), ?_⟩
        · rw [su_nk rfl, su_eq]; unfold kiS; rw [if_pos hl]
        · rw [su_eq]; unfold enS; rw [if_pos hl, if_pos (by omega)]
    intro n
    induction n with
    | zero =>
      intro f σ1 en ho e9 hfr
      have ef : f = len := by omega
      have hX1 := hX.off ho
      unfold wp_X5_readToken_8
      rw [hX1.1, e9]
      refine ⟨fun _ => mid f σ1 hfr.symm ho e9, fun hc => ?_⟩
      rw [ef] at hc
      exact absurd (nI_le (Nat.le_refl len) (by omega)) hc
    | succ n ih =>
      intro f σ1 en ho e9 hfr
      have hX1 := hX.off ho
      unfold wp_X5_readToken_8
      rw [hX1.1, e9, nI_clamp (by omega), hX1.2.2 f (by omega), nI_1]
      rw [skS] at hfr
      refine ⟨fun hc => absurd hc (nI_ge (a := f) (b := len) (by omega) (by omega)), fun _ => ⟨pk_in f 200 (by omega), fun z => ?_, fun z => ?_⟩⟩
      · rw [if_neg z] at hfr
        exact mid f σ1 hfr.symm ho e9
      · rw [if_pos z] at hfr
        exact ih (f + 1) _ (by omega) (ho.trans (su_T (by decide))) su_eq hfr
  unfold wp_X5_readToken
  rw [h10]
  exact ⟨_, fix (len - b) b _ (by omega) (su_T (by decide)) su_eq rfl⟩
