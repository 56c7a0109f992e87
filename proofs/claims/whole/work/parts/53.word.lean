/-! TEXT: the reference's tokens; words -/
theorem sp_tokenM {μ : St} {B : Nat → Int32} {len b : Nat} {post : St → Prop} (hX : TxM μ B len) (hb : b ≤ len) (h18 : μ 0 0 18 = nI b) (h : ∀ μ', offSk μ μ' → TkM μ' B len (frS B len b) → post μ') : wp_X9_token post μ := by
  have hf := frS_le (B := B) hb
  have he := enS_le (B := B) hf.2
  have hlen := hX.2.1
  have fin : ∀ e μ1, offSk μ μ1 → μ1 0 0 19 = nI (frS B len b) → μ1 0 0 18 = nI e → e = enS B len (frS B len b) → wp_X9_token_137 post μ1 := by
    intro e μ1 ho e19 e18 hee
    unfold wp_X9_token_137
    refine h _ (ho.trans (su_S (by decide))) ⟨hf.2, (su_nk rfl).trans e19, ?_, (su_nk rfl).trans (e18.trans (by rw [hee]))⟩
    rw [su_eq, e18, hee]
  have ext : ∀ n e μ1, e + n = len → offSk μ μ1 → μ1 0 0 19 = nI (frS B len b) → μ1 0 0 18 = nI e → frS B len b < len → (sortS (B (frS B len b)) = 3 → e = frS B len b + 1) → (¬ sortS (B (frS B len b)) = 3 → enS B len (frS B len b) = exS B (sortS (B (frS B len b))) n e) → wp_X9_token_71 post (n + 1) μ1 := by
    intro n
    induction n with
    | zero =>
      intro e μ1 en ho e19 e18 hl h3 hex
      have hX1 := hX.off ho
      have hen : e = enS B len (frS B len b) := by
        by_cases z : sortS (B (frS B len b)) = 3
        · unfold enS
          rw [if_pos hl, if_pos z]
          exact h3 z
        · rw [hex z]; rfl
      unfold wp_X9_token_71
      rw [hX1.1, e18]
      refine ⟨fun _ => fin e μ1 ho e19 e18 hen, fun hc => ?_⟩
      rw [show e = len by omega] at hc
      exact absurd (nI_le (Nat.le_refl len) (by omega)) hc
    | succ n ih =>
      intro e μ1 en ho e19 e18 hl h3 hex
      have hX1 := hX.off ho
      unfold wp_X9_token_71
      rw [hX1.1, e18, e19, nI_clamp (by omega), hX1.2.2 _ hl]
      refine ⟨fun hc => absurd hc (nI_ge (a := e) (b := len) (by omega) (by omega)), fun _ => ⟨pk_in _ 200 (show frS B len b < 200 by omega), ?_⟩⟩
      refine sp_sortM ?_
      have s1 := sortS_le (B (frS B len b))
      have s2 := sortS_le (B e)
      refine ⟨fun hc => ?_, fun hc => ?_⟩
      · refine fin e μ1 ho e19 e18 ?_
        have z : sortS (B (frS B len b)) = 3 := by
          unfold sort0 at hc
          by_cases z : sortS (B (frS B len b)) = 3
          · exact z
          · rw [if_neg z] at hc
            exact absurd hc (nI_ge (a := 0) (b := sortS (B (frS B len b))) (by omega) (by omega))
        unfold enS
        rw [if_pos hl, if_pos z]
        exact h3 z
      · have z : ¬ sortS (B (frS B len b)) = 3 := by
          intro z
          apply hc
          unfold sort0
          rw [if_pos z]
          exact nI_le (Nat.le_refl 0) (by decide)
        rw [e18, nI_clamp (by omega), hX1.2.2 e (by omega)]
        refine ⟨pk_in e 200 (by omega), sp_sortM ?_⟩
        rw [e19, nI_clamp (by omega), hX1.2.2 _ hl]
        refine ⟨pk_in _ 200 (show frS B len b < 200 by omega), sp_sortM ?_⟩
        rw [e18, nI_1]
        have hex' := hex z
        rw [exS] at hex'
        have c1 : sort0 (B e) ≤ 3 := by unfold sort0; split <;> omega
        have c2 : sort0 (B (frS B len b)) ≤ 3 := by unfold sort0; split <;> omega
        have e1 : nI (sort0 (B e)) = nI (sort0 (B (frS B len b))) ↔ sortS (B e) = sortS (B (frS B len b)) := by
          rw [show (nI (sort0 (B e)) = nI (sort0 (B (frS B len b))) ↔ sort0 (B e) = sort0 (B (frS B len b))) from nI_eq (by omega) (by omega)]
          unfold sort0
          rw [if_neg z]
          split <;> omega
        rw [e1]
        refine ⟨fun y => ?_, fun y => ?_⟩
        · rw [if_neg y] at hex'
          exact fin e μ1 ho e19 e18 hex'.symm
        · rw [if_pos y] at hex'
          exact ih (e + 1) _ (by omega) (ho.trans (su_S (by decide))) ((su_nk rfl).trans e19) su_eq hl (fun q => absurd q z) (fun _ => hex')
  have mid : ∀ f μ1, f = frS B len b → offSk μ μ1 → μ1 0 0 18 = nI f → wp_X9_token_38 post μ1 := by
    intro f μ1 ef ho e18
    have hX1 := hX.off ho
    unfold wp_X9_token_38 wp_X9_token_67
    rw [hX1.1, e18, nI_leI (by omega) (by omega)]
    have o2 : ∀ v w, offSk μ (su (su μ1 0 0 19 v) 0 0 18 w) := fun v w => ho.trans ((su_S (by decide)).trans (su_S (by decide)))
    refine ⟨fun hc => ?_, fun hc => ?_⟩
    · refine ⟨1, ?_⟩
      have hl : f = len := by omega
      have hX2 := hX.off (o2 (nI f) (nI f + 0))
      unfold wp_X9_token_71
      have e0 : nI f + 0 = nI f := nI_add f 0
      rw [hX2.1, su_eq, e0]
      refine ⟨fun _ => fin f _ (o2 _ _) ?_ su_eq ?_, fun z => absurd (nI_le hc (by omega)) z⟩
      · rw [su_nk rfl, su_eq, ef]
      · unfold enS
        rw [if_neg (by omega), hl]
    · have hl : f < len := by omega
      rw [nI_1]
      refine ⟨_, ext (len - (f + 1)) (f + 1) _ (by omega) (o2 _ _) ?_ su_eq (by omega) (fun _ => by omega) (fun z => ?_)⟩
      · rw [su_nk rfl, su_eq, ef]
      · unfold enS
        rw [← ef] at z ⊢
        rw [if_pos hl, if_neg z]
  have fix : ∀ n f μ1, f + n = len → offSk μ μ1 → μ1 0 0 18 = nI f → frS B len b = skS B n f → wp_X9_token_0 post (n + 1) μ1 := by
    intro n
    induction n with
    | zero =>
      intro f μ1 en ho e18 hfr
      have hX1 := hX.off ho
      unfold wp_X9_token_0
      rw [hX1.1, e18]
      refine ⟨fun _ => mid f μ1 hfr.symm ho e18, fun hc => ?_⟩
      rw [show f = len by omega] at hc
      exact absurd (nI_le (Nat.le_refl len) (by omega)) hc
    | succ n ih =>
      intro f μ1 en ho e18 hfr
      have hX1 := hX.off ho
      unfold wp_X9_token_0
      rw [hX1.1, e18, nI_clamp (by omega), hX1.2.2 f (by omega), nI_1]
      rw [skS] at hfr
      refine ⟨fun hc => absurd hc (nI_ge (a := f) (b := len) (by omega) (by omega)), fun _ => ⟨pk_in f 200 (by omega), fun z => ?_, fun z => ?_⟩⟩
      · rw [if_neg z] at hfr
        exact mid f μ1 hfr.symm ho e18
      · rw [if_pos z] at hfr
        exact ih (f + 1) _ (by omega) (ho.trans (su_S (by decide))) su_eq hfr
  exact ⟨_, fix (len - b) b μ (by omega) offSk.rf h18 rfl⟩
/-- a word: its letters W, n of them; the token from f to e -/
def preB (B W : Nat → Int32) (f : Nat) : Nat → Bool
  | 0 => true
  | i + 1 => preB B W f i && decide (B (f + i) = W i)
theorem preB_mono {B W : Nat → Int32} {f : Nat} : ∀ d i, preB B W f i = false → preB B W f (i + d) = false
  | 0, _, h => h
  | d + 1, i, h => by
    rw [show i + (d + 1) = (i + d) + 1 by omega, preB, preB_mono d i h]
    rfl
def isW (B W : Nat → Int32) (n f e : Nat) : Bool := decide (e = f + n) && preB B W f n
def wC (o i : Nat) : Int32 := (sByt.getD o []).getD i 0 &&& 255
def wM (x : Int64) (i : Nat) : Int32 := 96 + (Int64.toInt32 ((x >>> (Int32.toInt64 (5 * nI i) &&& 63)) &&& 31))
theorem sp_saysC {σ : St} {B : Nat → Int32} {len f o : Nat} {post : Int32 → St → Prop} (hX : TxC σ B len) (hT : TkC σ B len f) (hn : 1 ≤ sLen.getD o 0 ∧ sLen.getD o 0 ≤ 7) (hw : sortS (wC o 0) = 1) (h : post (bi (isW B (wC o) (sLen.getD o 0) f (enS B len f) = true)) σ) : wp_X5_says o post σ := by
  obtain ⟨t1, t2, t3, t4⟩ := hT
  have hlen := hX.2.1
  have he := enS_le (B := B) t1
  unfold wp_X5_says wp_X5_says_24 wp_J0_length_8abf5
  generalize hN : sLen.getD o 0 = n at hn h ⊢
  dsimp only
  have hk : kiS B len f ≤ 3 := by
    unfold kiS
    have := sortS_le (B f)
    split <;> omega
  have k1 : nI (kiS B len f) = 1 ↔ kiS B len f = 1 := nI_eq (b := 1) (by omega) (by decide)
  rw [t2, t3, t4, k1, nI_sub_pos he.1, show (nI (enS B len f - f) = nI n ↔ enS B len f - f = n) from nI_eq (by omega) (by omega)]
  generalize enS B len f = e at h he ⊢
  have no : isW B (wC o) n f e = false → post 0 σ := fun z => by
    rw [bi_f (by rw [z]; decide)] at h
    exact h
  refine ⟨fun hc => no ?_, fun hc => ⟨fun hx => ?_, fun hx => no ?_⟩⟩
  · unfold isW
    by_cases hee : e = f + n
    · have hp : preB B (wC o) f 1 = false := by
        rw [preB, preB]
        have : ¬ B (f + 0) = wC o 0 := by
          intro z
          apply hc
          unfold kiS
          rw [if_pos (by omega)]
          rw [Nat.add_zero] at z
          rw [z]
          exact hw
        rw [decide_eq_false this]
        rfl
      have := preB_mono (n - 1) 1 hp
      rw [show 1 + (n - 1) = n by omega] at this
      rw [this, Bool.and_false]
    · rw [decide_eq_false hee]
      rfl
  · have hee : e = f + n := by omega
    have loop : ∀ m i, i + m = n → preB B (wC o) f i = true → wp_X5_says_28 o post (m + 1) (nI i) σ := by
      intro m
      induction m with
      | zero =>
        intro i ei hp
        have e1 : i = n := by omega
        unfold wp_X5_says_28 wp_J0_length_8abf5 wp_J0_charAt_5068e
        dsimp only
        rw [hN]
        refine ⟨fun _ => ?_, fun hc => ?_⟩
        · have : isW B (wC o) n f e = true := by
            unfold isW
            rw [decide_eq_true hee, ← e1, hp]
            rfl
          rw [bi_t this] at h
          exact h
        · rw [e1] at hc
          exact absurd (nI_le (Nat.le_refl n) (by omega)) hc
      | succ m ih =>
        intro i ei hp
        unfold wp_X5_says_28 wp_J0_length_8abf5 wp_J0_charAt_5068e
        dsimp only
        rw [hN, t3, nI_add, nI_clamp (by omega), nI_clamp (by omega), hX.2.2 (f + i) (by omega), nI_1]
        refine ⟨fun hc => absurd hc (nI_ge (a := i) (b := n) (by omega) (by omega)), fun _ => ⟨pk_in (f + i) 200 (by omega), pk_in i n (by omega), fun hc => ?_, fun hc => no ?_⟩⟩
        · refine ih (i + 1) (by omega) ?_
          rw [preB, hp, decide_eq_true (show B (f + i) = wC o i from hc)]
          rfl
        · unfold isW
          have hpf : preB B (wC o) f (i + 1) = false := by
            rw [preB, decide_eq_false (show ¬ B (f + i) = wC o i from hc), Bool.and_false]
          have := preB_mono (n - (i + 1)) (i + 1) hpf
          rw [show i + 1 + (n - (i + 1)) = n by omega] at this
          rw [this, Bool.and_false]
    exact ⟨_, loop n 0 (by omega) rfl⟩
  · unfold isW
    rw [decide_eq_false (by omega)]
    rfl
theorem sp_isWordM {μ : St} {B : Nat → Int32} {len f n : Nat} {x : Int64} {x3 : Int32} {post : Int32 → St → Prop} (hX : TxM μ B len) (hT : TkM μ B len f) (hn : n ≤ 7) (hx3 : x3 = nI n) (h : post (bi (isW B (wM x) n f (enS B len f) = true)) μ) : wp_X9_isWord x x3 post μ := by
  subst hx3
  obtain ⟨t1, t3, t4, -⟩ := hT
  have hlen := hX.2.1
  have he := enS_le (B := B) t1
  unfold wp_X9_isWord wp_X9_isWord_18
  rw [t3, t4, nI_sub_pos he.1, show (nI (enS B len f - f) = nI n ↔ enS B len f - f = n) from nI_eq (by omega) (by omega)]
  generalize enS B len f = e at h he ⊢
  have no : ∀ m i, isW B (wM x) n f e = false → wp_X9_isWord_23 x (nI n) post (m + 1) 0 (nI i) μ := by
    intro m i z
    rw [bi_f (by rw [z]; decide)] at h
    unfold wp_X9_isWord_23 wp_X9_isWord_76
    exact ⟨fun _ => ⟨bool0, h⟩, fun y => absurd rfl y⟩
  refine ⟨fun hc => ⟨1, no 0 0 ?_⟩, fun hc => ?_⟩
  · unfold isW
    rw [decide_eq_false (by omega)]
    rfl
  · have hee : e = f + n := by omega
    have loop : ∀ m i, i + m = n → preB B (wM x) f i = true → wp_X9_isWord_23 x (nI n) post (m + 1 + 1) 1 (nI i) μ := by
      intro m
      induction m with
      | zero =>
        intro i ei hp
        have e1 : i = n := by omega
        unfold wp_X9_isWord_23 wp_X9_isWord_76
        refine ⟨fun z => absurd z (by decide), fun _ => ⟨fun _ => ⟨bool1, ?_⟩, fun hc => ?_⟩⟩
        · have : isW B (wM x) n f e = true := by
            unfold isW
            rw [decide_eq_true hee, ← e1, hp]
            rfl
          rw [bi_t this] at h
          exact h
        · rw [e1] at hc
          exact absurd (nI_le (Nat.le_refl n) (by omega)) hc
      | succ m ih =>
        intro i ei hp
        unfold wp_X9_isWord_23 wp_X9_isWord_68
        rw [t3, nI_add, nI_clamp (by omega), hX.2.2 (f + i) (by omega), nI_1]
        refine ⟨fun z => absurd z (by decide), fun _ => ⟨fun hc => absurd hc (nI_ge (a := i) (b := n) (by omega) (by omega)), fun _ => ⟨pk_in (f + i) 200 (by omega), fun hc => no (m + 1) (i + 1) ?_, fun hc => ?_⟩⟩⟩
        · unfold isW
          have hpf : preB B (wM x) f (i + 1) = false := by
            rw [preB, decide_eq_false (show ¬ B (f + i) = wM x i from hc), Bool.and_false]
          have := preB_mono (n - (i + 1)) (i + 1) hpf
          rw [show i + 1 + (n - (i + 1)) = n by omega] at this
          rw [this, Bool.and_false]
        · refine ih (i + 1) (by omega) ?_
          rw [preB, hp, decide_eq_true (show B (f + i) = wM x i from hc)]
          rfl
    exact ⟨_, loop n 0 (by omega) rfl⟩
theorem isW_cong {B W V : Nat → Int32} {n f e : Nat} (h : ∀ i, i < n → W i = V i) : isW B W n f e = isW B V n f e := by
  unfold isW
  congr 1
  have : ∀ i, i ≤ n → preB B W f i = preB B V f i := by
    intro i
    induction i with
    | zero => intro _; rfl
    | succ i ih =>
      intro hi
      rw [preB, preB, ih (by omega), h i (by omega)]
  exact this n (Nat.le_refl n)
/-- the words of both sides are the same -/
theorem words_same : (∀ i, i < 5 → wM 7808276 i = wC 0 i) ∧ (∀ i, i < 4 → wM 538284 i = wC 5 i) ∧ (∀ i, i < 4 → wM 182306 i = wC 6 i) ∧ (∀ i, i < 3 → wM 14381 i = wC 7 i) ∧ (∀ i, i < 5 → wM 19381638 i = wC 8 i) ∧ (∀ i, i < 4 → wM 406192 i = wC 9 i) ∧ (∀ i, i < 5 → wM 4675042 i = wC 10 i) ∧ (∀ i, i < 4 → wM 145719 i = wC 11 i) ∧ (∀ i, i < 5 → wM 5604627 i = wC 12 i) ∧ (∀ i, i < 5 → wM 14976400 i = wC 1 i) ∧ (∀ i, i < 7 → wM 7995869876 i = wC 2 i) ∧ (∀ i, i < 3 → wM 20663 i = wC 3 i) ∧ (∀ i, i < 7 → wM 4484179434 i = wC 4 i) := by decide
theorem words_first : ∀ o, o < 13 → sortS (wC o 0) = 1 ∧ 1 ≤ sLen.getD o 0 ∧ sLen.getD o 0 ≤ 7 := by decide
