/-! TEXT: which word a token is -/
def wB (B : Nat → Int32) (len f o : Nat) : Bool := isW B (wC o) (sLen.getD o 0) f (enS B len f)
theorem sp_wordC {σ : St} {B : Nat → Int32} {len f o : Nat} {post : Int32 → St → Prop} (hX : TxC σ B len) (hT : TkC σ B len f) (ho : o < 13) (h0 : wB B len f o = false → post 0 σ) (h1 : wB B len f o = true → post 1 σ) : wp_X5_says o post σ := by
  obtain ⟨w1, w2⟩ := words_first o ho
  refine sp_saysC hX hT w2 w1 ?_
  cases hb : wB B len f o with
  | false =>
    have hb' : isW B (wC o) (sLen.getD o 0) f (enS B len f) = false := hb
    rw [bi_f (by rw [hb']; decide)]
    exact h0 hb
  | true =>
    have hb' : isW B (wC o) (sLen.getD o 0) f (enS B len f) = true := hb
    rw [bi_t hb']
    exact h1 hb
theorem sp_wordM {μ : St} {B : Nat → Int32} {len f o n : Nat} {x : Int64} {x3 : Int32} {post : Int32 → St → Prop} (hX : TxM μ B len) (hT : TkM μ B len f) (hn : sLen.getD o 0 = n) (hn7 : n ≤ 7) (hx3 : x3 = nI n) (hw : ∀ i, i < n → wM x i = wC o i) (h0 : wB B len f o = false → post 0 μ) (h1 : wB B len f o = true → post 1 μ) : wp_X9_isWord x x3 post μ := by
  refine sp_isWordM hX hT hn7 hx3 ?_
  rw [isW_cong hw]
  unfold wB at h0 h1
  rw [hn] at h0 h1
  cases hb : isW B (wC o) n f (enS B len f) with
  | false =>
    rw [bi_f (by decide)]
    exact h0 hb
  | true =>
    rw [bi_t rfl]
    exact h1 hb
def wdS (B : Nat → Int32) (len f : Nat) : Option Nat :=
  if wB B len f 0 = true then some 0 else if wB B len f 5 = true then some 1 else if wB B len f 6 = true then some 2 else if wB B len f 7 = true then some 3 else if wB B len f 8 = true then some 4 else if wB B len f 9 = true then some 5 else if wB B len f 10 = true then some 6 else if wB B len f 11 = true then some 7 else if wB B len f 12 = true then some 8 else none
def kdS (B : Nat → Int32) (len f : Nat) : Option Nat :=
  if wB B len f 1 = true then some 0 else if wB B len f 2 = true then some 1 else if wB B len f 3 = true then some 2 else if wB B len f 4 = true then some 3 else none
theorem fne {b : Bool} (h : b = false) : ¬ b = true := by rw [h]; decide
theorem kdS_lt {B : Nat → Int32} {len f k : Nat} (h : kdS B len f = some k) : k < 4 := by
  unfold kdS at h
  split at h
  · have := Option.some.inj h; omega
  · split at h
    · have := Option.some.inj h; omega
    · split at h
      · have := Option.some.inj h; omega
      · split at h
        · have := Option.some.inj h; omega
        · exact absurd h (by simp)
theorem sp_kindC {σ : St} {B : Nat → Int32} {len f : Nat} {post : Int32 → St → Prop} (hX : TxC σ B len) (hT : TkC σ B len f) (h : post (opN (kdS B len f)) σ) : wp_X5_kindNamed post σ := by
  unfold wp_X5_kindNamed wp_X5_kindNamed_47
  unfold kdS at h
  refine sp_wordC hX hT (by decide) (fun a => ⟨fun _ => ?_, fun z => absurd rfl z⟩) (fun a => ⟨fun z => absurd z (by decide), fun _ => ?_⟩)
  · rw [if_neg (fne a)] at h
    refine sp_wordC hX hT (by decide) (fun a => ⟨fun _ => ?_, fun z => absurd rfl z⟩) (fun a => ⟨fun z => absurd z (by decide), fun _ => ?_⟩)
    · rw [if_neg (fne a)] at h
      refine sp_wordC hX hT (by decide) (fun a => ⟨fun _ => ?_, fun z => absurd rfl z⟩) (fun a => ⟨fun z => absurd z (by decide), fun _ => ?_⟩)
      · rw [if_neg (fne a)] at h
        refine sp_wordC hX hT (by decide) (fun a => ⟨fun _ => ?_, fun z => absurd rfl z⟩) (fun a => ⟨fun z => absurd z (by decide), fun _ => ?_⟩)
        · rw [if_neg (fne a)] at h; exact h
        · rw [if_pos a] at h; exact h
      · rw [if_pos a] at h; exact h
    · rw [if_pos a] at h; exact h
  · rw [if_pos a] at h; exact h
theorem sp_wordOfM {μ : St} {B : Nat → Int32} {len f : Nat} {post : Int32 → St → Prop} (hX : TxM μ B len) (hT : TkM μ B len f) (h : post (opN (wdS B len f)) μ) : wp_X9_wordOf post μ := by
  obtain ⟨s0, s5, s6, s7, s8, s9, s10, s11, s12, -⟩ := words_same
  unfold wp_X9_wordOf wp_X9_wordOf_139
  unfold wdS at h
  refine sp_wordM (o := 0) (n := 5) hX hT rfl (by decide) rfl s0 (fun a => ⟨fun _ => ?_, fun z => absurd rfl z⟩) (fun a => ⟨fun z => absurd z (by decide), fun _ => ?_⟩)
  · rw [if_neg (fne a)] at h
    refine sp_wordM (o := 5) (n := 4) hX hT rfl (by decide) rfl s5 (fun a => ⟨fun _ => ?_, fun z => absurd rfl z⟩) (fun a => ⟨fun z => absurd z (by decide), fun _ => ?_⟩)
    · rw [if_neg (fne a)] at h
      refine sp_wordM (o := 6) (n := 4) hX hT rfl (by decide) rfl s6 (fun a => ⟨fun _ => ?_, fun z => absurd rfl z⟩) (fun a => ⟨fun z => absurd z (by decide), fun _ => ?_⟩)
      · rw [if_neg (fne a)] at h
        refine sp_wordM (o := 7) (n := 3) hX hT rfl (by decide) rfl s7 (fun a => ⟨fun _ => ?_, fun z => absurd rfl z⟩) (fun a => ⟨fun z => absurd z (by decide), fun _ => ?_⟩)
        · rw [if_neg (fne a)] at h
          refine sp_wordM (o := 8) (n := 5) hX hT rfl (by decide) rfl s8 (fun a => ⟨fun _ => ?_, fun z => absurd rfl z⟩) (fun a => ⟨fun z => absurd z (by decide), fun _ => ?_⟩)
          · rw [if_neg (fne a)] at h
            refine sp_wordM (o := 9) (n := 4) hX hT rfl (by decide) rfl s9 (fun a => ⟨fun _ => ?_, fun z => absurd rfl z⟩) (fun a => ⟨fun z => absurd z (by decide), fun _ => ?_⟩)
            · rw [if_neg (fne a)] at h
              refine sp_wordM (o := 10) (n := 5) hX hT rfl (by decide) rfl s10 (fun a => ⟨fun _ => ?_, fun z => absurd rfl z⟩) (fun a => ⟨fun z => absurd z (by decide), fun _ => ?_⟩)
              · rw [if_neg (fne a)] at h
                refine sp_wordM (o := 11) (n := 4) hX hT rfl (by decide) rfl s11 (fun a => ⟨fun _ => ?_, fun z => absurd rfl z⟩) (fun a => ⟨fun z => absurd z (by decide), fun _ => ?_⟩)
                · rw [if_neg (fne a)] at h
                  refine sp_wordM (o := 12) (n := 5) hX hT rfl (by decide) rfl s12 (fun a => ⟨fun _ => ?_, fun z => absurd rfl z⟩) (fun a => ⟨fun z => absurd z (by decide), fun _ => ?_⟩)
                  · rw [if_neg (fne a)] at h; exact h
                  · rw [if_pos a] at h; exact h
                · rw [if_pos a] at h; exact h
              · rw [if_pos a] at h; exact h
            · rw [if_pos a] at h; exact h
          · rw [if_pos a] at h; exact h
        · rw [if_pos a] at h; exact h
      · rw [if_pos a] at h; exact h
    · rw [if_pos a] at h; exact h
  · rw [if_pos a] at h; exact h
/-- numbers in a row; where the first that is none stands, or the numbers and the next token -/
def rdL (B : Nat → Int32) (len : Nat) : List (Nat × Nat) → Nat → Nat ⊕ (List Nat × Nat)
  | [], f => .inr ([], f)
  | r :: rs, f => match rdS B len f r.1 r.2 with
    | none => .inl f
    | some p => match rdL B len rs p.2 with
      | .inl q => .inl q
      | .inr z => .inr (p.1 :: z.1, z.2)
def nxS (B : Nat → Int32) (len f : Nat) : Nat := frS B len (enS B len f)
/-- the row of ranges of the numbers' words -/
def raS (w : Nat) : List (Nat × Nat) := if w = 3 then [(0, 40), (0, 40), (0, 6), (1, 99), (0, 99)] else if w = 4 then [(0, 999)] else if w = 5 then [(1, 99)] else if w = 6 then [(1, 999)] else if w = 7 then [(0, 20)] else [(0, 99)]
/-- a line from f on: where its fault is; or its word, its numbers, the next token -/
def lnS (B : Nat → Int32) (len : Nat) (C : Nat → Nat) (f : Nat) : Nat ⊕ (Nat × List Nat × Nat) := match wdS B len f with
  | none => .inl f
  | some w => if w = 0 then (match rdS B len (nxS B len f) 0 3 with
      | none => .inl (nxS B len f)
      | some p => match kdS B len p.2 with
        | none => .inl p.2
        | some k => if k = 0 then .inr (0, [p.1, 0, 0], nxS B len p.2) else (match rdS B len (nxS B len p.2) 1 9 with
          | none => .inl (nxS B len p.2)
          | some q => .inr (0, [p.1, k, q.1], q.2)))
    else if w = 1 then (match rdS B len (nxS B len f) 0 3 with
      | none => .inl (nxS B len f)
      | some p => if C p.1 = 4 then .inl (nxS B len f) else (match rdL B len [(1, 300), (1, 99)] p.2 with
        | .inl q => .inl q
        | .inr z => .inr (1, p.1 :: z.1, z.2)))
    else if w = 2 then (match rdL B len [(0, 3)] (nxS B len f) with
      | .inl q => .inl q
      | .inr z => .inr (2, z.1, z.2))
    else (match rdL B len (raS w) (nxS B len f) with
      | .inl q => .inl q
      | .inr z => .inr (w, z.1, z.2))
