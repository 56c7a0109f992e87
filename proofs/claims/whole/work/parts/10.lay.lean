/-! the two worlds: kinds of cells, keys, what else holds -/
abbrev clA : List vw_C := [(RX0, TX0, 7), (RX1, TX1, 2), (RX2, TX2, 10), (RX3, TX3, 6), (RX4, TX4, 4), (RX5, TX5, 11), (RX6, TX6, 7), (RX7, TX7, 2), (RX8, TX8, 8), (RX9, TX9, 42)]
abbrev tyA (q : ClassId × ClassId × ClassId × ClassId) : List (ClassId × FieldType) := [(q.1, .int), (q.2.1, .object "OnChin$Thing"), (q.2.2.1, .object "OnChin$Balance"), (q.2.2.2, .boolean)]
def EC (q : ClassId × ClassId × ClassId × ClassId) (ad : Nat → Nat → Nat) (σ : St) : Nat → Nat → va_E := fun c o => match c with
  | 0 => .inr (8, [.ref (ad 1 0), .ref (ad 7 0), .ref (ad 13 0), .ref (ad 15 0), .ref (ad 16 0), .ref (ad 17 0), .ref (ad 19 0), .ref (ad 22 0)])
  | 1 => .inr (7, [.ref (ad 5 0), .ref (ad 6 0)])
  | 2 => .inr (6, [.int (σ 2 o 0), .int (σ 2 o 1), .int (σ 2 o 2), .int (σ 2 o 3), .int (σ 2 o 4), .ref (ad 3 o), .ref (ad 4 o)])
  | 3 => .inl (q.1, 4, .inl (fun i => σ 3 o i))
  | 4 => .inl (q.1, 4, .inl (fun i => σ 4 o i))
  | 5 => .inl (q.2.1, 4, .inr (.inr (.inr (.inr (fun i => some (ad 2 i))))))
  | 6 => .inl (q.1, 10, .inl (fun i => σ 6 o i))
  | 7 => .inr (5, [.ref (ad 8 0), .int (σ 7 o 1), .int (σ 7 o 2), .ref (ad 9 0), .ref (ad 10 0), .int (σ 7 o 5), .ref (ad 11 0), .ref (ad 12 0), .int (σ 7 o 8), .int (σ 7 o 9), .int (σ 7 o 10)])
  | 8 => .inl (q.1, 200, .inl (fun i => σ 8 o i))
  | 9 => .inl (q.1, 8, .inl (fun i => σ 9 o i))
  | 10 => .inl (q.1, 40, .inl (fun i => σ 10 o i))
  | 11 => .inl (q.1, 8, .inl (fun i => σ 11 o i))
  | 12 => .inl (q.1, 4, .inl (fun i => σ 12 o i))
  | 13 => .inr (0, [.int (σ 13 o 0), .int (σ 13 o 1), .int (σ 13 o 2), .int (σ 13 o 3), .int (σ 13 o 4), .int (σ 13 o 5), .ref (ad 14 o)])
  | 14 => .inl (q.1, 32, .inl (fun i => σ 14 o i))
  | 15 => .inl (q.2.2.1, 2, .inr (.inr (.inr (.inr (fun i => some (ad 13 (1 + i)))))))
  | 16 => .inr (4, [.ref (ad 6 1), .ref (ad 13 3), .ref (ad 13 4), .ref (ad 2 4)])
  | 17 => .inr (1, [.int (σ 17 o 0), .ref (ad 18 0)])
  | 18 => .inl (q.1, 28, .inl (fun i => σ 18 o i))
  | 19 => .inr (2, [.int (σ 19 o 0), .int (σ 19 o 1), .int (σ 19 o 2), .int (σ 19 o 3), .int (σ 19 o 4), .int (σ 19 o 5), .int (σ 19 o 6), .ref (ad 20 0), .ref (ad 21 0), .ref (ad 6 2)])
  | 20 => .inl (q.1, 25, .inl (fun i => σ 20 o i))
  | 21 => .inl (q.1, 24, .inl (fun i => σ 21 o i))
  | 22 => .inr (3, [.ref (ad 23 0), .ref (ad 24 0), .ref (ad 25 0), .ref (ad 26 0), .ref (ad 27 0), .int (σ 22 o 5)])
  | 23 => .inl (q.1, 36, .inl (fun i => σ 23 o i))
  | 24 => .inl (q.1, 36, .inl (fun i => σ 24 o i))
  | 25 => .inl (q.1, 36, .inl (fun i => σ 25 o i))
  | 26 => .inl (q.1, 36, .inl (fun i => σ 26 o i))
  | 27 => .inl (q.1, 36, .inl (fun i => σ 27 o i))
  | _ => .inr (0, [])
def LC : List (Nat × Nat) := [(0, 0), (1, 0), (2, 0), (2, 1), (2, 2), (2, 3), (2, 4), (3, 0), (3, 1), (3, 2), (3, 3), (3, 4), (4, 0), (4, 1), (4, 2), (4, 3), (4, 4), (5, 0), (6, 0), (6, 1), (6, 2), (7, 0), (8, 0), (9, 0), (10, 0), (11, 0), (12, 0), (13, 0), (13, 1), (13, 2), (13, 3), (13, 4), (14, 0), (14, 1), (14, 2), (14, 3), (14, 4), (15, 0), (16, 0), (17, 0), (18, 0), (19, 0), (20, 0), (21, 0), (22, 0), (23, 0), (24, 0), (25, 0), (26, 0), (27, 0)]
theorem EC_congr {q : ClassId × ClassId × ClassId × ClassId} {ad : Nat → Nat → Nat} {σ σ' : St} {c o : Nat} (h : ∀ k, σ' c o k = σ c o k) : EC q ad σ' c o = EC q ad σ c o := by
  unfold EC
  split <;> simp only [h]
theorem EC_su {q : ClassId × ClassId × ClassId × ClassId} {ad : Nat → Nat → Nat} {σ : St} {c o k : Nat} {v : Int32} : ∀ c' o', ¬ (c' = c ∧ o' = o) → EC q ad (su σ c o k v) c' o' = EC q ad σ c' o' := fun _ _ h => EC_congr (su_ne h)
theorem EC_sr {q : ClassId × ClassId × ClassId × ClassId} {ad : Nat → Nat → Nat} {σ : St} {c o : Nat} {f : Nat → Int32} : ∀ c' o', ¬ (c' = c ∧ o' = o) → EC q ad (sr σ c o f) c' o' = EC q ad σ c' o' := fun _ _ h => EC_congr (sr_ne h)
theorem kC_0 {o : Nat} (h : o < 1) : (0, o) ∈ LC := (by decide : ∀ o, o < 1 → (0, o) ∈ LC) o h
theorem kC_1 {o : Nat} (h : o < 1) : (1, o) ∈ LC := (by decide : ∀ o, o < 1 → (1, o) ∈ LC) o h
theorem kC_2 {o : Nat} (h : o < 5) : (2, o) ∈ LC := (by decide : ∀ o, o < 5 → (2, o) ∈ LC) o h
theorem kC_3 {o : Nat} (h : o < 5) : (3, o) ∈ LC := (by decide : ∀ o, o < 5 → (3, o) ∈ LC) o h
theorem kC_4 {o : Nat} (h : o < 5) : (4, o) ∈ LC := (by decide : ∀ o, o < 5 → (4, o) ∈ LC) o h
theorem kC_5 {o : Nat} (h : o < 1) : (5, o) ∈ LC := (by decide : ∀ o, o < 1 → (5, o) ∈ LC) o h
theorem kC_6 {o : Nat} (h : o < 3) : (6, o) ∈ LC := (by decide : ∀ o, o < 3 → (6, o) ∈ LC) o h
theorem kC_7 {o : Nat} (h : o < 1) : (7, o) ∈ LC := (by decide : ∀ o, o < 1 → (7, o) ∈ LC) o h
theorem kC_8 {o : Nat} (h : o < 1) : (8, o) ∈ LC := (by decide : ∀ o, o < 1 → (8, o) ∈ LC) o h
theorem kC_9 {o : Nat} (h : o < 1) : (9, o) ∈ LC := (by decide : ∀ o, o < 1 → (9, o) ∈ LC) o h
theorem kC_10 {o : Nat} (h : o < 1) : (10, o) ∈ LC := (by decide : ∀ o, o < 1 → (10, o) ∈ LC) o h
theorem kC_11 {o : Nat} (h : o < 1) : (11, o) ∈ LC := (by decide : ∀ o, o < 1 → (11, o) ∈ LC) o h
theorem kC_12 {o : Nat} (h : o < 1) : (12, o) ∈ LC := (by decide : ∀ o, o < 1 → (12, o) ∈ LC) o h
theorem kC_13 {o : Nat} (h : o < 5) : (13, o) ∈ LC := (by decide : ∀ o, o < 5 → (13, o) ∈ LC) o h
theorem kC_14 {o : Nat} (h : o < 5) : (14, o) ∈ LC := (by decide : ∀ o, o < 5 → (14, o) ∈ LC) o h
theorem kC_15 {o : Nat} (h : o < 1) : (15, o) ∈ LC := (by decide : ∀ o, o < 1 → (15, o) ∈ LC) o h
theorem kC_16 {o : Nat} (h : o < 1) : (16, o) ∈ LC := (by decide : ∀ o, o < 1 → (16, o) ∈ LC) o h
theorem kC_17 {o : Nat} (h : o < 1) : (17, o) ∈ LC := (by decide : ∀ o, o < 1 → (17, o) ∈ LC) o h
theorem kC_18 {o : Nat} (h : o < 1) : (18, o) ∈ LC := (by decide : ∀ o, o < 1 → (18, o) ∈ LC) o h
theorem kC_19 {o : Nat} (h : o < 1) : (19, o) ∈ LC := (by decide : ∀ o, o < 1 → (19, o) ∈ LC) o h
theorem kC_20 {o : Nat} (h : o < 1) : (20, o) ∈ LC := (by decide : ∀ o, o < 1 → (20, o) ∈ LC) o h
theorem kC_21 {o : Nat} (h : o < 1) : (21, o) ∈ LC := (by decide : ∀ o, o < 1 → (21, o) ∈ LC) o h
theorem kC_22 {o : Nat} (h : o < 1) : (22, o) ∈ LC := (by decide : ∀ o, o < 1 → (22, o) ∈ LC) o h
theorem kC_23 {o : Nat} (h : o < 1) : (23, o) ∈ LC := (by decide : ∀ o, o < 1 → (23, o) ∈ LC) o h
theorem kC_24 {o : Nat} (h : o < 1) : (24, o) ∈ LC := (by decide : ∀ o, o < 1 → (24, o) ∈ LC) o h
theorem kC_25 {o : Nat} (h : o < 1) : (25, o) ∈ LC := (by decide : ∀ o, o < 1 → (25, o) ∈ LC) o h
theorem kC_26 {o : Nat} (h : o < 1) : (26, o) ∈ LC := (by decide : ∀ o, o < 1 → (26, o) ∈ LC) o h
theorem kC_27 {o : Nat} (h : o < 1) : (27, o) ∈ LC := (by decide : ∀ o, o < 1 → (27, o) ∈ LC) o h
def EM (q : ClassId × ClassId × ClassId × ClassId) (ad : Nat → Nat → Nat) (σ : St) : Nat → Nat → va_E := fun c o => match c with
  | 0 => .inr (9, [.ref (ad 1 0), .int (σ 0 o 1), .ref (ad 2 0), .int (σ 0 o 3), .ref (ad 3 0), .ref (ad 4 0), .ref (ad 5 0), .ref (ad 6 0), .int (σ 0 o 8), .int (σ 0 o 9), .int (σ 0 o 10), .int (σ 0 o 11), .int (σ 0 o 12), .int (σ 0 o 13), .int (σ 0 o 14), .int (σ 0 o 15), .int (σ 0 o 16), .int (σ 0 o 17), .int (σ 0 o 18), .int (σ 0 o 19), .int (σ 0 o 20), .ref (ad 7 0), .ref (ad 8 0), .ref (ad 9 0), .ref (ad 10 0), .ref (ad 11 0), .ref (ad 12 0), .ref (ad 13 0), .int (σ 0 o 28), .int (σ 0 o 29), .int (σ 0 o 30), .int (σ 0 o 31), .int (σ 0 o 32), .int (σ 0 o 33), .int (σ 0 o 34), .ref (ad 14 0), .ref (ad 15 0), .int (σ 0 o 37), .ref (ad 16 0), .ref (ad 17 0), .ref (ad 18 0), .ref (ad 19 0)])
  | 1 => .inl (q.1, 200, .inl (fun i => σ 1 o i))
  | 2 => .inl (q.1, 48, .inl (fun i => σ 2 o i))
  | 3 => .inl (q.1, 4, .inl (fun i => σ 3 o i))
  | 4 => .inl (q.1, 4, .inl (fun i => σ 4 o i))
  | 5 => .inl (q.1, 4, .inl (fun i => σ 5 o i))
  | 6 => .inl (q.1, 32, .inl (fun i => σ 6 o i))
  | 7 => .inl (q.1, 4, .inl (fun i => σ 7 o i))
  | 8 => .inl (q.1, 2010, .inl (fun i => σ 8 o i))
  | 9 => .inl (q.1, 5, .inl (fun i => σ 9 o i))
  | 10 => .inl (q.1, 5, .inl (fun i => σ 10 o i))
  | 11 => .inl (q.1, 5, .inl (fun i => σ 11 o i))
  | 12 => .inl (q.1, 5, .inl (fun i => σ 12 o i))
  | 13 => .inl (q.1, 5, .inl (fun i => σ 13 o i))
  | 14 => .inl (q.1, 25, .inl (fun i => σ 14 o i))
  | 15 => .inl (q.1, 25, .inl (fun i => σ 15 o i))
  | 16 => .inl (q.2.2.2, 28, .inl (fun i => σ 16 o i))
  | 17 => .inl (q.1, 36, .inl (fun i => σ 17 o i))
  | 18 => .inl (q.1, 36, .inl (fun i => σ 18 o i))
  | 19 => .inl (q.1, 36, .inl (fun i => σ 19 o i))
  | _ => .inr (0, [])
def LM : List (Nat × Nat) := [(0, 0), (1, 0), (2, 0), (3, 0), (4, 0), (5, 0), (6, 0), (7, 0), (8, 0), (9, 0), (10, 0), (11, 0), (12, 0), (13, 0), (14, 0), (15, 0), (16, 0), (17, 0), (18, 0), (19, 0)]
theorem EM_congr {q : ClassId × ClassId × ClassId × ClassId} {ad : Nat → Nat → Nat} {σ σ' : St} {c o : Nat} (h : ∀ k, σ' c o k = σ c o k) : EM q ad σ' c o = EM q ad σ c o := by
  unfold EM
  split <;> simp only [h]
theorem EM_su {q : ClassId × ClassId × ClassId × ClassId} {ad : Nat → Nat → Nat} {σ : St} {c o k : Nat} {v : Int32} : ∀ c' o', ¬ (c' = c ∧ o' = o) → EM q ad (su σ c o k v) c' o' = EM q ad σ c' o' := fun _ _ h => EM_congr (su_ne h)
theorem EM_sr {q : ClassId × ClassId × ClassId × ClassId} {ad : Nat → Nat → Nat} {σ : St} {c o : Nat} {f : Nat → Int32} : ∀ c' o', ¬ (c' = c ∧ o' = o) → EM q ad (sr σ c o f) c' o' = EM q ad σ c' o' := fun _ _ h => EM_congr (sr_ne h)
theorem kM_0 {o : Nat} (h : o < 1) : (0, o) ∈ LM := (by decide : ∀ o, o < 1 → (0, o) ∈ LM) o h
theorem kM_1 {o : Nat} (h : o < 1) : (1, o) ∈ LM := (by decide : ∀ o, o < 1 → (1, o) ∈ LM) o h
theorem kM_2 {o : Nat} (h : o < 1) : (2, o) ∈ LM := (by decide : ∀ o, o < 1 → (2, o) ∈ LM) o h
theorem kM_3 {o : Nat} (h : o < 1) : (3, o) ∈ LM := (by decide : ∀ o, o < 1 → (3, o) ∈ LM) o h
theorem kM_4 {o : Nat} (h : o < 1) : (4, o) ∈ LM := (by decide : ∀ o, o < 1 → (4, o) ∈ LM) o h
theorem kM_5 {o : Nat} (h : o < 1) : (5, o) ∈ LM := (by decide : ∀ o, o < 1 → (5, o) ∈ LM) o h
theorem kM_6 {o : Nat} (h : o < 1) : (6, o) ∈ LM := (by decide : ∀ o, o < 1 → (6, o) ∈ LM) o h
theorem kM_7 {o : Nat} (h : o < 1) : (7, o) ∈ LM := (by decide : ∀ o, o < 1 → (7, o) ∈ LM) o h
theorem kM_8 {o : Nat} (h : o < 1) : (8, o) ∈ LM := (by decide : ∀ o, o < 1 → (8, o) ∈ LM) o h
theorem kM_9 {o : Nat} (h : o < 1) : (9, o) ∈ LM := (by decide : ∀ o, o < 1 → (9, o) ∈ LM) o h
theorem kM_10 {o : Nat} (h : o < 1) : (10, o) ∈ LM := (by decide : ∀ o, o < 1 → (10, o) ∈ LM) o h
theorem kM_11 {o : Nat} (h : o < 1) : (11, o) ∈ LM := (by decide : ∀ o, o < 1 → (11, o) ∈ LM) o h
theorem kM_12 {o : Nat} (h : o < 1) : (12, o) ∈ LM := (by decide : ∀ o, o < 1 → (12, o) ∈ LM) o h
theorem kM_13 {o : Nat} (h : o < 1) : (13, o) ∈ LM := (by decide : ∀ o, o < 1 → (13, o) ∈ LM) o h
theorem kM_14 {o : Nat} (h : o < 1) : (14, o) ∈ LM := (by decide : ∀ o, o < 1 → (14, o) ∈ LM) o h
theorem kM_15 {o : Nat} (h : o < 1) : (15, o) ∈ LM := (by decide : ∀ o, o < 1 → (15, o) ∈ LM) o h
theorem kM_16 {o : Nat} (h : o < 1) : (16, o) ∈ LM := (by decide : ∀ o, o < 1 → (16, o) ∈ LM) o h
theorem kM_17 {o : Nat} (h : o < 1) : (17, o) ∈ LM := (by decide : ∀ o, o < 1 → (17, o) ∈ LM) o h
theorem kM_18 {o : Nat} (h : o < 1) : (18, o) ∈ LM := (by decide : ∀ o, o < 1 → (18, o) ∈ LM) o h
theorem kM_19 {o : Nat} (h : o < 1) : (19, o) ∈ LM := (by decide : ∀ o, o < 1 → (19, o) ∈ LM) o h
/-- private members of nest mates that are called and read -/
def nmC : List (String × Nat × MethodName × String) := [("OnChin$Told", 21, yX6_init, "OnChin"), ("OnChin", 18, yX5_init, "OnChin"), ("OnChin", 25, yX0_init, "OnChin"), ("OnChin", 36, yX4_init, "OnChin"), ("OnChin$Keeper", 17, yX0_init, "OnChin"), ("OnChin$Keeper", 27, yX6_init, "OnChin"), ("OnChin", 43, yX1_init, "OnChin"), ("OnChin", 50, yX2_init, "OnChin"), ("OnChin", 57, yX3_init, "OnChin"), ("OnChin$Text", 151, yX8_within, "OnChin"), ("OnChin$Text", 141, yX8_isThing, "OnChin"), ("OnChin$Balance", 58, yX8_wish, "OnChin"), ("OnChin$Balance", 62, yX8_limited, "OnChin"), ("OnChin$Keeper", 95, yX8_power, "OnChin"), ("OnChin$Film", 66, yX8_wish, "OnChin"), ("OnChin$Evenings", 49, yX8_power, "OnChin")]
def nfC : List (String × Nat × String × String × String × String) := [("OnChin$Told", 22, "OnChin", "AT_FIRST", "[I", "OnChin"), ("OnChin$Text", 145, "OnChin", "LEAST", "[I", "OnChin"), ("OnChin$Text", 148, "OnChin", "MOST", "[I", "OnChin"), ("OnChin$Keeper", 98, "OnChin", "MOST", "[I", "OnChin")]
/-- the text constants: places in Text's pool, texts, lengths, bytes -/
def sIx : List Nat := [82, 130, 132, 134, 136, 91, 96, 101, 110, 112, 114, 116, 118]
def sTx : List String := ["thing", "plain", "turning", "wet", "jointed", "lump", "bare", "man", "floor", "pull", "bound", "wind", "shake"]
def sLen : List Nat := [5, 5, 7, 3, 7, 4, 4, 3, 5, 4, 5, 4, 5]
def sByt : List (List Int32) := [[116, 104, 105, 110, 103], [112, 108, 97, 105, 110], [116, 117, 114, 110, 105, 110, 103], [119, 101, 116], [106, 111, 105, 110, 116, 101, 100], [108, 117, 109, 112], [98, 97, 114, 101], [109, 97, 110], [102, 108, 111, 111, 114], [112, 117, 108, 108], [98, 111, 117, 110, 100], [119, 105, 110, 100], [115, 104, 97, 107, 101]]
def tLeast : List Int32 := [0, 0, 0, 1, 0, 0, 1, 1, 0, 0]
def tMost : List Int32 := [40, 40, 6, 99, 99, 999, 99, 999, 20, 99]
def EvC (D : va_G) (q : ClassId × ClassId × ClassId × ClassId) (ad : Nat → Nat → Nat) (t : Nat × Nat) (aK aV : Nat → Nat) (U : State) : Prop :=
  va_K D clA (tyA q) U ∧ zJ LC ad (zA LC ad) ∧ (∀ x ∈ nmC, va_Nw (.methodLinkNest x.1 x.2.1 x.2.2.1 x.2.2.2) U) ∧ (∀ x ∈ nfC, va_Nw (.fieldLinkNest x.1 x.2.1 x.2.2.1 x.2.2.2.1 x.2.2.2.2.1 x.2.2.2.2.2) U) ∧
  (va_Z "OnChin" "LEAST" "[I" (.ref t.1) (zA LC ad) U U.heap ∧ va_T .int t.1 10 (fun j => .int (tLeast.getD j 0)) (zA LC ad) U U.heap) ∧ (va_Z "OnChin" "MOST" "[I" (.ref t.2) (zA LC ad) U U.heap ∧ va_T .int t.2 10 (fun j => .int (tMost.getD j 0)) (zA LC ad) U U.heap) ∧
  (vk_S 13 sLen sByt aK aV (zA LC ad) U U.heap ∧ ∀ i, i < 13 → vk_R "OnChin$Text" (sIx.getD i 0) (sTx.getD i "") (aK i) U) ∧ (va_Z "java/lang/String" "COMPACT_STRINGS" "Z" (.int 1) (zA LC ad) U U.heap ∧ va_Zq "jdk/internal/util/Preconditions" "SIOOBE_FORMATTER" "Ljava/util/function/BiFunction;" (zA LC ad) U U.heap)
theorem EvC_ok {D : va_G} {q : ClassId × ClassId × ClassId × ClassId} {ad : Nat → Nat → Nat} {t : Nat × Nat} {aK aV : Nat → Nat} : EvOK (EvC D q ad t aK aV) LC ad := by
  refine ⟨fun U g mk a h => ?_, fun s U H locs h hS hU hW => ?_⟩
  · obtain ⟨h1, h2, h3, h4, ⟨h5, h6⟩, ⟨h7, h8⟩, ⟨h9, h10⟩, h11, h12⟩ := h
    have hA := Vm.Alike.refl U.vm
    exact ⟨va_K.moved (u := U) (U := U.calling g mk a) hA h1, h2, fun x hx => va_Nw.same rfl (u := U) (U := U.calling g mk a) rfl (h3 x hx), fun x hx => va_Nw.same rfl (u := U) (U := U.calling g mk a) rfl (h4 x hx), ⟨va_Z.moved (u := U) (U := U.calling g mk a) hA h5, va_T.moved (u := U) (U := U.calling g mk a) hA h6⟩, ⟨va_Z.moved (u := U) (U := U.calling g mk a) hA h7, va_T.moved (u := U) (U := U.calling g mk a) hA h8⟩, ⟨vk_S.moved (u := U) (U := U.calling g mk a) hA h9, fun i hi => vk_R.same (u := U) (U := U.calling g mk a) rfl (h10 i hi)⟩, va_Z.moved (u := U) (U := U.calling g mk a) hA h11, va_Zq.moved (u := U) (U := U.calling g mk a) hA h12⟩
  · obtain ⟨h1, h2, h3, h4, ⟨h5, h6⟩, ⟨h7, h8⟩, ⟨h9, h10⟩, h11, h12⟩ := h
    have hA := hW.alike
    have hq : ∀ a : Nat, a < s.heap.size → ¬ zA LC ad a → U.heap[a]? = s.heap[a]? := fun a x y => by rw [hU]; exact hS.2.1 a x y
    exact ⟨va_K.moved hA h1, h2, fun x hx => va_Nw.warmM hW (h3 x hx), fun x hx => va_Nw.warmF hW (h4 x hx), ⟨va_Z.moved hA (h5.kept hq), va_T.moved hA (h6.kept hq)⟩, ⟨va_Z.moved hA (h7.kept hq), va_T.moved hA (h8.kept hq)⟩, ⟨vk_S.moved hA (h9.kept hq), fun i hi => vk_R.warm hW (h10 i hi)⟩, va_Z.moved hA (h11.kept hq), va_Zq.moved hA (h12.kept hq)⟩
def EvM (D : va_G) (q : ClassId × ClassId × ClassId × ClassId) (ad : Nat → Nat → Nat) (U : State) : Prop := va_K D clA (tyA q) U ∧ zJ LM ad (zA LM ad) ∧ True
theorem EvM_ok {D : va_G} {q : ClassId × ClassId × ClassId × ClassId} {ad : Nat → Nat → Nat} : EvOK (EvM D q ad) LM ad := ⟨fun U g mk a h => ⟨va_K.moved (u := U) (U := U.calling g mk a) (Vm.Alike.refl U.vm) h.1, h.2⟩, fun s U H locs h hS hU hW => ⟨va_K.moved hW.alike h.1, h.2⟩⟩
