/-! TEXT: the reference's numbers -/
def offX (μ μ' : St) : Prop := ∀ c o k, ¬ ((c = 0 ∧ 18 ≤ k ∧ k ≤ 20) ∨ c = 2) → μ' c o k = μ c o k
theorem offX.rf {a : St} : offX a a := fun _ _ _ _ => rfl
theorem offX.trans {a b c : St} (h1 : offX a b) (h2 : offX b c) : offX a c := fun x y z h => (h2 x y z h).trans (h1 x y z h)
theorem offSk.X {a b : St} (h : offSk a b) : offX a b := fun c o k hc => h c o k (by omega)
theorem TxM.offX {μ μ' : St} {B : Nat → Int32} {len : Nat} (h : TxM μ B len) (ho : offX μ μ') : TxM μ' B len := by
  obtain ⟨a, b, c⟩ := h
  exact ⟨(ho 0 0 1 (by omega)).trans a, b, fun i hi => (ho 1 0 i (by omega)).trans (c i hi)⟩
def StM (μ μ' : St) (n : Nat) (v : Int32) : Prop := offX μ μ' ∧ μ' 2 0 n = v ∧ ∀ k, ¬ k = n → μ' 2 0 k = μ 2 0 k
theorem sp_readsM {μ : St} {B : Nat → Int32} {len f i j lo hi : Nat} {x1 x2 x3 : Int32} {post : Int32 → St → Prop} (hX : TxM μ B len) (hT : TkM μ B len f) (hi8 : i < 8) (hj : j ≤ 4) (h3 : μ 0 0 3 = nI i) (hlo : lo < 1000) (hhi : hi < 1000) (e1 : x1 = nI j) (e2 : x2 = nI lo) (e3 : x3 = nI hi) (hno : rdS B len f lo hi = none → post 0 μ) (hyes : ∀ v g μ', rdS B len f lo hi = some (v, g) → StM μ μ' (6 * i + 1 + j) (nI v) → TkM μ' B len g → post 1 μ') : wp_X9_reads x1 x2 x3 post μ := by
  subst e1; subst e2; subst e3
  obtain ⟨t1, t3, t4, t5⟩ := hT
  have hlen := hX.2.1
  have he := enS_le (B := B) t1
  unfold wp_X9_reads wp_X9_reads_40
  rw [t3, hX.1, show (nI f = nI len ↔ f = len) from nI_eq (by omega) (by omega)]
  have none_k : ¬ kiS B len f = 2 → post 0 μ := by
    intro z
    apply hno
    unfold rdS nuS
    rw [if_neg (fun q => z q.1)]
  refine ⟨fun z => none_k ?_, fun z => ⟨pk_in f 200 (by omega), ?_⟩⟩
  · unfold kiS
    rw [if_neg (by omega)]
    decide
  · have hl : f < len := by omega
    have ek : kiS B len f = sortS (B f) := by unfold kiS; rw [if_pos hl]
    rw [nI_clamp (by omega), hX.2.2 f hl]
    refine sp_sortM ?_
    have c1 : sort0 (B f) ≤ 3 := by
      have := sortS_le (B f)
      unfold sort0
      split <;> omega
    have s2 : nI (sort0 (B f)) = 2 ↔ sortS (B f) = 2 := by
      rw [show (nI (sort0 (B f)) = 2 ↔ sort0 (B f) = 2) from nI_eq (b := 2) (by omega) (by decide)]
      unfold sort0
      split <;> omega
    rw [s2, t3, t4, nI_sub_pos he.1, show (nI (enS B len f - f) ≤ 3 ↔ enS B len f - f ≤ 3) from nI_leI (b := 3) (by omega) (by decide)]
    refine ⟨fun y => none_k (by rw [ek]; exact y), fun y => ⟨fun w => ?_, fun w => ?_⟩⟩
    · have hk2 : kiS B len f = 2 := by rw [ek]; exact y
      have hnu : nuS B len f = some (vlN B f (enS B len f - f)) := by
        unfold nuS
        rw [if_pos ⟨hk2, w⟩]
      have hvl := nuS_lt hnu
      unfold rdS at hno hyes
      rw [hnu] at hno hyes
      dsimp only at hno hyes
      have loop : ∀ n m, f + m + n = enS B len f → wp_X9_reads_51 (nI j) (nI lo) (nI hi) post (n + 1) (nI (vlN B f m)) (nI (f + m)) μ := by
        intro n
        induction n with
        | zero =>
          intro m e
          unfold wp_X9_reads_51
          rw [t4]
          refine ⟨fun _ => ?_, fun hc => absurd (nI_le (show enS B len f ≤ f + m by omega) (by omega)) hc⟩
          have em : m = enS B len f - f := by omega
          rw [e_in (a := nI lo) (b := nI hi) rfl rfl, em]
          have eb : (nI lo ≤ nI (vlN B f (enS B len f - f)) ∧ nI (vlN B f (enS B len f - f)) ≤ nI hi) ↔ (lo ≤ vlN B f (enS B len f - f) ∧ vlN B f (enS B len f - f) ≤ hi) := by
            rw [nI_leI (by omega) (by omega), nI_leI (by omega) (by omega)]
          refine ⟨fun hc => ?_, fun hc => ?_⟩
          · have hin := eb.mp (bi_1.mp hc)
            rw [if_pos hin] at hyes
            have ex : 6 * nI i + 1 + nI j = nI (6 * i + 1 + j) := by
              rw [show (6 : Int32) = nI 6 from rfl, show (1 : Int32) = nI 1 from rfl, pk_mul, nI_add, nI_add]
            rw [h3, ex, nI_clamp (by omega)]
            refine ⟨pk_in (6 * i + 1 + j) 48 (by omega), ?_⟩
            have o1 : offX μ (su μ 2 0 (6 * i + 1 + j) (nI (vlN B f (enS B len f - f)))) := by
              intro c o k hc
              unfold su
              rw [if_neg (by omega)]
            refine sp_tokenM (hX.offX o1) he.2.1 ((su_nc rfl).trans t5) (fun μ3 o3 t3' => ?_)
            refine hyes _ _ μ3 rfl ⟨o1.trans o3.X, (o3 2 0 _ (by omega)).trans su_eq, fun k hk => (o3 2 0 k (by omega)).trans (su_nk' hk)⟩ t3'
          · have hin : ¬ _ := fun z => bi_0.mp hc (eb.mpr z)
            rw [if_neg hin] at hno
            exact hno rfl
        | succ n ih =>
          intro m e
          unfold wp_X9_reads_51
          have hd := digits_all hk2 (i := f + m) (by omega) (by omega)
          have hdd := dS_ok hd.2
          rw [t4, nI_clamp (by omega), hX.2.2 (f + m) (by omega), digit_add hdd.1, nI_1]
          refine ⟨fun hc => absurd hc (nI_ge (a := f + m) (b := enS B len f) (by omega) (by omega)), fun _ => ⟨pk_in (f + m) 200 (by omega), ?_⟩⟩
          exact ih (m + 1) (by omega)
      exact ⟨_, loop (enS B len f - f) 0 (by omega)⟩
    · apply hno
      unfold rdS nuS
      rw [if_neg (fun q => w q.2)]
