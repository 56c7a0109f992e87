/-! WAY: ways through the house, and the order of cells in which the class leaves them -/
def nbS (c t : Nat) : Option Nat := if t = 0 then (if c < 6 then none else some (c - 6)) else if t = 1 then (if c % 6 = 0 then none else some (c - 1)) else if t = 2 then (if 5 ≤ c % 6 then none else some (c + 1)) else (if 30 ≤ c then none else some (c + 6))
theorem nbS_lt {c t d : Nat} (hc : c < 36) (h : nbS c t = some d) : d < 36 := by
  unfold nbS at h
  split at h
  · split at h
    · exact absurd h (by simp)
    · have := Option.some.inj h; omega
  · split at h
    · split at h
      · exact absurd h (by simp)
      · have := Option.some.inj h; omega
    · split at h
      · split at h
        · exact absurd h (by simp)
        · have := Option.some.inj h; omega
      · split at h
        · exact absurd h (by simp)
        · have := Option.some.inj h; omega
def Wp (op : Nat → Prop) (dr : Nat → Nat) (s : Nat) : Nat → Nat → Nat → Prop
  | 0, c, m => c = s ∧ op s ∧ m = dr s
  | k + 1, d, m => ∃ c m' t, Wp op dr s k c m' ∧ t < 4 ∧ nbS c t = some d ∧ op d ∧ m = m' + dr d
theorem Wp_ok {op : Nat → Prop} {dr : Nat → Nat} {s : Nat} (hs : s < 36) (hd : ∀ c, c < 36 → dr c ≤ 99) : ∀ k c m, Wp op dr s k c m → c < 36 ∧ m ≤ 99 * (k + 1) ∧ op c
  | 0, c, m, h => by
    obtain ⟨a, b, e⟩ := h
    subst a
    have := hd c hs
    exact ⟨hs, by omega, b⟩
  | k + 1, d, m, h => by
    obtain ⟨c, m', t, h1, h2, h3, h4, h5⟩ := h
    obtain ⟨a, b, _⟩ := Wp_ok hs hd k c m' h1
    have hl := nbS_lt a h3
    have := hd d hl
    exact ⟨hl, by omega, h4⟩
abbrev Ent := Nat → Option (Nat × Nat)
/-- what is asked: the fewest steps, and of those ways the least together -/
def Short (op : Nat → Prop) (dr : Nat → Nat) (s : Nat) (E : Ent) : Prop := (∀ c p, E c = some p → Wp op dr s p.1 c p.2) ∧ (∀ k c m, Wp op dr s k c m → ∃ p, E c = some p ∧ p.1 ≤ k ∧ (p.1 = k → p.2 ≤ m))
theorem Short.uni {op : Nat → Prop} {dr : Nat → Nat} {s : Nat} {E F : Ent} (h1 : Short op dr s E) (h2 : Short op dr s F) (c : Nat) : E c = F c := by
  cases hE : E c with
  | none =>
    cases hF : F c with
    | none => rfl
    | some p =>
      obtain ⟨q, hq, _⟩ := h1.2 _ _ _ (h2.1 c p hF)
      rw [hE] at hq
      exact absurd hq (by simp)
  | some p =>
    obtain ⟨q, hq, a, b⟩ := h2.2 _ _ _ (h1.1 c p hE)
    obtain ⟨r, hr, a', b'⟩ := h1.2 _ _ _ (h2.1 c q hq)
    rw [hE] at hr
    have hrp := Option.some.inj hr
    subst hrp
    have e1 : p.1 = q.1 := by omega
    have e2 : p.2 = q.2 := by
      have x := b e1.symm
      have y := b' e1
      omega
    rw [hq]
    exact congrArg some (Prod.ext e1 e2)
def cntE (E : Ent) (n : Nat) : Nat := smN (fun c => if (E c).isSome then 1 else 0) n
theorem cntE_le (E : Ent) : ∀ n, cntE E n ≤ n
  | 0 => Nat.le_refl 0
  | n + 1 => by
    have := cntE_le E n
    unfold cntE at this ⊢
    rw [smN]
    split <;> omega
theorem cntE_lt {E : Ent} {d : Nat} (h : E d = none) : ∀ n, d < n → cntE E n < n
  | 0, hd => absurd hd (by omega)
  | n + 1, hd => by
    have hl := cntE_le E n
    unfold cntE at hl ⊢
    rw [smN]
    by_cases e : d = n
    · subst e
      rw [h]
      simp only [Option.isSome_none, Bool.false_eq_true, if_false]
      omega
    · have := cntE_lt h n (by omega)
      unfold cntE at this
      split <;> omega
theorem cntE_same {E F : Ent} {n : Nat} (h : ∀ c, c < n → (E c).isSome = (F c).isSome) : cntE E n = cntE F n := by
  unfold cntE
  exact smN_cong (fun i hi => by rw [h i hi])
theorem cntE_new {E F : Ent} {d : Nat} (h0 : E d = none) (h1 : (F d).isSome = true) (h : ∀ c, ¬ c = d → F c = E c) : ∀ n, d < n → cntE F n = cntE E n + 1
  | 0, hd => absurd hd (by omega)
  | n + 1, hd => by
    by_cases e : d = n
    · subst e
      have hs : cntE F d = cntE E d := cntE_same (fun c hc => by rw [h c (by omega)])
      unfold cntE at hs ⊢
      rw [smN, smN, hs, h0, h1]
      simp
    · have := cntE_new h0 h1 h n (by omega)
      unfold cntE at this ⊢
      rw [smN, smN, this, h n (fun z => e z.symm)]
      omega
def stE (E : Ent) (c : Nat) : Nat := ((E c).getD (0, 0)).1
def suE (E : Ent) (c : Nat) : Nat := ((E c).getD (0, 0)).2
def enE (E : Ent) (d k v : Nat) : Ent := fun c => if c = d then (match E d with
  | none => some (k, v)
  | some p => if p.1 = k then some (k, if v < p.2 then v else p.2) else some p) else E c
def enK (E : Ent) (d kn : Nat) : Nat := if (E d).isSome then kn else kn + 1
def enQ (E : Ent) (Q : Nat → Nat) (d kn : Nat) : Nat → Nat := if (E d).isSome then Q else fun a => if a = kn then d else Q a
/-- the class's order: cells in Q, i of them left, and of the next one j sides -/
def BI (op : Nat → Prop) (dr : Nat → Nat) (s : Nat) (E : Ent) (Q : Nat → Nat) (kn i j : Nat) : Prop :=
  (∀ a, a < kn → ∃ p, E (Q a) = some p ∧ p.1 ≤ a) ∧
  (∀ c p, E c = some p → c < 36 ∧ Wp op dr s p.1 c p.2 ∧ ∃ a, a < kn ∧ Q a = c) ∧
  kn = cntE E 36 ∧
  (∀ a b, a ≤ b → b < kn → stE E (Q a) ≤ stE E (Q b)) ∧
  (∀ b, b < kn → i < kn → stE E (Q b) ≤ stE E (Q i) + 1) ∧
  (∀ a t d, a < kn → t < 4 → (a < i ∨ a = i ∧ t < j) → nbS (Q a) t = some d → op d → ∃ p, E d = some p ∧ p.1 ≤ stE E (Q a) + 1 ∧ (p.1 = stE E (Q a) + 1 → p.2 ≤ suE E (Q a) + dr d)) ∧
  (op s → ∃ p, E s = some p ∧ p.1 = 0 ∧ p.2 ≤ dr s)
theorem BI_end {op : Nat → Prop} {dr : Nat → Nat} {s : Nat} {E : Ent} {Q : Nat → Nat} {kn i j : Nat} (h : BI op dr s E Q kn i j) (hi : kn ≤ i) : Short op dr s E := by
  obtain ⟨b1, b2, b3, b4, b5, b6, b7⟩ := h
  refine ⟨fun c p hp => (b2 c p hp).2.1, ?_⟩
  intro k
  induction k with
  | zero =>
    intro c m hw
    obtain ⟨a, b, e⟩ := hw
    obtain ⟨p, p1, p2, p3⟩ := b7 b
    rw [a]
    exact ⟨p, p1, by omega, fun _ => by omega⟩
  | succ k ih =>
    intro d m hw
    obtain ⟨c, m', t, h1, h2, h3, h4, h5⟩ := hw
    obtain ⟨p, p1, p2, p3⟩ := ih c m' h1
    obtain ⟨_, _, a, a1, a2⟩ := b2 c p p1
    have es : stE E (Q a) = p.1 := by rw [a2]; unfold stE; rw [p1]; rfl
    have eu : suE E (Q a) = p.2 := by rw [a2]; unfold suE; rw [p1]; rfl
    obtain ⟨q, q1, q2, q3⟩ := b6 a t d a1 h2 (Or.inl (by omega)) (by rw [a2]; exact h3) h4
    rw [es] at q2 q3
    rw [eu] at q3
    refine ⟨q, q1, by omega, fun e => ?_⟩
    have := p3 (by omega)
    have := q3 (by omega)
    omega
theorem BI_next {op : Nat → Prop} {dr : Nat → Nat} {s : Nat} {E : Ent} {Q : Nat → Nat} {kn i : Nat} (h : BI op dr s E Q kn i 4) (hi : i < kn) : BI op dr s E Q kn (i + 1) 0 := by
  obtain ⟨b1, b2, b3, b4, b5, b6, b7⟩ := h
  refine ⟨b1, b2, b3, b4, fun b hb hi2 => ?_, fun a t d ha ht hat => b6 a t d ha ht (by omega), b7⟩
  have := b5 b hb hi
  have := b4 i (i + 1) (by omega) hi2
  omega
theorem BI_skip {op : Nat → Prop} {dr : Nat → Nat} {s : Nat} {E : Ent} {Q : Nat → Nat} {kn i j : Nat} (h : BI op dr s E Q kn i j) (hn : ∀ d, nbS (Q i) j = some d → ¬ op d) : BI op dr s E Q kn i (j + 1) := by
  obtain ⟨b1, b2, b3, b4, b5, b6, b7⟩ := h
  refine ⟨b1, b2, b3, b4, b5, fun a t d ha ht hat hd ho => ?_, b7⟩
  by_cases e : a = i ∧ t = j
  · obtain ⟨e1, e2⟩ := e
    subst e1; subst e2
    exact absurd ho (hn d hd)
  · exact b6 a t d ha ht (by omega) hd ho
theorem BI_enter {op : Nat → Prop} {dr : Nat → Nat} {s : Nat} {E : Ent} {Q : Nat → Nat} {kn i j d : Nat} (h : BI op dr s E Q kn i j) (hi : i < kn) (hj : j < 4) (hd : nbS (Q i) j = some d) (ho : op d) : BI op dr s (enE E d (stE E (Q i) + 1) (suE E (Q i) + dr d)) (enQ E Q d kn) (enK E d kn) i (j + 1) := by
  obtain ⟨b1, b2, b3, b4, b5, b6, b7⟩ := h
  obtain ⟨pi, pi1, pi2⟩ := b1 i hi
  obtain ⟨qi1, qi2, -⟩ := b2 _ _ pi1
  have es : stE E (Q i) = pi.1 := by unfold stE; rw [pi1]; rfl
  have eu : suE E (Q i) = pi.2 := by unfold suE; rw [pi1]; rfl
  have hdl := nbS_lt qi1 hd
  have hW : Wp op dr s (pi.1 + 1) d (pi.2 + dr d) := ⟨Q i, pi.2, j, qi2, hj, hd, ho, rfl⟩
  rw [es, eu]
  cases hE : E d with
  | none =>
    have eK : enK E d kn = kn + 1 := by unfold enK; rw [hE]; rfl
    have q1 : enQ E Q d kn kn = d := by unfold enQ; rw [hE]; exact if_pos rfl
    have q2 : ∀ a, a < kn → enQ E Q d kn a = Q a := by
      intro a ha
      unfold enQ
      rw [hE]
      exact if_neg (by omega)
    have f1 : enE E d (pi.1 + 1) (pi.2 + dr d) d = some (pi.1 + 1, pi.2 + dr d) := by unfold enE; rw [if_pos rfl, hE]
    have f2 : ∀ c, ¬ c = d → enE E d (pi.1 + 1) (pi.2 + dr d) c = E c := fun c hc => if_neg hc
    rw [eK]
    generalize enE E d (pi.1 + 1) (pi.2 + dr d) = E' at f1 f2 ⊢
    generalize enQ E Q d kn = Q' at q1 q2 ⊢
    have nd : ∀ a, a < kn → ¬ Q a = d := by
      intro a ha z
      obtain ⟨p, p1, -⟩ := b1 a ha
      rw [z, hE] at p1
      exact absurd p1 (by simp)
    have st0 : ∀ a, a < kn → stE E' (Q' a) = stE E (Q a) := by
      intro a ha
      unfold stE
      rw [q2 a ha, f2 _ (nd a ha)]
    have su0 : ∀ a, a < kn → suE E' (Q' a) = suE E (Q a) := by
      intro a ha
      unfold suE
      rw [q2 a ha, f2 _ (nd a ha)]
    have st1 : stE E' (Q' kn) = pi.1 + 1 := by
      unfold stE
      rw [q1, f1]
      rfl
    refine ⟨fun a ha => ?_, fun c p hp => ?_, ?_, fun a b hab hb => ?_, fun b hb _ => ?_, fun a t e ha ht hat hn hoe => ?_, fun hos => ?_⟩
    · by_cases e : a = kn
      · subst e
        exact ⟨(pi.1 + 1, pi.2 + dr d), by rw [q1]; exact f1, by dsimp only; omega⟩
      · obtain ⟨p, p1, p2⟩ := b1 a (by omega)
        exact ⟨p, by rw [q2 a (by omega), f2 _ (nd a (by omega))]; exact p1, p2⟩
    · by_cases e : c = d
      · rw [e, f1] at hp
        have := Option.some.inj hp
        subst this
        rw [e]
        exact ⟨hdl, hW, kn, by omega, q1⟩
      · rw [f2 c e] at hp
        obtain ⟨x1, x2, a, x3, x4⟩ := b2 c p hp
        exact ⟨x1, x2, a, by omega, by rw [q2 a x3]; exact x4⟩
    · rw [b3]
      exact (cntE_new hE (by rw [f1]; rfl) f2 36 hdl).symm
    · by_cases eb : b = kn
      · rw [eb, st1]
        by_cases ea : a = kn
        · rw [ea, st1]
          exact Nat.le_refl _
        · rw [st0 a (by omega)]
          have := b5 a (by omega) hi
          omega
      · rw [st0 b (by omega), st0 a (by omega)]
        exact b4 a b hab (by omega)
    · rw [st0 i hi, es]
      by_cases eb : b = kn
      · rw [eb, st1]
        exact Nat.le_refl _
      · rw [st0 b (by omega)]
        have := b5 b (by omega) hi
        omega
    · have ha2 : a < kn := by omega
      rw [st0 a ha2, su0 a ha2]
      rw [q2 a ha2] at hn
      by_cases e2 : a = i ∧ t = j
      · obtain ⟨e3, e4⟩ := e2
        subst e3; subst e4
        rw [hd] at hn
        have := Option.some.inj hn
        subst this
        refine ⟨(pi.1 + 1, pi.2 + dr d), f1, ?_, fun _ => ?_⟩
        · rw [es]; exact Nat.le_refl _
        · rw [eu]; exact Nat.le_refl _
      · obtain ⟨p, p1, p2⟩ := b6 a t e ha2 ht (by omega) hn hoe
        refine ⟨p, ?_, p2⟩
        have : ¬ e = d := by
          intro z
          rw [z, hE] at p1
          exact absurd p1 (by simp)
        rw [f2 e this]
        exact p1
    · obtain ⟨p, p1, p2⟩ := b7 hos
      refine ⟨p, ?_, p2⟩
      have : ¬ s = d := by
        intro z
        rw [z, hE] at p1
        exact absurd p1 (by simp)
      rw [f2 s this]
      exact p1
  | some q =>
    have eK : enK E d kn = kn := by unfold enK; rw [hE]; rfl
    have eQ : enQ E Q d kn = Q := by unfold enQ; rw [hE]; rfl
    rw [eK, eQ]
    obtain ⟨y1, y2, ad, y3, y4⟩ := b2 d q hE
    have hq1 : q.1 ≤ pi.1 + 1 := by
      have := b5 ad y3 hi
      rw [es, y4] at this
      unfold stE at this
      rw [hE] at this
      exact this
    by_cases hk : q.1 = pi.1 + 1
    · have f1 : ∃ v, enE E d (pi.1 + 1) (pi.2 + dr d) d = some (pi.1 + 1, v) ∧ v ≤ pi.2 + dr d ∧ v ≤ q.2 ∧ (v = pi.2 + dr d ∨ v = q.2) := by
        refine ⟨if pi.2 + dr d < q.2 then pi.2 + dr d else q.2, ?_, ?_⟩
        · unfold enE
          rw [if_pos rfl, hE]
          exact if_pos hk
        · split <;> omega
      obtain ⟨v, f1, v1, v2, v3⟩ := f1
      have f2 : ∀ c, ¬ c = d → enE E d (pi.1 + 1) (pi.2 + dr d) c = E c := fun c hc => if_neg hc
      generalize enE E d (pi.1 + 1) (pi.2 + dr d) = E' at f1 f2 ⊢
      have st0 : ∀ c, stE E' c = stE E c := by
        intro c
        unfold stE
        by_cases e : c = d
        · rw [e, f1, hE]
          exact hk.symm
        · rw [f2 c e]
      have nda : ∀ a, a ≤ i → ¬ Q a = d := by
        intro a ha z
        have h1 := b4 a i ha hi
        rw [es, z] at h1
        unfold stE at h1
        rw [hE] at h1
        have : q.1 ≤ pi.1 := h1
        omega
      have su0 : ∀ a, a ≤ i → suE E' (Q a) = suE E (Q a) := by
        intro a ha
        unfold suE
        rw [f2 _ (nda a ha)]
      refine ⟨fun a ha => ?_, fun c p hp => ?_, ?_, fun a b hab hb => ?_, fun b hb hi2 => ?_, fun a t e ha ht hat hn hoe => ?_, fun hos => ?_⟩
      · obtain ⟨p, p1, p2⟩ := b1 a ha
        by_cases e : Q a = d
        · refine ⟨(pi.1 + 1, v), by rw [e]; exact f1, ?_⟩
          rw [e, hE] at p1
          have := Option.some.inj p1
          subst this
          dsimp only
          omega
        · exact ⟨p, by rw [f2 _ e]; exact p1, p2⟩
      · by_cases e : c = d
        · rw [e, f1] at hp
          have := Option.some.inj hp
          subst this
          rw [e]
          refine ⟨y1, ?_, ad, y3, y4⟩
          rcases v3 with z | z
          · rw [z]; exact hW
          · rw [z, ← hk]; exact y2
        · rw [f2 c e] at hp
          exact b2 c p hp
      · rw [b3]
        refine cntE_same (fun c _ => ?_)
        by_cases e : c = d
        · rw [e, hE, f1]; rfl
        · rw [f2 c e]
      · rw [st0, st0]; exact b4 a b hab hb
      · rw [st0, st0]; exact b5 b hb hi2
      · rw [st0, su0 a (by omega)]
        by_cases e1 : e = d
        · rw [e1] at hn hoe ⊢
          refine ⟨(pi.1 + 1, v), f1, ?_, fun hx => ?_⟩
          · dsimp only
            by_cases e2 : a = i ∧ t = j
            · rw [e2.1, es]; exact Nat.le_refl _
            · obtain ⟨p, p1, p2, p3⟩ := b6 a t d ha ht (by omega) hn hoe
              rw [hE] at p1
              have := Option.some.inj p1
              subst this
              omega
          · dsimp only at hx ⊢
            by_cases e2 : a = i ∧ t = j
            · rw [e2.1, eu]
              exact v1
            · obtain ⟨p, p1, p2, p3⟩ := b6 a t d ha ht (by omega) hn hoe
              rw [hE] at p1
              have := Option.some.inj p1
              subst this
              have := p3 (by omega)
              omega
        · have ne : ¬ (a = i ∧ t = j) := by
            intro z
            rw [z.1, z.2, hd] at hn
            exact e1 (Option.some.inj hn).symm
          obtain ⟨p, p1, p2⟩ := b6 a t e ha ht (by omega) hn hoe
          exact ⟨p, by rw [f2 e e1]; exact p1, p2⟩
      · obtain ⟨p, p1, p2, p3⟩ := b7 hos
        have : ¬ s = d := by
          intro z
          rw [z, hE] at p1
          have := Option.some.inj p1
          subst this
          omega
        exact ⟨p, by rw [f2 s this]; exact p1, p2, p3⟩
    · have eE : enE E d (pi.1 + 1) (pi.2 + dr d) = E := by
        funext c
        unfold enE
        by_cases e : c = d
        · rw [if_pos e, hE, e, hE]
          dsimp only
          rw [if_neg hk]
        · rw [if_neg e]
      rw [eE]
      refine ⟨b1, b2, b3, b4, b5, fun a t e ha ht hat hn hoe => ?_, b7⟩
      by_cases e2 : a = i ∧ t = j
      · rw [e2.1, e2.2, hd] at hn
        have := Option.some.inj hn
        subst this
        rw [e2.1, es]
        exact ⟨q, hE, hq1, fun z => absurd z hk⟩
      · exact b6 a t e ha ht (by omega) hn hoe
