/-! WAY: the reference's costs -/
def dqN (a b : Nat) : Nat := (a - b) * (a - b) + (b - a) * (b - a)
theorem dq_all : ∀ a, a < 6 → ∀ b, b < 6 → (nI a - nI b) * (nI a - nI b) = nI (dqN a b) ∧ dqN a b ≤ 25 := by decide
set_option maxRecDepth 100000 in
theorem nb_all : ∀ c, c < 36 → ∀ d, d < 36 → (dqN (c % 6) (d % 6) + dqN (c / 6) (d / 6) = 1 ↔ (nbS c 0 = some d ∨ nbS c 1 = some d ∨ nbS c 2 = some d ∨ nbS c 3 = some d)) := by decide
theorem nb_iff {c d : Nat} (hc : c < 36) (hd : d < 36) : dqN (c % 6) (d % 6) + dqN (c / 6) (d / 6) = 1 ↔ ∃ t, t < 4 ∧ nbS c t = some d := by
  rw [nb_all c hc d hd]
  constructor
  · rintro (h | h | h | h)
    · exact ⟨0, by decide, h⟩
    · exact ⟨1, by decide, h⟩
    · exact ⟨2, by decide, h⟩
    · exact ⟨3, by decide, h⟩
  · rintro ⟨t, ht, h⟩
    rcases Nat.lt_or_ge t 1 with z | z
    · rw [show t = 0 by omega] at h; exact Or.inl h
    · rcases Nat.lt_or_ge t 2 with z | z
      · rw [show t = 1 by omega] at h; exact Or.inr (Or.inl h)
      · rcases Nat.lt_or_ge t 3 with z | z
        · rw [show t = 2 by omega] at h; exact Or.inr (Or.inr (Or.inl h))
        · rw [show t = 3 by omega] at h; exact Or.inr (Or.inr (Or.inr h))
theorem sp_areBeside {μ : St} {c d : Nat} {x0 x1 : Int32} {post : Int32 → St → Prop} (hc : c < 36) (hd : d < 36) (h0 : x0 = nI c) (h1 : x1 = nI d) (hy : (∃ t, t < 4 ∧ nbS c t = some d) → post 1 μ) (hn : ¬ (∃ t, t < 4 ∧ nbS c t = some d) → post 0 μ) : wp_X9_areBeside x0 x1 post μ := by
  subst h0; subst h1
  unfold wp_X9_areBeside wp_X9_areBeside_36
  rw [← nb_iff hc hd] at hy hn
  rw [show nI c - nI c / 6 * 6 = nI (c % 6) from pk_rem (d := 6) (by omega) (by decide) (by decide), show nI d - nI d / 6 * 6 = nI (d % 6) from pk_rem (d := 6) (by omega) (by decide) (by decide), show nI c / 6 = nI (c / 6) from pk_div (d := 6) (by omega) (by decide) (by decide), show nI d / 6 = nI (d / 6) from pk_div (d := 6) (by omega) (by decide) (by decide)]
  obtain ⟨a1, a2⟩ := dq_all (c % 6) (by omega) (d % 6) (by omega)
  obtain ⟨b1, b2⟩ := dq_all (c / 6) (by omega) (d / 6) (by omega)
  rw [a1, b1, nI_add, show (nI (dqN (c % 6) (d % 6) + dqN (c / 6) (d / 6)) = 1 ↔ dqN (c % 6) (d % 6) + dqN (c / 6) (d / 6) = 1) from nI_eq (b := 1) (by omega) (by decide)]
  exact ⟨fun z => ⟨bool0, hn z⟩, fun z => ⟨bool1, hy z⟩⟩
def vlE (o : Option (Nat × Nat)) : Nat := match o with
  | none => 268435456
  | some p => 10000 * p.1 + p.2
def RI (op : Nat → Prop) (dr : Nat → Nat) (s : Nat) (E : Ent) : Prop := (∀ c p, E c = some p → c < 36 ∧ Wp op dr s p.1 c p.2 ∧ p.1 + 1 ≤ cntE E 36) ∧ (op s → ∃ p, E s = some p ∧ p.1 = 0 ∧ p.2 ≤ dr s)
def rlE (E : Ent) (d k v : Nat) : Ent := fun c => if c = d then some (k, v) else E c
theorem RI_low {op : Nat → Prop} {dr : Nat → Nat} {s : Nat} {E : Ent} (h : RI op dr s E) (hs : s < 36) (hd : ∀ c, c < 36 → dr c ≤ 99) {c : Nat} {p : Nat × Nat} (hp : E c = some p) : c < 36 ∧ p.1 < 36 ∧ p.2 ≤ 3564 := by
  obtain ⟨a, b, e⟩ := h.1 c p hp
  have h1 := (Wp_ok hs hd _ _ _ b).2.1
  have h2 := cntE_le E 36
  exact ⟨a, by omega, by omega⟩
theorem RI_relax {op : Nat → Prop} {dr : Nat → Nat} {s : Nat} {E : Ent} {c d t : Nat} {p : Nat × Nat} (h : RI op dr s E) (hs : s < 36) (hd : ∀ c, c < 36 → dr c ≤ 99) (hp : E c = some p) (ht : t < 4) (hn : nbS c t = some d) (ho : op d) (hv : 10000 * (p.1 + 1) + (p.2 + dr d) < vlE (E d)) : RI op dr s (rlE E d (p.1 + 1) (p.2 + dr d)) := by
  obtain ⟨c1, c2, c3⟩ := RI_low h hs hd hp
  have hdl := nbS_lt c1 hn
  have hdd := hd d hdl
  obtain ⟨r1, r2⟩ := h
  obtain ⟨x1, x2, x3⟩ := r1 c p hp
  have hW : Wp op dr s (p.1 + 1) d (p.2 + dr d) := ⟨c, p.2, t, x2, ht, hn, ho, rfl⟩
  have f1 : rlE E d (p.1 + 1) (p.2 + dr d) d = some (p.1 + 1, p.2 + dr d) := if_pos rfl
  have f2 : ∀ e, ¬ e = d → rlE E d (p.1 + 1) (p.2 + dr d) e = E e := fun e he => if_neg he
  generalize rlE E d (p.1 + 1) (p.2 + dr d) = E' at f1 f2 ⊢
  have hcnt : cntE E 36 ≤ cntE E' 36 ∧ p.1 + 1 + 1 ≤ cntE E' 36 := by
    cases hE : E d with
    | none =>
      have := cntE_new hE (by rw [f1]; rfl) f2 36 hdl
      omega
    | some q =>
      have e1 : cntE E' 36 = cntE E 36 := cntE_same (fun e _ => by
        by_cases z : e = d
        · rw [z, f1, hE]; rfl
        · rw [f2 e z])
      obtain ⟨q1, q2, q3⟩ := r1 d q hE
      have q4 := (Wp_ok hs hd _ _ _ q2).2.1
      have q5 := cntE_le E 36
      rw [hE] at hv
      unfold vlE at hv
      dsimp only at hv
      omega
  refine ⟨fun e q hq => ?_, fun hos => ?_⟩
  · by_cases z : e = d
    · rw [z, f1] at hq
      have := Option.some.inj hq
      subst this
      rw [z]
      exact ⟨hdl, hW, hcnt.2⟩
    · rw [f2 e z] at hq
      obtain ⟨y1, y2, y3⟩ := r1 e q hq
      exact ⟨y1, y2, by omega⟩
  · obtain ⟨q, q1, q2, q3⟩ := r2 hos
    have : ¬ s = d := by
      intro z
      rw [z] at q1 q3
      rw [q1] at hv
      unfold vlE at hv
      dsimp only at hv
      omega
    exact ⟨q, by rw [f2 s this]; exact q1, q2, q3⟩
def RelE (op : Nat → Prop) (dr : Nat → Nat) (E : Ent) (c d : Nat) : Prop := ∀ p, E c = some p → (∃ t, t < 4 ∧ nbS c t = some d) → op d → vlE (E d) ≤ 10000 * (p.1 + 1) + (p.2 + dr d)
theorem RI_end {op : Nat → Prop} {dr : Nat → Nat} {s : Nat} {E : Ent} (h : RI op dr s E) (hs : s < 36) (hd : ∀ c, c < 36 → dr c ≤ 99) (hr : ∀ c, c < 36 → ∀ d, d < 36 → RelE op dr E c d) : Short op dr s E := by
  refine ⟨fun c p hp => (h.1 c p hp).2.1, ?_⟩
  intro k
  induction k with
  | zero =>
    intro c m hw
    obtain ⟨a, b, e⟩ := hw
    obtain ⟨p, p1, p2, p3⟩ := h.2 b
    rw [a]
    exact ⟨p, p1, by omega, fun _ => by omega⟩
  | succ k ih =>
    intro d m hw
    obtain ⟨c, m', t, h1, h2, h3, h4, h5⟩ := hw
    obtain ⟨p, p1, p2, p3⟩ := ih c m' h1
    obtain ⟨c1, c2, c3⟩ := RI_low h hs hd p1
    have hdl := nbS_lt c1 h3
    have hdd := hd d hdl
    have hv := hr c c1 d hdl p p1 ⟨t, h2, h3⟩ h4
    cases hE : E d with
    | none =>
      rw [hE] at hv
      unfold vlE at hv
      dsimp only at hv
      omega
    | some q =>
      rw [hE] at hv
      unfold vlE at hv
      dsimp only at hv
      refine ⟨q, rfl, by omega, fun e => ?_⟩
      have := p3 (by omega)
      omega
theorem sm_lt {f g : Nat → Nat} {d : Nat} (h : ∀ c, ¬ c = d → g c = f c) (hd : g d < f d) : ∀ n, d < n → smN g n < smN f n
  | 0, hn => absurd hn (by omega)
  | n + 1, hn => by
    rw [smN, smN]
    by_cases e : d = n
    · have : smN g n = smN f n := smN_cong (fun c hc => h c (by omega))
      rw [this, ← e]
      omega
    · have := sm_lt h hd n (by omega)
      rw [h n (fun z => e z.symm)]
      omega
def msE (E : Ent) : Nat := smN (fun c => vlE (E c)) 36
theorem ms_relax {E : Ent} {d k v : Nat} (hd : d < 36) (hv : 10000 * k + v < vlE (E d)) : msE (rlE E d k v) < msE E := by
  unfold msE
  refine sm_lt (d := d) (fun c hc => ?_) ?_ 36 hd
  · show vlE (rlE E d k v c) = vlE (E c)
    unfold rlE
    rw [if_neg hc]
  · show vlE (rlE E d k v d) < vlE (E d)
    unfold rlE
    rw [if_pos rfl]
    exact hv
