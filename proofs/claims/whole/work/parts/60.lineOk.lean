/-! TEXT: what a line that was read is like; the whole text -/
def inR (rs : List (Nat × Nat)) (vs : List Nat) : Prop := vs.length = rs.length ∧ ∀ j, j < rs.length → (rs.getD j (0, 0)).1 ≤ vs.getD j 0 ∧ vs.getD j 0 ≤ (rs.getD j (0, 0)).2
theorem rdS_in {B : Nat → Int32} {len f lo hi : Nat} {p : Nat × Nat} (h : rdS B len f lo hi = some p) : lo ≤ p.1 ∧ p.1 ≤ hi := by
  unfold rdS at h
  cases hv : nuS B len f with
  | none =>
    rw [hv] at h
    exact absurd h (by simp)
  | some v =>
    rw [hv] at h
    dsimp only at h
    by_cases z : lo ≤ v ∧ v ≤ hi
    · rw [if_pos z] at h
      have := Option.some.inj h
      subst this
      exact z
    · rw [if_neg z] at h
      exact absurd h (by simp)
theorem rdL_in {B : Nat → Int32} {len : Nat} : ∀ rs f z, rdL B len rs f = .inr z → inR rs z.1
  | [], f, z, h => by
    rw [rdL] at h
    have := Sum.inr.inj h
    subst this
    exact ⟨rfl, fun j hj => absurd hj (Nat.not_lt_zero j)⟩
  | r :: rs, f, z, h => by
    rw [rdL] at h
    cases hr : rdS B len f r.1 r.2 with
    | none =>
      rw [hr] at h
      exact absurd h (by simp)
    | some p =>
      rw [hr] at h
      dsimp only at h
      cases hq : rdL B len rs p.2 with
      | inl q =>
        rw [hq] at h
        exact absurd h (by simp)
      | inr y =>
        rw [hq] at h
        dsimp only at h
        have := Sum.inr.inj h
        subst this
        obtain ⟨a, b⟩ := rdL_in rs p.2 y hq
        have hp := rdS_in hr
        refine ⟨by dsimp only; rw [List.length_cons, List.length_cons, a], fun j hj => ?_⟩
        cases j with
        | zero => exact hp
        | succ j =>
          rw [List.length_cons] at hj
          exact b j (by omega)
/-- the ranges of a line's numbers -/
def rgS (w : Nat) : List (Nat × Nat) := if w = 0 then [(0, 3), (0, 3), (0, 9)] else if w = 1 then [(0, 3), (1, 300), (1, 99)] else if w = 2 then [(0, 3)] else raS w
theorem inR_3 {a b c x y z : Nat} {l1 h1 l2 h2 l3 h3 : Nat} (e1 : a = x) (e2 : b = y) (e3 : c = z) (q1 : l1 ≤ x ∧ x ≤ h1) (q2 : l2 ≤ y ∧ y ≤ h2) (q3 : l3 ≤ z ∧ z ≤ h3) : inR [(l1, h1), (l2, h2), (l3, h3)] [a, b, c] := by
  subst e1; subst e2; subst e3
  refine ⟨rfl, fun j hj => ?_⟩
  have hj3 : j < 3 := hj
  rcases Nat.lt_or_ge j 1 with u | u
  · rw [show j = 0 by omega]; exact q1
  · rcases Nat.lt_or_ge j 2 with u | u
    · rw [show j = 1 by omega]; exact q2
    · rw [show j = 2 by omega]; exact q3
theorem wdS_lt {B : Nat → Int32} {len f w : Nat} (h : wdS B len f = some w) : w < 9 := by
  unfold wdS at h
  repeat' (split at h)
  all_goals first
    | (have := Option.some.inj h; omega)
    | exact absurd h (by simp)
theorem lnS_ok {B : Nat → Int32} {len : Nat} {C : Nat → Nat} {f w g : Nat} {vs : List Nat} (h : lnS B len C f = .inr (w, vs, g)) : w < 9 ∧ inR (rgS w) vs ∧ (w = 1 → ¬ C (vs.getD 0 0) = 4) := by
  unfold lnS at h
  cases hw : wdS B len f with
  | none =>
    rw [hw] at h
    exact absurd h (by simp)
  | some u =>
    have hu := wdS_lt hw
    rw [hw] at h
    dsimp only at h
    by_cases u0 : u = 0
    · rw [if_pos u0] at h
      cases hr : rdS B len (nxS B len f) 0 3 with
      | none => rw [hr] at h; exact absurd h (by simp)
      | some p =>
        rw [hr] at h
        dsimp only at h
        have hp := rdS_in hr
        cases hk : kdS B len p.2 with
        | none => rw [hk] at h; exact absurd h (by simp)
        | some k =>
          rw [hk] at h
          dsimp only at h
          have hk4 := kdS_lt hk
          by_cases k0 : k = 0
          · rw [if_pos k0] at h
            have e := Sum.inr.inj h
            simp only [Prod.mk.injEq] at e
            obtain ⟨e1, e2, e3⟩ := e
            subst e1; subst e2
            exact ⟨by decide, inR_3 rfl rfl rfl hp (by omega) (by omega), fun z => absurd z (by decide)⟩
          · rw [if_neg k0] at h
            cases hq : rdS B len (nxS B len p.2) 1 9 with
            | none => rw [hq] at h; exact absurd h (by simp)
            | some q =>
              rw [hq] at h
              dsimp only at h
              have hq9 := rdS_in hq
              have e := Sum.inr.inj h
              simp only [Prod.mk.injEq] at e
              obtain ⟨e1, e2, e3⟩ := e
              subst e1; subst e2
              exact ⟨by decide, inR_3 rfl rfl rfl hp (by omega) (by omega), fun z => absurd z (by decide)⟩
    · rw [if_neg u0] at h
      by_cases u1 : u = 1
      · rw [if_pos u1] at h
        cases hr : rdS B len (nxS B len f) 0 3 with
        | none => rw [hr] at h; exact absurd h (by simp)
        | some p =>
          rw [hr] at h
          dsimp only at h
          have hp := rdS_in hr
          by_cases c4 : C p.1 = 4
          · rw [if_pos c4] at h; exact absurd h (by simp)
          · rw [if_neg c4] at h
            cases hq : rdL B len [(1, 300), (1, 99)] p.2 with
            | inl q => rw [hq] at h; exact absurd h (by simp)
            | inr z =>
              rw [hq] at h
              dsimp only at h
              obtain ⟨z1, z2⟩ := rdL_in _ _ z hq
              have e := Sum.inr.inj h
              simp only [Prod.mk.injEq] at e
              obtain ⟨e1, e2, e3⟩ := e
              subst e1; subst e2
              refine ⟨by decide, ⟨by rw [List.length_cons, z1]; rfl, fun j hj => ?_⟩, fun _ => c4⟩
              cases j with
              | zero => exact hp
              | succ j =>
                have hj3 : j + 1 < 3 := hj
                exact z2 j (show j < 2 by omega)
      · rw [if_neg u1] at h
        by_cases u2 : u = 2
        · rw [if_pos u2] at h
          cases hq : rdL B len [(0, 3)] (nxS B len f) with
          | inl q => rw [hq] at h; exact absurd h (by simp)
          | inr z =>
            rw [hq] at h
            dsimp only at h
            have hz := rdL_in _ _ z hq
            have e := Sum.inr.inj h
            simp only [Prod.mk.injEq] at e
            obtain ⟨e1, e2, e3⟩ := e
            subst e1; subst e2
            exact ⟨by decide, hz, fun z => absurd z (by decide)⟩
        · rw [if_neg u2] at h
          cases hq : rdL B len (raS u) (nxS B len f) with
          | inl q => rw [hq] at h; exact absurd h (by simp)
          | inr z =>
            rw [hq] at h
            dsimp only at h
            have hz := rdL_in _ _ z hq
            have e := Sum.inr.inj h
            simp only [Prod.mk.injEq] at e
            obtain ⟨e1, e2, e3⟩ := e
            subst e1; subst e2
            refine ⟨hu, ?_, fun z => absurd z u1⟩
            unfold rgS
            rw [if_neg u0, if_neg u1, if_neg u2]
            exact hz
