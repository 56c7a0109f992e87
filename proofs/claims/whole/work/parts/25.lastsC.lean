/-! PURE: the class's way of counting: it marks states and stops where one comes again -/
section CYC
variable {N : Nat → Int32} {kd own lg : Int32} {ago : Nat} {mi : Bool} {x0 v0 : Int32}
theorem run_stable : ∀ t j, j ≤ t → (runS N kd own lg ago mi x0 v0 t).1 j = xS N kd own lg ago mi x0 v0 j := by
  intro t
  induction t with
  | zero =>
    intro j hj
    have e : j = 0 := by omega
    subst e
    rfl
  | succ t ih =>
    intro j hj
    by_cases h : j = t + 1
    · subst h; rfl
    · show upd (runS N kd own lg ago mi x0 v0 t).1 (t + 1) _ j = _
      rw [pk_un h]
      exact ih j (by omega)
/-- from two times on that look alike, all goes alike -/
theorem run_again {a b : Nat} (hp : a % 2 = b % 2) (hx : ∀ d, d ≤ ago + 1 → xS N kd own lg ago mi x0 v0 (a - d) = xS N kd own lg ago mi x0 v0 (b - d)) (hv : (runS N kd own lg ago mi x0 v0 a).2.1 = (runS N kd own lg ago mi x0 v0 b).2.1) (hf : (runS N kd own lg ago mi x0 v0 a).2.2.1 = (runS N kd own lg ago mi x0 v0 b).2.2.1) :
    ∀ j, (∀ d, d ≤ ago + 1 → xS N kd own lg ago mi x0 v0 (a + j - d) = xS N kd own lg ago mi x0 v0 (b + j - d)) ∧ (runS N kd own lg ago mi x0 v0 (a + j)).2.1 = (runS N kd own lg ago mi x0 v0 (b + j)).2.1 ∧ (runS N kd own lg ago mi x0 v0 (a + j)).2.2.1 = (runS N kd own lg ago mi x0 v0 (b + j)).2.2.1 := by
  intro j
  induction j with
  | zero => exact ⟨hx, hv, hf⟩
  | succ j ih =>
    obtain ⟨i1, i2, i3⟩ := ih
    have e0 : (runS N kd own lg ago mi x0 v0 (a + j)).1 (a + j) = (runS N kd own lg ago mi x0 v0 (b + j)).1 (b + j) := i1 0 (by omega)
    have e1 : (runS N kd own lg ago mi x0 v0 (a + j)).1 (a + j - ago) = (runS N kd own lg ago mi x0 v0 (b + j)).1 (b + j - ago) := by
      rw [run_stable _ _ (by omega), run_stable _ _ (by omega)]; exact i1 ago (by omega)
    have e2 : (runS N kd own lg ago mi x0 v0 (a + j)).1 (a + j - (ago + 1)) = (runS N kd own lg ago mi x0 v0 (b + j)).1 (b + j - (ago + 1)) := by
      rw [run_stable _ _ (by omega), run_stable _ _ (by omega)]; exact i1 (ago + 1) (by omega)
    have ep : pullS N (a + j) = pullS N (b + j) := by
      have : (a + j) % 2 = (b + j) % 2 := by omega
      unfold pullS
      rw [this]
    have em : mS N ago mi (a + j) (runS N kd own lg ago mi x0 v0 (a + j)) = mS N ago mi (b + j) (runS N kd own lg ago mi x0 v0 (b + j)) := by
      unfold mS mvS
      rw [e1, e2, i3]
    have ev : vS N kd own lg 0 (a + j) (runS N kd own lg ago mi x0 v0 (a + j)) = vS N kd own lg 0 (b + j) (runS N kd own lg ago mi x0 v0 (b + j)) := by
      unfold vS
      rw [e0, i2, ep]
    refine ⟨?_, ?_, ?_⟩
    · intro d hd
      by_cases hd0 : d = 0
      · subst hd0
        show (stepS N kd own lg ago mi 0 (a + j) (runS N kd own lg ago mi x0 v0 (a + j))).1 (a + j + 1) = (stepS N kd own lg ago mi 0 (b + j) (runS N kd own lg ago mi x0 v0 (b + j))).1 (b + j + 1)
        simp only [stepS, pk_us]
        rw [e0, ev, em]
      · have := i1 (d - 1) (by omega)
        rw [show a + (j + 1) - d = a + j - (d - 1) by omega, show b + (j + 1) - d = b + j - (d - 1) by omega]
        exact this
    · exact ev
    · show (runS N kd own lg ago mi x0 v0 (a + j)).2.2.1 + mS N ago mi (a + j) (runS N kd own lg ago mi x0 v0 (a + j)) = (runS N kd own lg ago mi x0 v0 (b + j)).2.2.1 + mS N ago mi (b + j) (runS N kd own lg ago mi x0 v0 (b + j))
      rw [i3, em]
theorem run_never {a b : Nat} (hab : b < a) (hp : a % 2 = b % 2) (hx : ∀ d, d ≤ ago + 1 → xS N kd own lg ago mi x0 v0 (a - d) = xS N kd own lg ago mi x0 v0 (b - d)) (hv : (runS N kd own lg ago mi x0 v0 a).2.1 = (runS N kd own lg ago mi x0 v0 b).2.1) (hf : (runS N kd own lg ago mi x0 v0 a).2.2.1 = (runS N kd own lg ago mi x0 v0 b).2.2.1) (hn : ∀ s, s ≤ a → fallS N kd own lg ago mi x0 v0 s = false) : ∀ s, fallS N kd own lg ago mi x0 v0 s = false := by
  intro s
  induction s using Nat.strongRecOn with
  | ind s ih =>
    by_cases h : s ≤ a
    · exact hn s h
    · have e := (run_again hp hx hv hf (s - a)).1 0 (by omega)
      have e2 := ih (b + (s - a)) (by omega)
      unfold fallS at e2 ⊢
      rw [show a + (s - a) - 0 = s by omega, show b + (s - a) - 0 = b + (s - a) by omega] at e
      rw [e]
      exact e2
end CYC
def offK (σ σ' : St) : Prop := ∀ c o k, ¬ ((c = 13 ∨ c = 14) ∧ (o = 3 ∨ o = 4)) → σ' c o k = σ c o k
theorem offK.trans {a b c : St} (h1 : offK a b) (h2 : offK b c) : offK a c := fun x y z h => (h2 x y z h).trans (h1 x y z h)
theorem offK.rf {a : St} : offK a a := fun _ _ _ _ => rfl
theorem offB.K {a b : St} {o : Nat} (ho : o = 3 ∨ o = 4) (h : offB o a b) : offK a b := fun c o' k hn => h c o' k (fun z => hn ⟨z.1, by rw [z.2]; exact ho⟩)
theorem RuC.off {σ σ' : St} {N : Nat → Int32} {ru la : Nat} (h : RuC σ ru N la) (ho : offK σ σ') : RuC σ' ru N la := by
  have e : ∀ k, σ' 6 ru k = σ 6 ru k := fun k => ho 6 ru k (by omega)
  unfold RuC
  simp only [e]
  exact h
theorem ThC.off {σ σ' : St} {kd own lg : Int32} {th ob : Nat} (h : ThC σ th kd own lg ob) (ho : offK σ σ') : ThC σ' th kd own lg ob := by
  have e : ∀ k, σ' 2 th k = σ 2 th k := fun k => ho 2 th k (by omega)
  unfold ThC
  simp only [e]
  exact h
theorem sp_startC {σ : St} {o : Nat} {x1 x0 v0 : Int32} {post : St → Prop} (h : ∀ σ', offB o σ σ' → σ' 13 o 0 = x1 → Bal σ' o 0 (fun _ => x0, v0, 0, 0) → post σ') : wp_X0_start o x1 x0 v0 post σ := by
  unfold wp_X0_start
  refine h _ ?_ ?_ ?_
  · intro c o' k hn
    have h1 : ¬ (c = 13 ∧ o' = o) := fun z => hn ⟨Or.inl z.1, z.2⟩
    have h2 : ¬ (c = 14 ∧ o' = o) := fun z => hn ⟨Or.inr z.1, z.2⟩
    rw [su_ne h2, su_ne h1, su_ne h1, su_ne h1, su_ne h1, su_ne h1, su_ne h1]
  · rw [su_nc rfl, su_nk rfl, su_nk rfl, su_nk rfl, su_nk rfl, su_nk rfl, su_eq]
  · refine ⟨?_, ?_, ?_, ?_, ?_, ?_⟩
    · rw [su_nc rfl, su_nk rfl, su_eq]; rfl
    · rw [su_nc rfl, su_nk rfl, su_nk rfl, su_nk rfl, su_nk rfl, su_eq]
    · rw [su_nc rfl, su_nk rfl, su_nk rfl, su_nk rfl, su_eq]
    · rw [su_nc rfl, su_nk rfl, su_nk rfl, su_eq]
    · rw [su_nc rfl, su_eq]
    · intro j hj _
      have e : j = 0 := by omega
      subst e
      rw [Nat.zero_mod, su_eq]
theorem sp_copyC {σ : St} {o o1 t : Nat} {q : Q4} {post : St → Prop} (hne : ¬ o1 = o) (hB : Bal σ o1 t q) (h : ∀ σ', offB o σ σ' → σ' 13 o 0 = σ 13 o1 0 → Bal σ' o t q → post σ') : wp_X0_copy o o1 post σ := by
  obtain ⟨b1, b2, b3, b4, b5, b6⟩ := hB
  unfold wp_X0_copy
  refine h _ ?_ ?_ ?_
  · intro c o' k hn
    have h1 : ¬ (c = 13 ∧ o' = o) := fun z => hn ⟨Or.inl z.1, z.2⟩
    have h2 : ¬ (c = 14 ∧ o' = o) := fun z => hn ⟨Or.inr z.1, z.2⟩
    rw [sr_ne h2, su_ne h1, su_ne h1, su_ne h1, su_ne h1, su_ne h1, su_ne h1]
  · rw [sr_nc rfl, su_nk rfl, su_nk rfl, su_nk rfl, su_nk rfl, su_nk rfl, su_eq]
  · refine ⟨?_, ?_, ?_, ?_, ?_, ?_⟩
    · rw [sr_nc rfl, su_nk rfl, su_eq, b1]
    · rw [sr_nc rfl, su_nk rfl, su_nk rfl, su_nk rfl, su_nk rfl, su_eq, b2]
    · rw [sr_nc rfl, su_nk rfl, su_nk rfl, su_nk rfl, su_eq, b3]
    · rw [sr_nc rfl, su_nk rfl, su_nk rfl, su_eq, b4]
    · rw [sr_nc rfl, su_eq, b5]
    · intro j hj hj2
      have hlt : j % 32 < 32 := Nat.mod_lt _ (by decide)
      rw [sr_eq, pk_cpy_in (Nat.zero_le _) (by omega), Nat.zero_add, Nat.sub_zero, su_nc rfl, su_nc rfl, su_nc rfl, su_nc rfl, su_nc rfl, su_nc rfl]
      exact b6 j hj hj2
