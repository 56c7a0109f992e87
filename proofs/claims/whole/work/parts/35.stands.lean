/-! PURE: STANDS -/
def Nsh (N : Nat → Int32) (s : Nat) : Nat → Int32 := fun k => if k = 9 then nI s else N k
theorem Nsh_NB {N : Nat → Int32} {s : Nat} (h : NB N) (hs : s ≤ 99) : NB (Nsh N s) := by
  intro k hk
  unfold Nsh
  by_cases h0 : k = 9
  · subst h0
    rw [if_pos rfl, nI_toInt (by omega)]
    have e1 : (tLeast.getD 9 0).toInt = 0 := by decide
    have e2 : (tMost.getD 9 0).toInt = 99 := by decide
    omega
  · rw [if_neg h0]
    exact h k hk
def stK (N : Nat → Int32) (kd own lg : Int32) (ago : Nat) (x0 : Int32) (s : Nat) : Prop := lastF (fallS (Nsh N s) kd own lg ago false x0 0) 400 0 = 400
def StandIs (P : Nat → Prop) (r : Int32) : Prop := (∃ s : Nat, s < 100 ∧ r = nI s ∧ P s ∧ ∀ j, j < s → ¬ P j) ∨ (r = -1 ∧ ∀ j, j < 100 → ¬ P j)
theorem StandIs.uni {P : Nat → Prop} {r r' : Int32} (h : StandIs P r) (h' : StandIs P r') : r = r' := by
  rcases h with ⟨a, a1, a2, a3, a4⟩ | ⟨a1, a2⟩ <;> rcases h' with ⟨b, b1, b2, b3, b4⟩ | ⟨b1, b2⟩
  · have : a = b := by
      rcases Nat.lt_trichotomy a b with z | z | z
      · exact absurd a3 (b4 a z)
      · exact z
      · exact absurd b3 (a4 b z)
    rw [a2, b2, this]
  · exact absurd a3 (b2 a a1)
  · exact absurd b3 (a2 b b1)
  · rw [a1, b1]
theorem sp_aloneC {σ : St} {N : Nat → Int32} {kd own lg x0 : Int32} {th la ob : Nat} {post : Int32 → St → Prop} (hT : ThC σ th kd own lg ob) (hR : RuC σ 1 N la) (h1 : ∀ σ', lastF (fallS N kd own lg (agoS la kd ob) false x0 0) 400 0 = 400 → offK σ σ' → post 1 σ') (h0 : ∀ σ', ¬ lastF (fallS N kd own lg (agoS la kd ob) false x0 0) 400 0 = 400 → offK σ σ' → post 0 σ') : wp_X4_standsAlone th x0 post σ := by
  have fin : ∀ t σ1, t ≤ 400 → offK σ σ1 → σ1 13 3 4 = nI t → lastF (fallS N kd own lg (agoS la kd ob) false x0 0) 400 0 = t → wp_X4_standsAlone_53 th x0 post σ1 := by
    intro t σ1 ht ho e hl
    unfold wp_X4_standsAlone_53 wp_X4_standsAlone_71
    have e4 : nI t = 400 ↔ t = 400 := nI_eq (b := 400) (by omega) (by decide)
    rw [e, e4]
    exact ⟨fun hc => ⟨bool0, h0 σ1 (by rw [hl]; exact hc) ho⟩, fun hc => ⟨bool1, h1 σ1 (by rw [hl]; exact hc) ho⟩⟩
  have loop : ∀ n t σ1, t + n = 400 → offK σ σ1 → Bal σ1 3 t (runS N kd own lg (agoS la kd ob) false x0 0 t) → (∀ s, s < t → fallS N kd own lg (agoS la kd ob) false x0 0 s = false) → lastF (fallS N kd own lg (agoS la kd ob) false x0 0) n t = lastF (fallS N kd own lg (agoS la kd ob) false x0 0) 400 0 → wp_X4_standsAlone_12 th x0 post (n + 1) (nI t) σ1 := by
    intro n
    induction n with
    | zero =>
      intro t σ1 e ho hB hn hl
      unfold wp_X4_standsAlone_12
      exact ⟨fun _ => fin t σ1 (by omega) ho hB.1 (by rw [← hl]; rfl), fun hc => absurd (nI_le (a := 400) (b := t) (by omega) (by omega)) hc⟩
    | succ n ih =>
      intro t σ1 e ho hB hn hl
      have hR1 := hR.off ho
      unfold wp_X4_standsAlone_12
      refine ⟨fun hc => absurd hc (nI_ge (a := t) (b := 400) (by omega) (by omega)), fun _ => ?_⟩
      rw [e_fellC (hR1.1 7 (by decide)) hB.2.1]
      refine ⟨fun hf => ?_, fun hf => ?_⟩
      · rw [bi_1] at hf
        refine fin t σ1 (by omega) ho hB.1 ?_
        rw [← hl, lastF, if_pos (show fallS N kd own lg (agoS la kd ob) false x0 0 t = true from hf)]
      · rw [bi_0] at hf
        have hf' : fallS N kd own lg (agoS la kd ob) false x0 0 t = false := by
          cases hc : fallS N kd own lg (agoS la kd ob) false x0 0 t with
          | false => rfl
          | true => exact absurd hc hf
        have hall : ∀ s, s ≤ t → fallS N kd own lg (agoS la kd ob) false x0 0 s = false := by
          intro s hst
          by_cases hst2 : s = t
          · subst hst2; exact hf'
          · exact hn s (by omega)
        rw [lastF, if_neg (show ¬ fallS N kd own lg (agoS la kd ob) false x0 0 t = true by rw [hf']; decide)] at hl
        refine sp_tickC hB (hT.off ho) hR1 (hist_ok hR.2.2.2 hall) (by omega) (mi := false) (by decide) (fun σ3 hof _ hB3 => ?_)
        rw [nI_1]
        exact ih (t + 1) σ3 (by omega) (ho.trans (hof.K (Or.inl rfl))) hB3 (fun s hs3 => hall s (by omega)) hl
  unfold wp_X4_standsAlone
  exact sp_startC (fun σ1 hof _ hB => ⟨401, loop 400 0 σ1 (by omega) (hof.K (Or.inl rfl)) hB (fun s hs => by omega) rfl⟩)
def Ru9 (σ : St) (N : Nat → Int32) (la : Nat) : Prop := (∀ k, k < 9 → σ 6 1 k = N k) ∧ N 2 = nI la ∧ la ≤ 6 ∧ NB N
def off9 (σ σ' : St) : Prop := ∀ c o k, ¬ ((c = 6 ∧ o = 1 ∧ k = 9) ∨ ((c = 13 ∨ c = 14) ∧ (o = 3 ∨ o = 4))) → σ' c o k = σ c o k
theorem off9.trans {a b c : St} (h1 : off9 a b) (h2 : off9 b c) : off9 a c := fun x y z h => (h2 x y z h).trans (h1 x y z h)
theorem sp_leastShakeC {σ : St} {N : Nat → Int32} {kd own lg x0 : Int32} {th la ob : Nat} {post : Int32 → St → Prop} (hT : ThC σ th kd own lg ob) (hR : Ru9 σ N la) (h : ∀ r σ', StandIs (stK N kd own lg (agoS la kd ob) x0) r → off9 σ σ' → post r σ') : wp_X4_leastShake th x0 post σ := by
  have e99 : tMost.getD 9 0 = nI 99 := rfl
  have loop : ∀ n s σ1, s + n = 100 → off9 σ σ1 → (∀ j, j < s → ¬ stK N kd own lg (agoS la kd ob) x0 j) → wp_X4_leastShake_2 th x0 post (n + 1) (nI s) σ1 := by
    intro n
    induction n with
    | zero =>
      intro s σ1 e ho hn
      unfold wp_X4_leastShake_2
      rw [e99]
      exact ⟨fun _ => h (-1) σ1 (Or.inr ⟨rfl, fun j hj => hn j (by omega)⟩) ho, fun hc => absurd (nI_lt (a := 99) (b := s) (by omega) (by omega)) hc⟩
    | succ n ih =>
      intro s σ1 e ho hn
      unfold wp_X4_leastShake_2
      rw [e99]
      refine ⟨fun hc => absurd hc (nI_nlt (a := 99) (b := s) (by omega) (by omega)), fun _ => ?_⟩
      have ho2 : off9 σ (su σ1 6 1 9 (nI s)) := by
        intro c o z hz
        have n0 : ¬ (c = 6 ∧ z = 9 ∧ o = 1) := by omega
        rw [← ho c o z hz]
        simp [su, n0]
      have hR2 : RuC (su σ1 6 1 9 (nI s)) 1 (Nsh N s) la := by
        obtain ⟨r1, r2, r3, r4⟩ := hR
        refine ⟨fun k hk => ?_, ?_, r3, Nsh_NB r4 (by omega)⟩
        · unfold Nsh
          by_cases h9 : k = 9
          · subst h9; rw [if_pos rfl, su_eq]
          · rw [if_neg h9, ho2 6 1 k (by omega)]
            exact r1 k (by omega)
        · unfold Nsh; rw [if_neg (by decide)]; exact r2
      have hT2 : ThC (su σ1 6 1 9 (nI s)) th kd own lg ob := by
        have e2 : ∀ k, (su σ1 6 1 9 (nI s)) 2 th k = σ 2 th k := fun k => ho2 2 th k (by omega)
        unfold ThC
        simp only [e2]
        exact hT
      refine sp_aloneC hT2 hR2 (fun σ2 hk o2 => ?_) (fun σ2 hk o2 => ?_)
      · refine ⟨fun hc => absurd hc (by decide), fun _ => ?_⟩
        exact h (nI s) σ2 (Or.inl ⟨s, by omega, rfl, hk, hn⟩) (ho2.trans (fun c o z hz => o2 c o z (by omega)))
      · refine ⟨fun _ => ?_, fun hc => absurd rfl hc⟩
        rw [nI_1]
        refine ih (s + 1) σ2 (by omega) (ho2.trans (fun c o z hz => o2 c o z (by omega))) (fun j hj => ?_)
        by_cases hj2 : j = s
        · rw [hj2]; exact hk
        · exact hn j (by omega)
  exact ⟨101, loop 100 0 σ (by omega) (fun _ _ _ _ => rfl) (fun j hj => by omega)⟩
def offM9 (μ μ' : St) : Prop := ∀ c o k, ¬ ((c = 0 ∧ k = 31) ∨ (c = 8 ∧ k < 402) ∨ ((c = 9 ∨ c = 10 ∨ c = 11 ∨ c = 12) ∧ k = 0)) → μ' c o k = μ c o k
theorem offM9.trans {a b c : St} (h1 : offM9 a b) (h2 : offM9 b c) : offM9 a c := fun x y z h => (h2 x y z h).trans (h1 x y z h)
theorem sp_standsM {μ : St} {N : Nat → Int32} {kd own lg x0 x1 : Int32} {la ob : Nat} {post : Int32 → St → Prop} (hT : ThM μ kd own lg ob) (hR : RuM μ N la) (h : ∀ r μ', StandIs (stK N kd own lg (agoS la kd ob) x0) r → offM9 μ μ' → post r μ') : ∃ nn, wp_X9_stands_39 x1 x0 post nn 0 μ := by
  have loop : ∀ n s μ1, s + n = 100 → offM9 μ μ1 → (∀ j, j < s → ¬ stK N kd own lg (agoS la kd ob) x0 j) → wp_X9_stands_39 x1 x0 post (n + 1) (nI s) μ1 := by
    intro n
    induction n with
    | zero =>
      intro s μ1 e ho hn
      unfold wp_X9_stands_39
      exact ⟨fun _ => h (-1) μ1 (Or.inr ⟨rfl, fun j hj => hn j (by omega)⟩) ho, fun hc => absurd (nI_le (a := 100) (b := s) (by omega) (by omega)) hc⟩
    | succ n ih =>
      intro s μ1 e ho hn
      unfold wp_X9_stands_39
      refine ⟨fun hc => absurd hc (nI_ge (a := s) (b := 100) (by omega) (by omega)), fun _ => ?_⟩
      have ho2 : offM9 μ (su μ1 0 0 31 (nI s)) := by
        intro c o z hz
        have n0 : ¬ (c = 0 ∧ z = 31 ∧ o = 0) := by omega
        rw [← ho c o z hz]
        simp [su, n0]
      have e2 : ∀ k, ¬ k = 31 → (su μ1 0 0 31 (nI s)) 0 0 k = μ 0 0 k := fun k hk => ho2 0 0 k (by omega)
      have hR2 : RuM (su μ1 0 0 31 (nI s)) (Nsh N s) la := by
        obtain ⟨a1, a2, a3, a4, a5, a6, a7, a8, a9, a10, a11, a12, a13⟩ := hR
        have g : ∀ k, ¬ k = 9 → Nsh N s k = N k := fun k hk => if_neg hk
        unfold RuM
        rw [e2 28 (by decide), e2 29 (by decide), e2 30 (by decide), su_eq, e2 11 (by decide), e2 12 (by decide), e2 13 (by decide), e2 14 (by decide), e2 15 (by decide), e2 16 (by decide), g 0 (by decide), g 1 (by decide), g 2 (by decide), g 3 (by decide), g 4 (by decide), g 5 (by decide), g 6 (by decide), g 7 (by decide), g 8 (by decide)]
        exact ⟨a1, a2, a3, rfl, a5, a6, a7, a8, a9, a10, a11, a12, Nsh_NB a13 (by omega)⟩
      have hT2 : ThM (su μ1 0 0 31 (nI s)) kd own lg ob := by
        unfold ThM
        rw [e2 32 (by decide), e2 33 (by decide), e2 34 (by decide)]
        exact hT
      refine sp_lastsM hR2 hT2 (mi := false) (by decide) (fun μ2 o2 => ?_)
      have hl := (lastF_bounds (F := fallS (Nsh N s) kd own lg (agoS la kd ob) false x0 0) 400 0).2
      have e4 : nI (lastF (fallS (Nsh N s) kd own lg (agoS la kd ob) false x0 0) 400 0) = 400 ↔ stK N kd own lg (agoS la kd ob) x0 s := nI_eq (b := 400) (by omega) (by decide)
      rw [e4]
      refine ⟨fun hc => ?_, fun hc => ?_⟩
      · rw [nI_1]
        refine ih (s + 1) μ2 (by omega) (ho2.trans (fun c o z hz => o2 c o z (by omega))) (fun j hj => ?_)
        by_cases hj2 : j = s
        · rw [hj2]; exact hc
        · exact hn j (by omega)
      · exact h (nI s) μ2 (Or.inl ⟨s, by omega, rfl, hc, hn⟩) (ho2.trans (fun c o z hz => o2 c o z (by omega)))
  exact ⟨101, loop 100 0 μ (by omega) (fun _ _ _ _ => rfl) (fun j hj => by omega)⟩
