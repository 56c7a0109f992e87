/-! PURE: LINE of the class: a pole of one lump -/
def offP (σ σ' : St) : Prop := ∀ c o k, ¬ ((c = 2 ∧ o = 4 ∧ 2 ≤ k) ∨ ((c = 3 ∨ c = 4) ∧ o = 4) ∨ ((c = 13 ∨ c = 14) ∧ (o = 3 ∨ o = 4))) → σ' c o k = σ c o k
theorem offP.trans {a b c : St} (h1 : offP a b) (h2 : offP b c) : offP a c := fun x y z h => (h2 x y z h).trans (h1 x y z h)
theorem offK.P {a b : St} (h : offK a b) : offP a b := fun c o k hn => h c o k (by omega)
theorem sp_poleC {σ : St} {j : Nat} {post : St → Prop} (hj : 1 ≤ j) (hj2 : j ≤ 300) (hp : ∀ σ', offP σ σ' → σ' 2 4 3 = nI j → post σ') : wp_X6_strip 4 (fun σ1 => wp_X6_addLump 4 (nI j) 1 (fun σ2 => post σ2) σ1) σ := by
  unfold wp_X6_strip
  refine sp_measureC (n := 0) (by decide) (by rw [su_eq]; rfl) (fun i hi => by omega) (fun σ1 o1 _ _ => ?_)
  have e2 : σ1 2 4 2 = nI 0 := by
    rw [o1 2 4 2 (by omega), su_eq]; rfl
  show wp_X6_addLump 4 (nI j) 1 (fun σ2 => post σ2) σ1
  unfold wp_X6_addLump
  rw [e2]
  have v4 : vp_in (nI 0) 4 := vp_in_nI (by decide) (by decide)
  have ec : (nI 0).toNatClampNeg = 0 := nI_clamp (by decide)
  rw [ec]
  refine ⟨fun _ => ⟨v4, v4, ?_⟩, fun hc => absurd (nI_lt (a := 0) (b := 4) (by decide) (by decide)) hc⟩
  have eh : (fun i => (su (su (su σ1 3 4 0 (nI j)) 4 4 0 1) 2 4 2 (nI 0 + 1)) 3 4 i) 0 = nI j := by
    show (su (su (su σ1 3 4 0 (nI j)) 4 4 0 1) 2 4 2 (nI 0 + 1)) 3 4 0 = nI j
    rw [su_nc rfl, su_nc rfl, su_eq]
  have ew : (fun i => (su (su (su σ1 3 4 0 (nI j)) 4 4 0 1) 2 4 2 (nI 0 + 1)) 4 4 i) 0 = 1 := by
    show (su (su (su σ1 3 4 0 (nI j)) 4 4 0 1) 2 4 2 (nI 0 + 1)) 4 4 0 = 1
    rw [su_nc rfl, su_eq]
  have hb : LB (fun i => (su (su (su σ1 3 4 0 (nI j)) 4 4 0 1) 2 4 2 (nI 0 + 1)) 3 4 i) (fun i => (su (su (su σ1 3 4 0 (nI j)) 4 4 0 1) 2 4 2 (nI 0 + 1)) 4 4 i) 1 := by
    intro i hi
    have e : i = 0 := by omega
    subst e
    rw [eh, ew, nI_toInt (by omega)]
    have : (1 : Int32).toInt = 1 := by decide
    omega
  refine sp_measureC (n := 1) (by decide) (by rw [su_eq]; rfl) hb (fun σ2 o2 e3 _ => ?_)
  rw [lg_one hj hj2 eh ew] at e3
  refine hp σ2 (fun c o k hn => ?_) e3
  rw [o2 c o k (by omega)]
  have n1 : ¬ (c = 2 ∧ k = 2 ∧ o = 4) := by omega
  have n2 : ¬ (c = 3 ∧ k = 0 ∧ o = 4) := by omega
  have n3 : ¬ (c = 4 ∧ k = 0 ∧ o = 4) := by omega
  have e4 : (su (su (su σ1 3 4 0 (nI j)) 4 4 0 1) 2 4 2 (nI 0 + 1)) c o k = σ1 c o k := by simp [su, n1, n2, n3]
  rw [e4, o1 c o k (by omega)]
  simp [su, n1]
theorem RuC.offP {σ σ' : St} {N : Nat → Int32} {ru la : Nat} (h : RuC σ ru N la) (ho : offP σ σ') : RuC σ' ru N la := by
  have e : ∀ k, σ' 6 ru k = σ 6 ru k := fun k => ho 6 ru k (by omega)
  unfold RuC
  simp only [e]
  exact h
theorem sp_shortestC {σ : St} {N : Nat → Int32} {la k : Nat} {x1 : Int32} {post : Int32 → St → Prop} (hR : RuC σ 1 N la) (h0 : σ 2 4 0 = 0) (h1 : σ 2 4 1 = 0) (hk : k ≤ 20) (hx : x1 = nI k) (hp : ∀ r σ', LineIs (fun j => allK (Kz N 0 0 (nI j) la) k) r → offP σ σ' → post r σ') : wp_X4_shortestSteady x1 post σ := by
  have eago : agoS la 0 0 = la := by simp [agoS]
  have loop : ∀ (j : Nat) (fnd : Int32) (σ1 : St), j ≤ 300 → offP σ σ1 → (∀ i, j < i → i ≤ 300 → allK (Kz N 0 0 (nI i) la) k) → (fnd = if j = 300 then -1 else nI (j + 1)) → wp_X4_shortestSteady_6 x1 post (j + 1) fnd (nI j) σ1 := by
    intro j
    induction j with
    | zero =>
      intro fnd σ1 hj hf ha hfn
      unfold wp_X4_shortestSteady_6
      refine ⟨fun _ => hp fnd σ1 (Or.inl ⟨1, by decide, by decide, ?_, fun i i1 i2 => ha i (by omega) i2, Or.inl rfl⟩) hf, fun hc => absurd (nI_lt (a := 0) (b := 1) (by decide) (by decide)) hc⟩
      rw [hfn]; rfl
    | succ j ih =>
      intro fnd σ1 hj hf ha hfn
      unfold wp_X4_shortestSteady_6
      refine ⟨fun hc => absurd hc (nI_nlt (a := j + 1) (b := 1) (by omega) (by omega)), fun _ => ?_⟩
      refine sp_poleC (by omega) hj (fun σ2 o2 e3 => ?_)
      have hf2 := hf.trans o2
      have hR2 := hR.offP hf2
      have hT2 : ThC σ2 4 0 0 (nI (j + 1)) 0 := by
        refine ⟨?_, ?_, e3, rfl, by decide, nI_lt (a := 0) (b := j + 1) (by omega) (by omega)⟩
        · rw [hf2 2 4 0 (by omega), h0]
        · rw [hf2 2 4 1 (by omega), h1]
      refine sp_isSteadyC hT2 hR2 hk hx (fun σ3 hall o3 => ?_) (fun σ3 hall o3 => ?_)
      · rw [eago] at hall
        refine ⟨fun _ => ?_, fun hc => absurd hc (by decide)⟩
        rw [show nI (j + 1) + (-1) = nI j from pk_m1 j]
        refine ih _ σ3 (by omega) (hf2.trans o3.P) (fun i i1 i2 => ?_) (by rw [if_neg (by omega)])
        by_cases hi : i = j + 1
        · rw [hi]; exact hall
        · exact ha i (by omega) i2
      · rw [eago] at hall
        refine ⟨fun hc => absurd rfl hc, fun _ => ?_⟩
        refine hp fnd σ3 ?_ (hf2.trans o3.P)
        by_cases h3 : j + 1 = 300
        · exact Or.inr ⟨by rw [hfn, if_pos h3], by rw [← h3]; exact hall⟩
        · exact Or.inl ⟨j + 2, by omega, by omega, by rw [hfn, if_neg h3], fun i i1 i2 => ha i (by omega) i2, Or.inr hall⟩
  unfold wp_X4_shortestSteady
  exact ⟨301, loop 300 (-1) σ (Nat.le_refl _) (fun _ _ _ _ => rfl) (fun i i1 i2 => by omega) rfl⟩
