theorem Bal.off {σ σ' : St} {o o' t : Nat} {q : Q4} (h : Bal σ o' t q) (ho : offB o σ σ') (hne : ¬ o' = o) : Bal σ' o' t q := by
  have e13 : ∀ k, σ' 13 o' k = σ 13 o' k := fun k => ho 13 o' k (fun z => hne z.2)
  have e14 : ∀ k, σ' 14 o' k = σ 14 o' k := fun k => ho 14 o' k (fun z => hne z.2)
  unfold Bal
  simp only [e13, e14]
  exact h
theorem sp_isAgain {σ : St} {t tm fb : Nat} {q q' : Q4} {post : Int32 → St → Prop} (hB : Bal σ 3 t q) (hB' : Bal σ 4 tm q') (hfb : fb ≤ 16) (hle : tm ≤ t) (ht : t < 2 ^ 20) (h0 : post 0 σ) (h1 : q.1 t = q'.1 tm → q.2.1 = q'.2.1 → q.2.2.1 = q'.2.2.1 → t % 2 = tm % 2 → (∀ d, 1 ≤ d → d ≤ fb → q.1 (t - d) = q'.1 (tm - d)) → post 1 σ) : wp_X0_isAgain 3 4 (nI fb) post σ := by
  have hb := hB
  have hb' := hB'
  obtain ⟨b1, b2, b3, b4, b5, b6⟩ := hb
  obtain ⟨c1, c2, c3, c4, c5, c6⟩ := hb'
  unfold wp_X0_isAgain wp_X0_isAgain_47
  rw [b1, b2, b3, b4, c1, c2, c3, c4, nI_sub_pos hle, par_C (by omega)]
  refine ⟨fun _ => h0, fun a1 => ⟨fun _ => h0, fun a2 => ⟨fun _ => h0, fun a3 => ⟨fun a4 => ?_, fun _ => h0⟩⟩⟩⟩
  have hp : t % 2 = tm % 2 := by omega
  have loop : ∀ n i, i + n = fb + 1 → 1 ≤ i → (∀ d, 1 ≤ d → d < i → q.1 (t - d) = q'.1 (tm - d)) → wp_X0_isAgain_51 3 4 (nI fb) post (n + 1) (nI i) σ := by
    intro n
    induction n with
    | zero =>
      intro i e hi hd
      unfold wp_X0_isAgain_51
      refine ⟨fun _ => h1 a1 a2 a3 hp (fun d d1 d2 => hd d d1 (by omega)), fun hc => ?_⟩
      exact absurd (nI_lt (a := fb) (b := i) (by omega) (by omega)) hc
    | succ n ih =>
      intro i e hi hd
      unfold wp_X0_isAgain_51
      refine ⟨fun hc => ?_, fun _ => ?_⟩
      · exact absurd hc (nI_nlt (a := fb) (b := i) (by omega) (by omega))
      · refine sp_was hB (d := i) (by omega) (by omega) (by rw [b1]) ?_
        refine sp_was hB' (d := i) (by omega) (by omega) (by rw [c1]) ?_
        refine ⟨fun hq => ?_, fun _ => h0⟩
        rw [nI_1]
        refine ih (i + 1) (by omega) (by omega) (fun d d1 d2 => ?_)
        by_cases hdi : d = i
        · subst hdi; exact hq
        · exact hd d d1 (by omega)
  exact ⟨fb + 1, loop fb 1 (by omega) (by omega) (fun d d1 d2 => by omega)⟩
theorem hist_ok {N : Nat → Int32} {kd own lg : Int32} {ago t : Nat} {mi : Bool} {x0 v0 : Int32} (hNB : NB N) (h : ∀ s, s ≤ t → fallS N kd own lg ago mi x0 v0 s = false) : ∀ j, j ≤ t → -2147483648 < ((runS N kd own lg ago mi x0 v0 t).1 j).toInt := by
  intro j hj
  rw [run_stable t j hj]
  have h1 := hNB.bound
  have h2 := fell_bound (by omega) (h j hj)
  unfold xS at h2 ⊢
  omega
theorem sp_lastsC {σ : St} {N : Nat → Int32} {kd own lg x0 v0 x4 : Int32} {th la ob most : Nat} {post : Int32 → St → Prop} (hT : ThC σ th kd own lg ob) (hR : RuC σ 1 N la) (hm : most ≤ 400) (hx4 : x4 = nI most) (h : ∀ σ', offK σ σ' → post (nI (lastF (fallS N kd own lg (agoS la kd ob) true x0 v0) most 0)) σ') : wp_X4_lasts th x0 v0 x4 post σ := by
  subst hx4
  have hT0 := hT
  have hR0 := hR
  obtain ⟨t1, t2, t3, t4, t5, t6⟩ := hT0
  obtain ⟨r1, r2, r3, r4⟩ := hR0
  have ele : (if kd = 3 then ob else 0) ≤ 9 := by split <;> omega
  have hago : agoS la kd ob ≤ 15 := by unfold agoS; omega
  have loop : ∀ n t mark σ1, t + n = most → offK σ σ1 → Bal σ1 3 t (runS N kd own lg (agoS la kd ob) true x0 v0 t) → (∀ s, s < t → fallS N kd own lg (agoS la kd ob) true x0 v0 s = false) → (t ≤ 4 → mark = 4) → (4 < t → ∃ tm, tm < t ∧ Bal σ1 4 tm (runS N kd own lg (agoS la kd ob) true x0 v0 tm)) → lastF (fallS N kd own lg (agoS la kd ob) true x0 v0) n t = lastF (fallS N kd own lg (agoS la kd ob) true x0 v0) most 0 → wp_X4_lasts_31 th x0 v0 (nI most) post (n + 1) (nI (agoS la kd ob + 1)) mark (nI t) σ1 := by
    intro n
    induction n with
    | zero =>
      intro t mark σ1 e ho hB hn hmk hs hl
      have hB' := hB
      obtain ⟨b1, -⟩ := hB'
      unfold wp_X4_lasts_31 wp_X4_lasts_121
      refine ⟨fun _ => ?_, fun hc => ?_⟩
      · have := h σ1 ho
        rw [← hl] at this
        rw [b1]
        exact this
      · exact absurd (nI_le (a := most) (b := t) (by omega) (by omega)) hc
    | succ n ih =>
      intro t mark σ1 e ho hB hn hmk hs hl
      have hB' := hB
      obtain ⟨b1, b2, -⟩ := hB'
      have hR1 := hR.off ho
      have hT1 := hT.off ho
      unfold wp_X4_lasts_31 wp_X4_lasts_121
      refine ⟨fun hc => ?_, fun _ => ?_⟩
      · exact absurd hc (nI_ge (a := t) (b := most) (by omega) (by omega))
      · rw [e_fellC (hR1.1 7 (by decide)) b2]
        refine ⟨fun hf => ?_, fun hf => ?_⟩
        · rw [bi_1] at hf
          rw [b1]
          have := h σ1 ho
          rw [← hl, lastF, if_pos (show fallS N kd own lg (agoS la kd ob) true x0 v0 t = true from hf)] at this
          exact this
        · rw [bi_0] at hf
          have hf' : fallS N kd own lg (agoS la kd ob) true x0 v0 t = false := by
            cases hc : fallS N kd own lg (agoS la kd ob) true x0 v0 t with
            | false => rfl
            | true => exact absurd hc hf
          have hall : ∀ s, s ≤ t → fallS N kd own lg (agoS la kd ob) true x0 v0 s = false := by
            intro s hst
            by_cases hst2 : s = t
            · subst hst2; exact hf'
            · exact hn s (by omega)
          rw [lastF, if_neg (show ¬ fallS N kd own lg (agoS la kd ob) true x0 v0 t = true by rw [hf']; decide)] at hl
          have hh := hist_ok r4 hall
          have k101 : ∀ mark' σ2, offK σ σ2 → Bal σ2 3 t (runS N kd own lg (agoS la kd ob) true x0 v0 t) → (t + 1 ≤ 4 → mark' = 4) → (4 < t + 1 → ∃ tm, tm < t + 1 ∧ Bal σ2 4 tm (runS N kd own lg (agoS la kd ob) true x0 v0 tm)) → wp_X4_lasts_101 th x0 v0 (nI most) (fun y0 y1 y2 τ => wp_X4_lasts_31 th x0 v0 (nI most) post (n + 1) y0 y1 y2 τ) post (nI (agoS la kd ob + 1)) mark' (nI t) σ2 := by
            intro mark' σ2 ho2 hB2 hm2 hs2
            unfold wp_X4_lasts_101
            refine sp_tickC hB2 (hT.off ho2) (hR.off ho2) hh (by omega) (mi := true) (by decide) (fun σ3 hof _ hB3 => ?_)
            rw [nI_1]
            refine ih (t + 1) mark' σ3 (by omega) (ho2.trans (hof.K (Or.inl rfl))) hB3 (fun s hs3 => hall s (by omega)) hm2 (fun h4 => ?_) hl
            obtain ⟨tm, q1, q2⟩ := hs2 h4
            exact ⟨tm, q1, q2.off hof (by decide)⟩
          have k77 : wp_X4_lasts_77 th x0 v0 (nI most) (fun y0 y1 y2 τ => wp_X4_lasts_31 th x0 v0 (nI most) post (n + 1) y0 y1 y2 τ) post (nI (agoS la kd ob + 1)) mark (nI t) σ1 := by
            unfold wp_X4_lasts_77
            refine ⟨fun hne => k101 mark σ1 ho hB (fun h5 => hmk (by omega)) (fun h5 => ?_), fun heq => ?_⟩
            · by_cases h4 : t = 4
              · exfalso
                apply hne
                rw [hmk (by omega), h4]
                rfl
              · obtain ⟨tm, q1, q2⟩ := hs (by omega)
                exact ⟨tm, by omega, q2⟩
            · refine sp_copyC (by decide) hB (fun σ2 hof _ hB2 => ?_)
              refine k101 _ σ2 (ho.trans (hof.K (Or.inr rfl))) (hB.off hof (by decide)) (fun h5 => ?_) (fun _ => ⟨t, by omega, hB2⟩)
              exfalso
              rw [hmk (by omega)] at heq
              have := (nI_eq (a := t) (b := 4) (by omega) (by decide)).mp heq
              omega
          refine ⟨fun _ => k77, fun h4 => ?_⟩
          have h4' : 4 < t := by
            rcases Nat.lt_or_ge 4 t with z | z
            · exact z
            · exact absurd (nI_le (a := t) (b := 4) z (by decide)) h4
          obtain ⟨tm, q1, q2⟩ := hs h4'
          refine sp_isAgain hB q2 (by omega) (by omega) (by omega) ⟨fun _ => k77, fun hc => absurd rfl hc⟩ ?_
          intro c1 c2 c3 c4 c5
          refine ⟨fun hc => absurd hc (by decide), fun _ => ?_⟩
          have hnv := run_never (N := N) (kd := kd) (own := own) (lg := lg) (ago := agoS la kd ob) (mi := true) (x0 := x0) (v0 := v0) q1 c4 (fun d hd => ?_) c2 c3 hall
          · have := h σ1 ho
            rw [lastF_never most 0 (fun s _ => hnv s), Nat.zero_add] at this
            exact this
          · by_cases hd0 : d = 0
            · subst hd0; exact c1
            · have := c5 d (by omega) (by omega)
              rw [run_stable _ _ (by omega), run_stable _ _ (by omega)] at this
              exact this
  unfold wp_X4_lasts
  rw [e_seenLater]
  refine sp_startC (fun σ1 hof _ hB => ⟨most + 1, ?_⟩)
  have e : σ 6 1 2 + (if σ 2 th 0 = 3 then σ 2 th 1 else 0) + 1 = nI (agoS la kd ob + 1) := by
    have eago : (if σ 2 th 0 = 3 then σ 2 th 1 else 0) = nI (if kd = 3 then ob else 0) := by
      rw [t1, t2, t4]
      split <;> rfl
    rw [eago, r1 2 (by decide), r2, nI_add, nI_1]
    rfl
  rw [e]
  exact loop most 0 4 σ1 (by omega) (hof.K (Or.inl rfl)) hB (fun s hs => by omega) (fun _ => rfl) (fun h4 => by omega) rfl
