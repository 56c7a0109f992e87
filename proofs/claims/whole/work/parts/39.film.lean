/-! PURE: FITS, NEXT -/
def Nft (N : Nat → Int32) (r : Nat) : Nat → Int32 := fun k => if k = 0 then nI (r / 21 % 21) else if k = 1 then nI (r % 21) else N k
def mvF (N F : Nat → Int32) (r t : Nat) : Int32 := mind (Nft N r) (F (t - r / 441)) (F (t - (r / 441 + 1)))
def fitF (N F M : Nat → Int32) (r : Nat) : Nat → Bool
  | 0 => true
  | n + 1 => fitF N F M r n && decide (mvF N F r n = M n)
theorem fitF_lt {N F M : Nat → Int32} {r : Nat} : ∀ n, fitF N F M r n = true → ∀ t, t < n → mvF N F r t = M t
  | 0, _, t, ht => by omega
  | n + 1, h, t, ht => by
    rw [fitF, Bool.and_eq_true, decide_eq_true_eq] at h
    by_cases e : t = n
    · rw [e]; exact h.2
    · exact fitF_lt n h.1 t (by omega)
theorem fitF_all {N F M : Nat → Int32} {r : Nat} : ∀ n, (∀ t, t < n → mvF N F r t = M t) → fitF N F M r n = true
  | 0, _ => rfl
  | n + 1, h => by
    rw [fitF, fitF_all n (fun t ht => h t (by omega)), h n (by omega)]
    simp
def FtS (p : Nat → Bool) (V : Nat → Int32) : Nat → Nat × Nat × Int32 × Int32
  | 0 => (0, 0, 0, 0)
  | i + 1 => if p i then ((FtS p V i).1 + 1, (if (FtS p V i).1 = 0 then i else (FtS p V i).2.1), (if (FtS p V i).1 = 0 then V i else (if V i < (FtS p V i).2.2.1 then V i else (FtS p V i).2.2.1)), (if (FtS p V i).1 = 0 then V i else (if (FtS p V i).2.2.2 < V i then V i else (FtS p V i).2.2.2))) else FtS p V i
theorem FtS_le {p : Nat → Bool} {V : Nat → Int32} : ∀ i, (FtS p V i).1 ≤ i
  | 0 => Nat.le_refl _
  | i + 1 => by
    have := FtS_le (p := p) (V := V) i
    rw [FtS]
    split
    · show (FtS p V i).1 + 1 ≤ i + 1
      omega
    · omega
theorem FtS_first {p : Nat → Bool} {V : Nat → Int32} : ∀ i, (FtS p V i).2.1 ≤ i
  | 0 => Nat.le_refl _
  | i + 1 => by
    have := FtS_first (p := p) (V := V) i
    rw [FtS]
    split
    · show (if (FtS p V i).1 = 0 then i else (FtS p V i).2.1) ≤ i + 1
      split <;> omega
    · omega
theorem FtS_ab {p : Nat → Bool} {V : Nat → Int32} (hV : ∀ i, ab (V i) 99) : ∀ i, ab (FtS p V i).2.2.1 99 ∧ ab (FtS p V i).2.2.2 99
  | 0 => by
    constructor <;> (show (0 : Int32).toInt.natAbs ≤ 99; decide)
  | i + 1 => by
    obtain ⟨h1, h2⟩ := FtS_ab hV i
    rw [FtS]
    split
    · constructor
      · show ab (if (FtS p V i).1 = 0 then V i else (if V i < (FtS p V i).2.2.1 then V i else (FtS p V i).2.2.1)) 99
        split
        · exact hV i
        · split
          · exact hV i
          · exact h1
      · show ab (if (FtS p V i).1 = 0 then V i else (if (FtS p V i).2.2.2 < V i then V i else (FtS p V i).2.2.2)) 99
        split
        · exact hV i
        · split
          · exact hV i
          · exact h2
    · exact ⟨h1, h2⟩
/-- a row of numbers that is looked back into: from nI t so many, nothing ahead of 0 -/
theorem back0 {t d : Nat} (ht : t < 2 ^ 20) (hd : d < 2 ^ 20) : (if 0 < nI t - nI d then nI t - nI d else 0) = nI (t - d) := by
  rcases Nat.lt_or_ge d t with z | z
  · rw [nI_sub_pos (by omega), if_pos (show (0 : Int32) < nI (t - d) from nI_lt (a := 0) (by omega) (by omega))]
  · have h1 := nI_sub_le (a := t) (b := d) (by omega) (by omega) z
    have h2 : ¬ (0 : Int32) < nI t - nI d := fun q => (fa_of_lt q).2.1 h1
    rw [if_neg h2, show t - d = 0 by omega]
    rfl
/-- the class's FILM while it is looked through -/
def FmC (σ : St) (N F M : Nat → Int32) (cnt : Nat) : Prop := σ 19 0 0 = nI cnt ∧ cnt ≤ 24 ∧ (∀ t, t ≤ cnt → σ 20 0 t = F t ∧ ab (F t) 999) ∧ (∀ t, t < cnt → σ 21 0 t = M t) ∧ (∀ k, 3 ≤ k → k < 10 → σ 6 2 k = N k) ∧ NB N
def RlC (σ : St) (r : Nat) : Prop := σ 6 2 2 = nI (r / 441) ∧ σ 6 2 0 = nI (r / 21 % 21) ∧ σ 6 2 1 = nI (r % 21)
theorem sp_moveInC {σ : St} {N F M : Nat → Int32} {cnt r t : Nat} {x : Int32} {post : Int32 → St → Prop} (hF : FmC σ N F M cnt) (hr : RlC σ r) (hr7 : r < 3087) (ht : t ≤ cnt) (hx : x = nI t) (h : post (mvF N F r t) σ) : wp_X2_moveIn x post σ := by
  subst hx
  obtain ⟨f1, f2, f3, f4, f5, f6⟩ := hF
  obtain ⟨r1, r2, r3⟩ := hr
  have hl : r / 441 ≤ 6 := by omega
  have e1 := back0 (t := t) (d := r / 441) (by omega) (by omega)
  have e2 := back0 (t := t) (d := r / 441 + 1) (by omega) (by omega)
  unfold wp_X2_moveIn
  rw [r1, ii_subsub, nI_1, e1, e2, nI_clamp (by omega), nI_clamp (by omega)]
  refine ⟨vp_in_nI (by omega) (by decide), vp_in_nI (by omega) (by decide), ?_⟩
  obtain ⟨g1, b1⟩ := f3 (t - r / 441) (by omega)
  obtain ⟨g2, b2⟩ := f3 (t - (r / 441 + 1)) (by omega)
  rw [g1, g2]
  have hd : 0 ≤ (σ 6 2 4).toInt := by rw [f5 4 (by decide) (by decide)]; exact f6.dead
  rw [e_wish hd (by unfold ab at b1; omega)]
  have em : mind (fun k => σ 6 2 k) (F (t - r / 441)) (F (t - (r / 441 + 1))) = mvF N F r t := by
    unfold mvF mind Nft
    simp only [r2, r3, f5 3 (by decide) (by decide), f5 4 (by decide) (by decide)]
    simp
  rw [em]
  exact h
theorem sp_isFitC {σ : St} {N F M : Nat → Int32} {cnt r : Nat} {post : Int32 → St → Prop} (hF : FmC σ N F M cnt) (hr : RlC σ r) (hr7 : r < 3087) (h1 : fitF N F M r cnt = true → post 1 σ) (h0 : ¬ fitF N F M r cnt = true → post 0 σ) : wp_X2_isFit post σ := by
  have hF0 := hF
  obtain ⟨f1, f2, f3, f4, f5, f6⟩ := hF0
  have loop : ∀ n t, t + n = cnt → (∀ s, s < t → mvF N F r s = M s) → wp_X2_isFit_2 post (n + 1) (nI t) σ := by
    intro n
    induction n with
    | zero =>
      intro t e ht
      unfold wp_X2_isFit_2
      rw [f1]
      exact ⟨fun _ => h1 (fitF_all cnt (fun s hs => ht s (by omega))), fun hc => absurd (nI_le (a := cnt) (b := t) (by omega) (by omega)) hc⟩
    | succ n ih =>
      intro t e ht
      unfold wp_X2_isFit_2
      rw [f1]
      refine ⟨fun hc => absurd hc (nI_ge (a := t) (b := cnt) (by omega) (by omega)), fun _ => ?_⟩
      refine sp_moveInC hF hr hr7 (by omega) rfl ⟨vp_in_nI (by omega) (by decide), ?_⟩
      rw [nI_clamp (by omega), f4 t (by omega), nI_1]
      refine ⟨fun hc => ih (t + 1) (by omega) (fun s hs => ?_), fun hc => h0 (fun z => hc (fitF_lt cnt z t (by omega)))⟩
      by_cases hst : s = t
      · rw [hst]; exact hc
      · exact ht s (by omega)
  exact ⟨cnt + 1, loop cnt 0 (by omega) (fun s hs => by omega)⟩
def FoC (σ : St) (s : Nat × Nat × Int32 × Int32) : Prop := σ 19 0 1 = nI s.1 ∧ (s.1 = 0 → σ 19 0 2 = -1 ∧ σ 19 0 3 = -1 ∧ σ 19 0 4 = -1) ∧ (¬ s.1 = 0 → σ 19 0 2 = nI (s.2.1 / 441) ∧ σ 19 0 3 = nI (s.2.1 / 21 % 21) ∧ σ 19 0 4 = nI (s.2.1 % 21) ∧ σ 19 0 5 = s.2.2.1 ∧ σ 19 0 6 = s.2.2.2)
def offF (σ σ' : St) : Prop := ∀ c o k, ¬ ((c = 6 ∧ o = 2) ∨ (c = 19 ∧ 1 ≤ k)) → σ' c o k = σ c o k
theorem offF.trans {a b c : St} (h1 : offF a b) (h2 : offF b c) : offF a c := fun x y z h => (h2 x y z h).trans (h1 x y z h)
theorem sp_noteFitC {σ : St} {N F M : Nat → Int32} {cnt r i : Nat} {p : Nat → Bool} {post : St → Prop} (hF : FmC σ N F M cnt) (hr : RlC σ r) (hr7 : r < 3087) (hi : i = r) (hp : p i = true) (ho : FoC σ (FtS p (fun r => mvF N F r cnt) i)) (h : ∀ σ', (∀ c o k, ¬ (c = 19 ∧ 1 ≤ k) → σ' c o k = σ c o k) → FoC σ' (FtS p (fun r => mvF N F r cnt) (i + 1)) → post σ') : wp_X2_noteFit post σ := by
  subst hi
  have hF0 := hF
  obtain ⟨f1, f2, f3, f4, f5, f6⟩ := hF0
  obtain ⟨o1, o2, o3⟩ := ho
  obtain ⟨r1, r2, r3⟩ := hr
  have hle := FtS_le (p := p) (V := fun r => mvF N F r cnt) i
  unfold wp_X2_noteFit
  refine sp_moveInC hF ⟨r1, r2, r3⟩ hr7 (Nat.le_refl _) f1 ?_
  have e0 : σ 19 0 1 = 0 ↔ (FtS p (fun r => mvF N F r cnt) i).1 = 0 := by
    rw [o1]
    exact nI_eq (b := 0) (by omega) (by decide)
  rw [e0]
  unfold wp_X2_noteFit_56
  have es : FtS p (fun r => mvF N F r cnt) (i + 1) = ((FtS p (fun r => mvF N F r cnt) i).1 + 1, (if (FtS p (fun r => mvF N F r cnt) i).1 = 0 then i else (FtS p (fun r => mvF N F r cnt) i).2.1), (if (FtS p (fun r => mvF N F r cnt) i).1 = 0 then mvF N F i cnt else (if mvF N F i cnt < (FtS p (fun r => mvF N F r cnt) i).2.2.1 then mvF N F i cnt else (FtS p (fun r => mvF N F r cnt) i).2.2.1)), (if (FtS p (fun r => mvF N F r cnt) i).1 = 0 then mvF N F i cnt else (if (FtS p (fun r => mvF N F r cnt) i).2.2.2 < mvF N F i cnt then mvF N F i cnt else (FtS p (fun r => mvF N F r cnt) i).2.2.2))) := by
    rw [FtS, if_pos hp]
  refine ⟨fun hc => ?_, fun hc => ?_⟩
  · obtain ⟨q1, q2, q3, q4, q5⟩ := o3 hc
    refine h _ (fun c o k hk => ?_) ?_
    · have n1 : ∀ j, 1 ≤ j → ¬ (c = 19 ∧ k = j ∧ o = 0) := fun j hj z => hk ⟨z.1, by omega⟩
      simp [su, n1 1, n1 5, n1 6]
    · rw [es]
      refine ⟨?_, fun hz => absurd hz (Nat.succ_ne_zero _), fun _ => ⟨?_, ?_, ?_, ?_, ?_⟩⟩
      · rw [su_eq, o1, nI_1]
      · rw [su_nk rfl, su_nk rfl, su_nk rfl, q1, if_neg hc]
      · rw [su_nk rfl, su_nk rfl, su_nk rfl, q2, if_neg hc]
      · rw [su_nk rfl, su_nk rfl, su_nk rfl, q3, if_neg hc]
      · rw [su_nk rfl, su_nk rfl, su_eq, q4]
        simp [hc]
      · rw [su_nk rfl, su_eq, q5]
        simp [hc]
  · refine h _ (fun c o k hk => ?_) ?_
    · have n1 : ∀ j, 1 ≤ j → ¬ (c = 19 ∧ k = j ∧ o = 0) := fun j hj z => hk ⟨z.1, by omega⟩
      simp [su, n1 1, n1 2, n1 3, n1 4, n1 5, n1 6]
    · rw [es]
      refine ⟨?_, fun hz => absurd hz (Nat.succ_ne_zero _), fun _ => ?_⟩
      · simp only [su]
        simp [o1, nI_1]
      · simp only [hc, if_true]
        refine ⟨?_, ?_, ?_, ?_, ?_⟩
        · simp [su, r1]
        · simp [su, r2]
        · simp [su, r3]
        · simp [su]
        · simp [su]
theorem FmC.off {σ σ' : St} {N F M : Nat → Int32} {cnt : Nat} (h : FmC σ N F M cnt) (ho : ∀ c o k, ¬ ((c = 6 ∧ o = 2 ∧ k < 3) ∨ (c = 19 ∧ 1 ≤ k)) → σ' c o k = σ c o k) : FmC σ' N F M cnt := by
  obtain ⟨f1, f2, f3, f4, f5, f6⟩ := h
  refine ⟨?_, f2, fun t ht => ?_, fun t ht => ?_, fun k h1 h2 => ?_, f6⟩
  · rw [ho 19 0 0 (by omega)]; exact f1
  · rw [ho 20 0 t (by omega)]; exact f3 t ht
  · rw [ho 21 0 t (by omega)]; exact f4 t ht
  · rw [ho 6 2 k (by omega)]; exact f5 k h1 h2
def offG (σ σ' : St) : Prop := ∀ c o k, ¬ ((c = 6 ∧ o = 2 ∧ k < 3) ∨ (c = 19 ∧ 1 ≤ k)) → σ' c o k = σ c o k
theorem offG.trans {a b c : St} (h1 : offG a b) (h2 : offG b c) : offG a c := fun x y z h => (h2 x y z h).trans (h1 x y z h)
theorem sp_seekLoopC {σ : St} {N F M : Nat → Int32} {cnt o1 : Nat} {x2 : Int32} {post : St → Prop} (hF : FmC σ N F M cnt) (hz : FoC σ (0, 0, 0, 0)) (h : ∀ σ', offG σ σ' → FoC σ' (FtS (fun r => fitF N F M r cnt) (fun r => mvF N F r cnt) 3087) → post σ') : ∃ nn, wp_X2_seek_44 o1 x2 post nn 0 σ := by
  have outer : ∀ n la σ1, la + n = 7 → offG σ σ1 → FoC σ1 (FtS (fun r => fitF N F M r cnt) (fun r => mvF N F r cnt) (441 * la)) → wp_X2_seek_44 o1 x2 post (n + 1) (nI la) σ1 := by
    intro n
    induction n with
    | zero =>
      intro la σ1 e ho hC
      have ea : la = 7 := by omega
      subst ea
      unfold wp_X2_seek_44
      exact ⟨fun _ => h σ1 ho hC, fun hc => absurd (nI_lt (a := 6) (b := 7) (by decide) (by decide)) hc⟩
    | succ n ih =>
      intro la σ1 e ho hC
      unfold wp_X2_seek_44
      refine ⟨fun hc => absurd hc (nI_nlt (a := 6) (b := la) (by omega) (by omega)), fun _ => ?_⟩
      have mid : ∀ n2 a σ2, a + n2 = 21 → offG σ σ2 → FoC σ2 (FtS (fun r => fitF N F M r cnt) (fun r => mvF N F r cnt) (441 * la + 21 * a)) → wp_X2_seek_53 o1 x2 (fun y0 τ => wp_X2_seek_44 o1 x2 post (n + 1) y0 τ) post (n2 + 1) (nI la) (nI a) σ2 := by
        intro n2
        induction n2 with
        | zero =>
          intro a σ2 e2 ho2 hC2
          have ea : a = 21 := by omega
          subst ea
          unfold wp_X2_seek_53
          refine ⟨fun _ => ?_, fun hc => absurd (nI_lt (a := 20) (b := 21) (by decide) (by decide)) hc⟩
          rw [nI_1]
          exact ih (la + 1) σ2 (by omega) ho2 (by rw [show 441 * (la + 1) = 441 * la + 21 * 21 by omega]; exact hC2)
        | succ n2 ih2 =>
          intro a σ2 e2 ho2 hC2
          unfold wp_X2_seek_53
          refine ⟨fun hc => absurd hc (nI_nlt (a := 20) (b := a) (by omega) (by omega)), fun _ => ?_⟩
          have inner : ∀ n3 b σ3, b + n3 = 21 → offG σ σ3 → FoC σ3 (FtS (fun r => fitF N F M r cnt) (fun r => mvF N F r cnt) (441 * la + 21 * a + b)) → wp_X2_seek_63 o1 x2 (fun y0 τ => wp_X2_seek_44 o1 x2 post (n + 1) y0 τ) (fun y0 y1 τ => wp_X2_seek_53 o1 x2 (fun y0 τ => wp_X2_seek_44 o1 x2 post (n + 1) y0 τ) post (n2 + 1) y0 y1 τ) post (n3 + 1) (nI la) (nI a) (nI b) σ3 := by
            intro n3
            induction n3 with
            | zero =>
              intro b σ3 e3 ho3 hC3
              have eb : b = 21 := by omega
              subst eb
              unfold wp_X2_seek_63
              refine ⟨fun _ => ?_, fun hc => absurd (nI_lt (a := 20) (b := 21) (by decide) (by decide)) hc⟩
              rw [nI_1]
              exact ih2 (a + 1) σ3 (by omega) ho3 (by rw [show 441 * la + 21 * (a + 1) = 441 * la + 21 * a + 21 by omega]; exact hC3)
            | succ n3 ih3 =>
              intro b σ3 e3 ho3 hC3
              unfold wp_X2_seek_63 wp_X2_seek_104
              refine ⟨fun hc => absurd hc (nI_nlt (a := 20) (b := b) (by omega) (by omega)), fun _ => ?_⟩
              have ho4 : offG σ (su (su (su σ3 6 2 2 (nI la)) 6 2 0 (nI a)) 6 2 1 (nI b)) := by
                intro c o k hk
                have m0 : ∀ j, j < 3 → ¬ (c = 6 ∧ k = j ∧ o = 2) := fun j hj z => hk (Or.inl ⟨z.1, z.2.2, by omega⟩)
                rw [← ho3 c o k hk]
                simp [su, m0 0, m0 1, m0 2]
              have hF4 := hF.off ho4
              have hR4 : RlC (su (su (su σ3 6 2 2 (nI la)) 6 2 0 (nI a)) 6 2 1 (nI b)) (441 * la + 21 * a + b) := by
                refine ⟨?_, ?_, ?_⟩
                · rw [su_nk rfl, su_nk rfl, su_eq]; congr 1; omega
                · rw [su_nk rfl, su_eq]; congr 1; omega
                · rw [su_eq]; congr 1; omega
              have hO4 : FoC (su (su (su σ3 6 2 2 (nI la)) 6 2 0 (nI a)) 6 2 1 (nI b)) (FtS (fun r => fitF N F M r cnt) (fun r => mvF N F r cnt) (441 * la + 21 * a + b)) := by
                unfold FoC at hC3 ⊢
                simp only [su_nc (c := 6) (c' := 19) rfl]
                exact hC3
              refine sp_isFitC hF4 hR4 (by omega) (fun hfit => ?_) (fun hfit => ?_)
              · refine ⟨fun hc => absurd hc (by decide), fun _ => ?_⟩
                refine sp_noteFitC hF4 hR4 (by omega) rfl hfit hO4 (fun σ5 of5 hC5 => ?_)
                rw [nI_1]
                exact ih3 (b + 1) σ5 (by omega) (ho4.trans (fun c o k hk => of5 c o k (by omega))) hC5
              · refine ⟨fun _ => ?_, fun hc => absurd rfl hc⟩
                rw [nI_1]
                refine ih3 (b + 1) _ (by omega) ho4 ?_
                have es : FtS (fun r => fitF N F M r cnt) (fun r => mvF N F r cnt) (441 * la + 21 * a + (b + 1)) = FtS (fun r => fitF N F M r cnt) (fun r => mvF N F r cnt) (441 * la + 21 * a + b) := by
                  rw [show 441 * la + 21 * a + (b + 1) = (441 * la + 21 * a + b) + 1 by omega, FtS, if_neg hfit]
                rw [es]
                exact hO4
          exact ⟨22, inner 21 0 σ2 (by omega) ho2 hC2⟩
      exact ⟨22, mid 21 0 σ1 (by omega) ho hC⟩
  exact ⟨8, outer 7 0 σ (by omega) (fun _ _ _ _ => rfl) hz⟩
/-- the reference's FILM -/
def FmM (μ : St) (N F M : Nat → Int32) (cnt : Nat) : Prop := μ 0 0 37 = nI cnt ∧ cnt ≤ 24 ∧ (∀ t, t ≤ cnt → μ 14 0 t = F t) ∧ (∀ t, t < cnt → μ 15 0 t = M t) ∧ μ 0 0 11 = N 3 ∧ μ 0 0 12 = N 4
def RlM (μ : St) (r : Nat) : Prop := μ 0 0 30 = nI (r / 441) ∧ μ 0 0 28 = nI (r / 21 % 21) ∧ μ 0 0 29 = nI (r % 21)
def offH (μ μ' : St) : Prop := ∀ c o k, ¬ (c = 0 ∧ 28 ≤ k ∧ k ≤ 30) → μ' c o k = μ c o k
theorem offH.trans {a b c : St} (h1 : offH a b) (h2 : offH b c) : offH a c := fun x y z h => (h2 x y z h).trans (h1 x y z h)
theorem FmM.off {μ μ' : St} {N F M : Nat → Int32} {cnt : Nat} (h : FmM μ N F M cnt) (ho : offH μ μ') : FmM μ' N F M cnt := by
  obtain ⟨f1, f2, f3, f4, f5, f6⟩ := h
  refine ⟨?_, f2, fun t ht => ?_, fun t ht => ?_, ?_, ?_⟩
  · rw [ho 0 0 37 (by omega)]; exact f1
  · rw [ho 14 0 t (by omega)]; exact f3 t ht
  · rw [ho 15 0 t (by omega)]; exact f4 t ht
  · rw [ho 0 0 11 (by omega)]; exact f5
  · rw [ho 0 0 12 (by omega)]; exact f6
theorem e_mindsF {μ : St} {N F M : Nat → Int32} {cnt r : Nat} {s b : Int32} {post : Int32 → St → Prop} (hF : FmM μ N F M cnt) (hr : RlM μ r) : wp_X9_minds s b post μ = post (mind (Nft N r) s b) μ := by
  obtain ⟨f1, f2, f3, f4, f5, f6⟩ := hF
  obtain ⟨r1, r2, r3⟩ := hr
  unfold wp_X9_minds wp_X9_minds_19 wp_X9_minds_71 mind lim Nft
  rw [r2, r3, f5, f6]
  simp only [if_true, if_false, show ¬ (1 : Nat) = 0 by decide, show ¬ (3 : Nat) = 0 by decide, show ¬ (3 : Nat) = 1 by decide, show ¬ (4 : Nat) = 0 by decide, show ¬ (4 : Nat) = 1 by decide]
  by_cases h1 : N 4 ≤ s
  · by_cases h2 : (nI (r / 21 % 21) * s + nI (r % 21) * (s - b)) / 10 ≤ N 3 <;> by_cases h3 : -(N 3) ≤ (nI (r / 21 % 21) * s + nI (r % 21) * (s - b)) / 10 <;> simp [h1, h2, h3]
  · by_cases h4 : s ≤ -(N 4)
    · by_cases h2 : (nI (r / 21 % 21) * s + nI (r % 21) * (s - b)) / 10 ≤ N 3 <;> by_cases h3 : -(N 3) ≤ (nI (r / 21 % 21) * s + nI (r % 21) * (s - b)) / 10 <;> simp [h1, h2, h3, h4]
    · simp [h1, h4]
theorem sp_mindsAtM {μ : St} {N F M : Nat → Int32} {cnt r t : Nat} {x : Int32} {post : Int32 → St → Prop} (hF : FmM μ N F M cnt) (hr : RlM μ r) (hr7 : r < 3087) (ht : t ≤ cnt) (hx : x = nI t) (h : post (mvF N F r t) μ) : wp_X9_mindsAt x post μ := by
  subst hx
  have hF0 := hF
  obtain ⟨f1, f2, f3, f4, f5, f6⟩ := hF0
  have hr0 := hr
  obtain ⟨r1, r2, r3⟩ := hr0
  have hl : r / 441 ≤ 6 := by omega
  have k39 : wp_X9_mindsAt_39 (nI t) post (F (t - r / 441)) (nI (t - (r / 441 + 1))) μ := by
    unfold wp_X9_mindsAt_39
    rw [nI_clamp (by omega), f3 _ (by omega), e_mindsF hF hr]
    exact ⟨vp_in_nI (by omega) (by decide), h⟩
  have k25 : wp_X9_mindsAt_25 (nI t) post (nI t - nI (r / 441 + 1)) (nI (t - r / 441)) μ := by
    unfold wp_X9_mindsAt_25
    rw [nI_clamp (by omega), f3 _ (by omega)]
    refine ⟨vp_in_nI (by omega) (by decide), fun hc => ?_, fun hc => ?_⟩
    · have e : t - (r / 441 + 1) = 0 := by
        rcases Nat.lt_or_ge (r / 441 + 1) t with z | z
        · rw [nI_sub_pos (by omega)] at hc
          exact absurd hc (nI_nle (by omega) (by omega))
        · omega
      rw [e] at k39
      exact k39
    · have z : r / 441 + 1 < t := by
        rcases Nat.lt_or_ge (r / 441 + 1) t with z | z
        · exact z
        · exact absurd (nI_sub_le (by omega) (by omega) z) hc
      rw [nI_sub_pos (by omega)]
      exact k39
  unfold wp_X9_mindsAt
  rw [r1, ii_subsub, nI_1]
  refine ⟨fun hc => ?_, fun hc => ?_⟩
  · have e : t - r / 441 = 0 := by
      rcases Nat.lt_or_ge (r / 441) t with z | z
      · rw [nI_sub_pos (by omega)] at hc
        exact absurd hc (nI_nle (by omega) (by omega))
      · omega
    rw [e] at k25
    exact k25
  · have z : r / 441 < t := by
      rcases Nat.lt_or_ge (r / 441) t with z | z
      · exact z
      · exact absurd (nI_sub_le (by omega) (by omega) z) hc
    have e : nI t - nI (r / 441) = nI (t - r / 441) := nI_sub_pos (by omega)
    rw [e]
    exact k25
theorem sp_fitsByM {μ : St} {N F M : Nat → Int32} {cnt r : Nat} {x : Int32} {post : Int32 → St → Prop} (hF : FmM μ N F M cnt) (hr7 : r < 3087) (hx : x = nI r) (h1 : ∀ μ', fitF N F M r cnt = true → offH μ μ' → RlM μ' r → post 1 μ') (h0 : ∀ μ', ¬ fitF N F M r cnt = true → offH μ μ' → post 0 μ') : wp_X9_fitsBy x post μ := by
  subst hx
  have d1 : nI r / 441 = nI (r / 441) := pk_div (d := 441) (by omega) (by decide) (by decide)
  have d2 : nI r / 21 = nI (r / 21) := pk_div (d := 21) (by omega) (by decide) (by decide)
  have d3 : nI r - nI r / 21 * 21 = nI (r % 21) := pk_rem (d := 21) (by omega) (by decide) (by decide)
  have d4 : nI (r / 21) - nI (r / 21) / 21 * 21 = nI (r / 21 % 21) := pk_rem (d := 21) (by omega) (by decide) (by decide)
  unfold wp_X9_fitsBy
  rw [d3, d1, d2, d4]
  have ho : offH μ (su (su (su μ 0 0 30 (nI (r / 441))) 0 0 28 (nI (r / 21 % 21))) 0 0 29 (nI (r % 21))) := by
    intro c o k hk
    have m0 : ∀ j, 28 ≤ j → j ≤ 30 → ¬ (c = 0 ∧ k = j ∧ o = 0) := fun j j1 j2 z => hk ⟨z.1, by omega, by omega⟩
    simp [su, m0 28, m0 29, m0 30]
  have hR : RlM (su (su (su μ 0 0 30 (nI (r / 441))) 0 0 28 (nI (r / 21 % 21))) 0 0 29 (nI (r % 21))) r := ⟨by rw [su_nk rfl, su_nk rfl, su_eq], by rw [su_nk rfl, su_eq], su_eq⟩
  have hF1 := hF.off ho
  generalize su (su (su μ 0 0 30 (nI (r / 441))) 0 0 28 (nI (r / 21 % 21))) 0 0 29 (nI (r % 21)) = μ1 at ho hR hF1 ⊢
  have hF2 := hF1
  obtain ⟨f1, f2, f3, f4, f5, f6⟩ := hF2
  have stop : ∀ n (t : Nat), ¬ fitF N F M r cnt = true → wp_X9_fitsBy_32 (nI r) post (n + 1) 0 (nI t) μ1 := by
    intro n t hn
    unfold wp_X9_fitsBy_32 wp_X9_fitsBy_70
    exact ⟨fun _ => ⟨bool0, h0 μ1 hn ho⟩, fun _ => ⟨fun _ => ⟨bool0, h0 μ1 hn ho⟩, fun hc => absurd rfl hc⟩⟩
  have loop : ∀ n t, t + n = cnt → (∀ s, s < t → mvF N F r s = M s) → wp_X9_fitsBy_32 (nI r) post (n + 2) 1 (nI t) μ1 := by
    intro n
    induction n with
    | zero =>
      intro t e ht
      unfold wp_X9_fitsBy_32 wp_X9_fitsBy_70
      rw [f1]
      exact ⟨fun _ => ⟨bool1, h1 μ1 (fitF_all cnt (fun s hs => ht s (by omega))) ho hR⟩, fun hc => absurd (nI_le (a := cnt) (b := t) (by omega) (by omega)) hc⟩
    | succ n ih =>
      intro t e ht
      unfold wp_X9_fitsBy_32 wp_X9_fitsBy_70 wp_X9_fitsBy_63
      rw [f1]
      refine ⟨fun hc => absurd hc (nI_ge (a := t) (b := cnt) (by omega) (by omega)), fun _ => ⟨fun hc => absurd hc (by decide), fun _ => ?_⟩⟩
      refine sp_mindsAtM hF1 hR hr7 (by omega) rfl ⟨vp_in_nI (by omega) (by decide), ?_⟩
      rw [nI_clamp (by omega), f4 t (by omega), nI_1]
      refine ⟨fun hc => stop (n + 1) (t + 1) (fun z => hc (fitF_lt cnt z t (by omega))), fun hc => ih (t + 1) (by omega) (fun s hs => ?_)⟩
      by_cases hst : s = t
      · rw [hst]; exact hc
      · exact ht s (by omega)
  exact ⟨cnt + 2, loop cnt 0 (by omega) (fun s hs => by omega)⟩
