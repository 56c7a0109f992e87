/-! PURE: FITS and NEXT of the reference -/
def ansF (x1 : Int32) (s : Nat × Nat × Int32 × Int32) : Int32 := if x1 = 0 then nI s.1 else if s.1 = 0 then -1 else if x1 = 1 then nI (s.2.1 / 441) else if x1 = 2 then nI (s.2.1 / 21 % 21) else nI (s.2.1 % 21)
theorem sp_fitsM {μ : St} {N F M : Nat → Int32} {cnt : Nat} {x1 : Int32} {post : Int32 → St → Prop} (hF : FmM μ N F M cnt) (h : ∀ μ', offH μ μ' → post (ansF x1 (FtS (fun r => fitF N F M r cnt) (fun r => mvF N F r cnt) 3087)) μ') : ∃ nn, wp_X9_fits_22 x1 post nn 0 (-1) 0 μ := by
  have loop : ∀ n r μ1, r + n = 3087 → offH μ μ1 → wp_X9_fits_22 x1 post (n + 1) (nI (FtS (fun r => fitF N F M r cnt) (fun r => mvF N F r cnt) r).1) (if (FtS (fun r => fitF N F M r cnt) (fun r => mvF N F r cnt) r).1 = 0 then -1 else nI (FtS (fun r => fitF N F M r cnt) (fun r => mvF N F r cnt) r).2.1) (nI r) μ1 := by
    intro n
    induction n with
    | zero =>
      intro r μ1 e ho
      have er : r = 3087 := by omega
      subst er
      have hh := h μ1 ho
      have hl := FtS_le (p := fun r => fitF N F M r cnt) (V := fun r => mvF N F r cnt) 3087
      have hf := FtS_first (p := fun r => fitF N F M r cnt) (V := fun r => mvF N F r cnt) 3087
      generalize FtS (fun r => fitF N F M r cnt) (fun r => mvF N F r cnt) 3087 = s at hh hl hf ⊢
      unfold wp_X9_fits_22 wp_X9_fits_108
      refine ⟨fun _ => ⟨fun h0 => ⟨fun hm => ?_, fun hm => ?_⟩, fun h0 => ?_⟩, fun hc => absurd (nI_le (a := 3087) (b := 3087) (by decide) (by decide)) hc⟩
      · have hs : ¬ s.1 = 0 := by
          intro z
          apply hm
          rw [if_pos z]
        rw [if_neg hs]
        have d1 : nI s.2.1 / 441 = nI (s.2.1 / 441) := pk_div (d := 441) (by omega) (by decide) (by decide)
        have d2 : nI s.2.1 / 21 = nI (s.2.1 / 21) := pk_div (d := 21) (by omega) (by decide) (by decide)
        have d3 : nI s.2.1 - nI s.2.1 / 21 * 21 = nI (s.2.1 % 21) := pk_rem (d := 21) (by omega) (by decide) (by decide)
        have d4 : nI (s.2.1 / 21) - nI (s.2.1 / 21) / 21 * 21 = nI (s.2.1 / 21 % 21) := pk_rem (d := 21) (by omega) (by decide) (by decide)
        rw [d3, d2, d4, d1]
        unfold ansF at hh
        rw [if_neg h0, if_neg hs] at hh
        refine ⟨fun h1 => ⟨fun h2 => ?_, fun h2 => ?_⟩, fun h1 => ?_⟩
        · rw [if_neg h1, if_neg h2] at hh; exact hh
        · rw [if_neg h1, if_pos h2] at hh; exact hh
        · rw [if_pos h1] at hh; exact hh
      · have hs : s.1 = 0 := by
          rcases Nat.eq_zero_or_pos s.1 with z | z
          · exact z
          · exfalso
            rw [if_neg (by omega)] at hm
            have := congrArg Int32.toInt hm
            rw [nI_toInt (by omega), show (-1 : Int32).toInt = -1 by decide] at this
            omega
        unfold ansF at hh
        rw [if_neg h0, if_pos hs] at hh
        exact hh
      · unfold ansF at hh
        rw [if_pos h0] at hh
        exact hh
    | succ n ih =>
      intro r μ1 e ho
      have hl := FtS_le (p := fun r => fitF N F M r cnt) (V := fun r => mvF N F r cnt) r
      unfold wp_X9_fits_22 wp_X9_fits_49 wp_X9_fits_53
      refine ⟨fun hc => absurd hc (nI_ge (a := r) (b := 3087) (by omega) (by decide)), fun _ => ?_⟩
      refine sp_fitsByM (hF.off ho) (by omega) rfl (fun μ2 hfit o2 _ => ?_) (fun μ2 hfit o2 => ?_)
      · refine ⟨fun hc => absurd hc (by decide), fun _ => ?_⟩
        have nx := ih (r + 1) μ2 (by omega) (ho.trans o2)
        have es : (FtS (fun r => fitF N F M r cnt) (fun r => mvF N F r cnt) (r + 1)).1 = (FtS (fun r => fitF N F M r cnt) (fun r => mvF N F r cnt) r).1 + 1 ∧ (FtS (fun r => fitF N F M r cnt) (fun r => mvF N F r cnt) (r + 1)).2.1 = (if (FtS (fun r => fitF N F M r cnt) (fun r => mvF N F r cnt) r).1 = 0 then r else (FtS (fun r => fitF N F M r cnt) (fun r => mvF N F r cnt) r).2.1) := by
          rw [FtS, if_pos (show (fun r => fitF N F M r cnt) r = true from hfit)]
          exact ⟨rfl, rfl⟩
        rw [es.1, es.2, if_neg (by omega)] at nx
        have e0 : nI (FtS (fun r => fitF N F M r cnt) (fun r => mvF N F r cnt) r).1 = 0 ↔ (FtS (fun r => fitF N F M r cnt) (fun r => mvF N F r cnt) r).1 = 0 := nI_eq (b := 0) (by omega) (by decide)
        rw [e0, nI_1, nI_1]
        refine ⟨fun hz => ?_, fun hz => ?_⟩
        · rw [if_neg hz] at nx ⊢; exact nx
        · rw [if_pos hz] at nx; exact nx
      · refine ⟨fun _ => ?_, fun hc => absurd rfl hc⟩
        have nx := ih (r + 1) μ2 (by omega) (ho.trans o2)
        have es : FtS (fun r => fitF N F M r cnt) (fun r => mvF N F r cnt) (r + 1) = FtS (fun r => fitF N F M r cnt) (fun r => mvF N F r cnt) r := by
          rw [FtS, if_neg hfit]
        rw [es] at nx
        rw [nI_1]
        exact nx
  exact ⟨3088, loop 3087 0 μ (by omega) (fun _ _ _ _ => rfl)⟩
def ansN (x2 : Int32) (s : Nat × Nat × Int32 × Int32) : Int32 := if s.1 = 0 then -1 else 1000 + (if x2 = 0 then s.2.2.1 else s.2.2.2)
theorem Nft_NB {N : Nat → Int32} {r : Nat} (h : NB N) : NB (Nft N r) := by
  intro k hk
  unfold Nft
  by_cases h0 : k = 0
  · subst h0
    rw [if_pos rfl, nI_toInt (by omega)]
    have e1 : (tLeast.getD 0 0).toInt = 0 := by decide
    have e2 : (tMost.getD 0 0).toInt = 40 := by decide
    omega
  · by_cases h1 : k = 1
    · subst h1
      rw [if_neg (by decide), if_pos rfl, nI_toInt (by omega)]
      have e1 : (tLeast.getD 1 0).toInt = 0 := by decide
      have e2 : (tMost.getD 1 0).toInt = 40 := by decide
      omega
    · rw [if_neg h0, if_neg h1]
      exact h k hk
theorem sp_nextM {μ : St} {N F M : Nat → Int32} {cnt : Nat} {x1 x2 : Int32} {post : Int32 → St → Prop} (hF : FmM μ N F M cnt) (hN : NB N) (h : ∀ μ', offH μ μ' → post (ansN x2 (FtS (fun r => fitF N F M r cnt) (fun r => mvF N F r cnt) 3087)) μ') : ∃ nn, wp_X9_next_42 x1 x2 post nn 268435456 (-268435456) 0 μ := by
  have hV : ∀ i, ab ((fun r => mvF N F r cnt) i) 99 := fun i => ab_mind (Nft_NB hN) _ _
  have loop : ∀ n r μ1, r + n = 3087 → offH μ μ1 → wp_X9_next_42 x1 x2 post (n + 1) (if (FtS (fun r => fitF N F M r cnt) (fun r => mvF N F r cnt) r).1 = 0 then 268435456 else (FtS (fun r => fitF N F M r cnt) (fun r => mvF N F r cnt) r).2.2.1) (if (FtS (fun r => fitF N F M r cnt) (fun r => mvF N F r cnt) r).1 = 0 then -268435456 else (FtS (fun r => fitF N F M r cnt) (fun r => mvF N F r cnt) r).2.2.2) (nI r) μ1 := by
    intro n
    induction n with
    | zero =>
      intro r μ1 e ho
      have er : r = 3087 := by omega
      subst er
      have hh := h μ1 ho
      have hab := FtS_ab (p := fun r => fitF N F M r cnt) hV 3087
      generalize FtS (fun r => fitF N F M r cnt) (fun r => mvF N F r cnt) 3087 = s at hh hab ⊢
      unfold wp_X9_next_42 wp_X9_next_128 wp_X9_next_129
      refine ⟨fun _ => ⟨fun hm => ?_, fun hm => ?_⟩, fun hc => absurd (nI_le (a := 3087) (b := 3087) (by decide) (by decide)) hc⟩
      · have hs : ¬ s.1 = 0 := by
          intro z
          apply hm
          rw [if_pos z]
        unfold ansN at hh
        rw [if_neg hs] at hh
        rw [if_neg hs, if_neg hs]
        refine ⟨fun h0 => ?_, fun h0 => ?_⟩
        · rw [if_neg h0] at hh; exact hh
        · rw [if_pos h0] at hh; exact hh
      · have hs : s.1 = 0 := by
          rcases Nat.eq_zero_or_pos s.1 with z | z
          · exact z
          · exfalso
            rw [if_neg (by omega)] at hm
            have h1 := hab.1
            rw [hm] at h1
            exact absurd h1 (by unfold ab; decide)
        unfold ansN at hh
        rw [if_pos hs] at hh
        exact hh
    | succ n ih =>
      intro r μ1 e ho
      unfold wp_X9_next_42 wp_X9_next_81 wp_X9_next_96 wp_X9_next_98
      refine ⟨fun hc => absurd hc (nI_ge (a := r) (b := 3087) (by omega) (by decide)), fun _ => ?_⟩
      refine sp_fitsByM (hF.off ho) (by omega) rfl (fun μ2 hfit o2 hR2 => ?_) (fun μ2 hfit o2 => ?_)
      · refine ⟨fun hc => absurd hc (by decide), fun _ => ?_⟩
        have hF2 := hF.off (ho.trans o2)
        refine sp_mindsAtM hF2 hR2 (by omega) (Nat.le_refl _) hF2.1 ?_
        have nx := ih (r + 1) μ2 (by omega) (ho.trans o2)
        have hv := hV r
        have es : (FtS (fun r => fitF N F M r cnt) (fun r => mvF N F r cnt) (r + 1)).1 = (FtS (fun r => fitF N F M r cnt) (fun r => mvF N F r cnt) r).1 + 1 ∧ (FtS (fun r => fitF N F M r cnt) (fun r => mvF N F r cnt) (r + 1)).2.2.1 = (if (FtS (fun r => fitF N F M r cnt) (fun r => mvF N F r cnt) r).1 = 0 then mvF N F r cnt else (if mvF N F r cnt < (FtS (fun r => fitF N F M r cnt) (fun r => mvF N F r cnt) r).2.2.1 then mvF N F r cnt else (FtS (fun r => fitF N F M r cnt) (fun r => mvF N F r cnt) r).2.2.1)) ∧ (FtS (fun r => fitF N F M r cnt) (fun r => mvF N F r cnt) (r + 1)).2.2.2 = (if (FtS (fun r => fitF N F M r cnt) (fun r => mvF N F r cnt) r).1 = 0 then mvF N F r cnt else (if (FtS (fun r => fitF N F M r cnt) (fun r => mvF N F r cnt) r).2.2.2 < mvF N F r cnt then mvF N F r cnt else (FtS (fun r => fitF N F M r cnt) (fun r => mvF N F r cnt) r).2.2.2)) := by
          rw [FtS, if_pos (show (fun r => fitF N F M r cnt) r = true from hfit)]
          exact ⟨rfl, rfl, rfl⟩
        rw [es.1, es.2.1, es.2.2] at nx
        simp only [Nat.succ_ne_zero, if_false, Nat.add_eq_zero_iff, Nat.one_ne_zero, and_false] at nx
        generalize FtS (fun r => fitF N F M r cnt) (fun r => mvF N F r cnt) r = s at nx ⊢
        have hv' : ab (mvF N F r cnt) 99 := hv
        generalize mvF N F r cnt = v at nx hv' ⊢
        rw [nI_1]
        by_cases hs : s.1 = 0
        · rw [if_pos hs, if_pos hs] at nx ⊢
          have g1 : ¬ (268435456 : Int32) ≤ v := by
            rw [fa_le, show (268435456 : Int32).toInt = 268435456 by decide]
            unfold ab at hv'
            omega
          have g2 : ¬ v ≤ (-268435456 : Int32) := by
            rw [fa_le, show (-268435456 : Int32).toInt = -268435456 by decide]
            unfold ab at hv'
            omega
          exact ⟨fun hc => absurd hc g1, fun _ => ⟨fun hc => absurd hc g2, fun _ => nx⟩⟩
        · rw [if_neg hs, if_neg hs] at nx ⊢
          by_cases c1 : s.2.2.1 ≤ v
          · have c1' : ¬ v < s.2.2.1 := fun z => (fa_of_lt z).2.1 c1
            rw [if_neg c1'] at nx
            refine ⟨fun _ => ⟨fun c2 => ?_, fun c2 => ?_⟩, fun hc => absurd c1 hc⟩
            · rw [if_neg (fun z => (fa_of_lt z).2.1 c2)] at nx; exact nx
            · rw [if_pos (fa_of_nle c2)] at nx; exact nx
          · rw [if_pos (fa_of_nle c1)] at nx
            refine ⟨fun hc => absurd hc c1, fun _ => ⟨fun c2 => ?_, fun c2 => ?_⟩⟩
            · rw [if_neg (fun z => (fa_of_lt z).2.1 c2)] at nx; exact nx
            · rw [if_pos (fa_of_nle c2)] at nx; exact nx
      · refine ⟨fun _ => ?_, fun hc => absurd rfl hc⟩
        have nx := ih (r + 1) μ2 (by omega) (ho.trans o2)
        have es : FtS (fun r => fitF N F M r cnt) (fun r => mvF N F r cnt) (r + 1) = FtS (fun r => fitF N F M r cnt) (fun r => mvF N F r cnt) r := by
          rw [FtS, if_neg hfit]
        rw [es] at nx
        rw [nI_1]
        exact nx
  exact ⟨3088, loop 3087 0 μ (by omega) (fun _ _ _ _ => rfl)⟩
