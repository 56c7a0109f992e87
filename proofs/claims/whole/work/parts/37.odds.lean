/-! PURE: ODDS: rows of winds by figures of three, in any order of the figures -/
def cdS (N : Nat → Int32) (kd own lg : Int32) (ago : Nat) (G : Nat → Int32) (C : Nat → Nat) : Nat → Nat → Q4 → Nat → Nat
  | 0, t, q, _ => if fellS (N 7) (q.1 t) then 0 else 1
  | n + 1, t, q, c => if fellS (N 7) (q.1 t) then 0 else C (c % 3) * cdS N kd own lg ago G C n (t + 1) (stepS N kd own lg ago true (G (c % 3)) t q) (c / 3)
def evS (N : Nat → Int32) (kd own lg : Int32) (ago : Nat) (G : Nat → Int32) (C : Nat → Nat) : Nat → Nat → Q4 → Nat
  | 0, t, q => if fellS (N 7) (q.1 t) then 0 else 1
  | n + 1, t, q => if fellS (N 7) (q.1 t) then 0 else C 0 * evS N kd own lg ago G C n (t + 1) (stepS N kd own lg ago true (G 0) t q) + C 1 * evS N kd own lg ago G C n (t + 1) (stepS N kd own lg ago true (G 1) t q) + C 2 * evS N kd own lg ago G C n (t + 1) (stepS N kd own lg ago true (G 2) t q)
def smN (f : Nat → Nat) : Nat → Nat
  | 0 => 0
  | n + 1 => smN f n + f n
theorem smN_zero (n : Nat) : smN (fun _ => 0) n = 0 := by
  induction n with
  | zero => rfl
  | succ n ih => rw [smN, ih]
theorem smN_mul (a : Nat) (f : Nat → Nat) (n : Nat) : smN (fun c => a * f c) n = a * smN f n := by
  induction n with
  | zero => simp [smN]
  | succ n ih => rw [smN, smN, ih, Nat.mul_add]
theorem smN_cong {f g : Nat → Nat} {n : Nat} (h : ∀ i, i < n → f i = g i) : smN f n = smN g n := by
  induction n with
  | zero => rfl
  | succ n ih => rw [smN, smN, ih (fun i hi => h i (by omega)), h n (by omega)]
theorem smN_three (f : Nat → Nat → Nat) (m : Nat) : smN (fun c => f (c % 3) (c / 3)) (3 * m) = smN (f 0) m + smN (f 1) m + smN (f 2) m := by
  induction m with
  | zero => rfl
  | succ m ih =>
    rw [show 3 * (m + 1) = 3 * m + 1 + 1 + 1 by omega, smN, smN, smN, ih]
    simp only [smN]
    rw [show (3 * m) % 3 = 0 by omega, show (3 * m) / 3 = m by omega, show (3 * m + 1) % 3 = 1 by omega, show (3 * m + 1) / 3 = m by omega, show (3 * m + 1 + 1) % 3 = 2 by omega, show (3 * m + 1 + 1) / 3 = m by omega]
    omega
theorem sum_cw {N : Nat → Int32} {kd own lg : Int32} {ago : Nat} {G : Nat → Int32} {C : Nat → Nat} : ∀ n t q, smN (cdS N kd own lg ago G C n t q) (3 ^ n) = evS N kd own lg ago G C n t q := by
  intro n
  induction n with
  | zero =>
    intro t q
    show 0 + cdS N kd own lg ago G C 0 t q 0 = _
    rw [Nat.zero_add]
    rfl
  | succ n ih =>
    intro t q
    by_cases hf : fellS (N 7) (q.1 t) = true
    · have e : smN (cdS N kd own lg ago G C (n + 1) t q) (3 ^ (n + 1)) = smN (fun _ => 0) (3 ^ (n + 1)) := smN_cong (fun i _ => by simp [cdS, hf])
      rw [e, smN_zero]
      simp [evS, hf]
    · have e : smN (cdS N kd own lg ago G C (n + 1) t q) (3 ^ (n + 1)) = smN (fun c => (fun d c' => C d * cdS N kd own lg ago G C n (t + 1) (stepS N kd own lg ago true (G d) t q) c') (c % 3) (c / 3)) (3 * 3 ^ n) := by
        rw [show 3 ^ (n + 1) = 3 * 3 ^ n by rw [Nat.pow_succ]; omega]
        exact smN_cong (fun i _ => by simp [cdS, hf])
      have e3 := smN_three (fun d c' => C d * cdS N kd own lg ago G C n (t + 1) (stepS N kd own lg ago true (G d) t q) c') (3 ^ n)
      simp only [smN_mul, ih] at e3
      rw [e, e3]
      simp [evS, hf]
/-- the class's figures and the reference's -/
def gC (w : Int32) (d : Nat) : Int32 := w * (nI d - 1)
def cC (p d : Nat) : Nat := if d = 1 then 10 - 2 * p else p
def gM (w : Int32) (d : Nat) : Int32 := if d = 1 then w else if d = 2 then -w else 0
def cM (p d : Nat) : Nat := if d = 0 then 10 - 2 * p else p
theorem ev_same {N : Nat → Int32} {kd own lg w : Int32} {ago p : Nat} : ∀ n t q, evS N kd own lg ago (gC w) (cC p) n t q = evS N kd own lg ago (gM w) (cM p) n t q := by
  have g0 : gC w 0 = -w := by
    show w * (nI 0 - 1) = -w
    rw [show nI 0 - 1 = (-1 : Int32) by decide, Int32.mul_neg, Int32.mul_one]
  have g1 : gC w 1 = 0 := by
    show w * (nI 1 - 1) = 0
    rw [show nI 1 - 1 = (0 : Int32) by decide, Int32.mul_zero]
  have g2 : gC w 2 = w := by
    show w * (nI 2 - 1) = w
    rw [show nI 2 - 1 = (1 : Int32) by decide, Int32.mul_one]
  intro n
  induction n with
  | zero => intro t q; rfl
  | succ n ih =>
    intro t q
    unfold evS
    rw [ih, ih, ih, g0, g1, g2]
    show (if fellS (N 7) (q.1 t) = true then 0 else p * _ + (10 - 2 * p) * _ + p * _) = (if fellS (N 7) (q.1 t) = true then 0 else (10 - 2 * p) * evS N kd own lg ago (gM w) (cM p) n (t + 1) (stepS N kd own lg ago true 0 t q) + p * evS N kd own lg ago (gM w) (cM p) n (t + 1) (stepS N kd own lg ago true w t q) + p * evS N kd own lg ago (gM w) (cM p) n (t + 1) (stepS N kd own lg ago true (-w) t q))
    split
    · rfl
    · omega
theorem ev_le {N : Nat → Int32} {kd own lg w : Int32} {ago p : Nat} (hp : p ≤ 5) : ∀ n t q, evS N kd own lg ago (gM w) (cM p) n t q ≤ 10 ^ n := by
  intro n
  induction n with
  | zero => intro t q; unfold evS; split <;> decide
  | succ n ih =>
    intro t q
    unfold evS
    split
    · exact Nat.zero_le _
    · have a := ih (t + 1) (stepS N kd own lg ago true (gM w 0) t q)
      have b := ih (t + 1) (stepS N kd own lg ago true (gM w 1) t q)
      have c := ih (t + 1) (stepS N kd own lg ago true (gM w 2) t q)
      show (10 - 2 * p) * _ + p * _ + p * _ ≤ _
      have a' := Nat.mul_le_mul_left (10 - 2 * p) a
      have b' := Nat.mul_le_mul_left p b
      have c' := Nat.mul_le_mul_left p c
      have e : (10 - 2 * p) * 10 ^ n + p * 10 ^ n + p * 10 ^ n = 10 ^ (n + 1) := by
        rw [← Nat.add_mul, ← Nat.add_mul, show 10 - 2 * p + p + p = 10 by omega, Nat.pow_succ, Nat.mul_comm]
      omega
theorem dig3 {c : Nat} (hc : c < 2 ^ 31) : nI c - nI c / 3 * 3 = nI (c % 3) ∧ nI c / 3 = nI (c / 3) := ⟨pk_rem (d := 3) hc (by decide) (by decide), pk_div (d := 3) hc (by decide) (by decide)⟩
theorem rest10 {p : Nat} (hp : p ≤ 5) : 10 - 2 * nI p = nI (10 - 2 * p) := by
  show nI 10 - nI 2 * nI p = _
  rw [pk_mul, nI_sub_pos (by omega)]
theorem sp_power {σ : St} {b n : Nat} {x0 x1 : Int32} {post : Int32 → St → Prop} (hb : x0 = nI b) (hn : x1 = nI n) (hn2 : n < 1000) (h : post (nI (b ^ n)) σ) : wp_X8_power x0 x1 post σ := by
  subst hb; subst hn
  have loop : ∀ m i, i + m = n → wp_X8_power_4 (nI b) (nI n) post (m + 1) (nI (b ^ i)) (nI i) σ := by
    intro m
    induction m with
    | zero =>
      intro i e
      have ei : i = n := by omega
      subst ei
      unfold wp_X8_power_4
      exact ⟨fun _ => h, fun hc => absurd (nI_le (Nat.le_refl i) (by omega)) hc⟩
    | succ m ih =>
      intro i e
      unfold wp_X8_power_4
      refine ⟨fun hc => absurd hc (nI_ge (a := i) (b := n) (by omega) (by omega)), fun _ => ?_⟩
      rw [nI_1, pk_mul, ← Nat.pow_succ]
      exact ih (i + 1) (by omega)
  exact ⟨n + 1, loop n 0 (by omega)⟩
theorem sp_chancesC {σ : St} {N : Nat → Int32} {kd own lg x0 w x3 x5 : Int32} {th la ob n p : Nat} {post : Int32 → St → Prop} (hT : ThC σ th kd own lg ob) (hR : RuC σ 1 N la) (hn : n ≤ 6) (hp : p ≤ 5) (hx3 : x3 = nI n) (hx5 : x5 = nI p) (h : ∀ σ', offK σ σ' → post (nI (evS N kd own lg (agoS la kd ob) (gM w) (cM p) n 0 (fun _ => x0, 0, 0, 0))) σ') : wp_X4_chances th x0 x3 w x5 post σ := by
  subst hx3; subst hx5
  have h3 : 3 ^ n ≤ 729 := Nat.pow_le_pow_right (n := 3) (by decide) hn
  have outer : ∀ m c σ1, c + m = 3 ^ n → offK σ σ1 → wp_X4_chances_13 th x0 (nI n) w (nI p) post (m + 1) (nI (smN (cdS N kd own lg (agoS la kd ob) (gC w) (cC p) n 0 (fun _ => x0, 0, 0, 0)) c)) (nI (3 ^ n)) (nI c) σ1 := by
    intro m
    induction m with
    | zero =>
      intro c σ1 e ho
      have ec : c = 3 ^ n := by omega
      subst ec
      unfold wp_X4_chances_13
      refine ⟨fun _ => ?_, fun hc => absurd (nI_le (Nat.le_refl _) (by omega)) hc⟩
      rw [sum_cw, ev_same]
      exact h σ1 ho
    | succ m ih =>
      intro c σ1 e ho
      unfold wp_X4_chances_13
      refine ⟨fun hc => absurd hc (nI_ge (a := c) (b := 3 ^ n) (by omega) (by omega)), fun _ => ?_⟩
      refine sp_startC (fun σ2 hof _ hB => ⟨n + 1, ?_⟩)
      have inner : ∀ m2 t W cc q σ3, t + m2 = n → cc < 2 ^ 31 → offK σ σ3 → Bal σ3 3 t q → (∀ j, j < t → ab (q.1 j) 999) → W * cdS N kd own lg (agoS la kd ob) (gC w) (cC p) m2 t q cc = cdS N kd own lg (agoS la kd ob) (gC w) (cC p) n 0 (fun _ => x0, 0, 0, 0) c → wp_X4_chances_40 th x0 (nI n) w (nI p) (fun y0 y1 y2 τ => wp_X4_chances_13 th x0 (nI n) w (nI p) post (m + 1) y0 y1 y2 τ) post (m2 + 1) (nI (smN (cdS N kd own lg (agoS la kd ob) (gC w) (cC p) n 0 (fun _ => x0, 0, 0, 0)) c)) (nI (3 ^ n)) (nI c) (nI W) (nI cc) (nI t) σ3 := by
        intro m2
        have k120 : ∀ (m2 t W cc : Nat) q σ3, offK σ σ3 → Bal σ3 3 t q → (fellS (N 7) (q.1 t) = true ∨ m2 = 0) → W * cdS N kd own lg (agoS la kd ob) (gC w) (cC p) m2 t q cc = cdS N kd own lg (agoS la kd ob) (gC w) (cC p) n 0 (fun _ => x0, 0, 0, 0) c → wp_X4_chances_120 th x0 (nI n) w (nI p) (fun y0 y1 y2 τ => wp_X4_chances_13 th x0 (nI n) w (nI p) post (m + 1) y0 y1 y2 τ) post (nI (smN (cdS N kd own lg (agoS la kd ob) (gC w) (cC p) n 0 (fun _ => x0, 0, 0, 0)) c)) (nI (3 ^ n)) (nI c) (nI W) σ3 := by
          intro m2 t W cc q σ3 ho3 hB3 hcase heq
          unfold wp_X4_chances_120 wp_X4_chances_141
          rw [e_fellC ((hR.off ho3).1 7 (by decide)) hB3.2.1, nI_1]
          have nx := ih (c + 1) σ3 (by omega) ho3
          rw [smN, ← heq] at nx
          refine ⟨fun hf => ?_, fun hf => ?_⟩
          · rw [bi_1] at hf
            have e0 : cdS N kd own lg (agoS la kd ob) (gC w) (cC p) m2 t q cc = 0 := by
              cases m2 <;> simp [cdS, hf]
            rw [e0, Nat.mul_zero, Nat.add_zero] at nx
            exact nx
          · rw [bi_0] at hf
            have e0 : m2 = 0 := by
              rcases hcase with z | z
              · exact absurd z hf
              · exact z
            subst e0
            have e1 : cdS N kd own lg (agoS la kd ob) (gC w) (cC p) 0 t q cc = 1 := by simp [cdS, hf]
            rw [e1, Nat.mul_one, ← nI_add] at nx
            exact nx
        induction m2 with
        | zero =>
          intro t W cc q σ3 e3 hcc ho3 hB3 hh heq
          unfold wp_X4_chances_40
          refine ⟨fun _ => k120 0 t W cc q σ3 ho3 hB3 (Or.inr rfl) heq, fun hc => absurd (nI_le (a := n) (b := t) (by omega) (by omega)) hc⟩
        | succ m2 ih2 =>
          intro t W cc q σ3 e3 hcc ho3 hB3 hh heq
          have hR3 := hR.off ho3
          unfold wp_X4_chances_40
          refine ⟨fun hc => absurd hc (nI_ge (a := t) (b := n) (by omega) (by omega)), fun _ => ?_⟩
          rw [e_fellC (hR3.1 7 (by decide)) hB3.2.1]
          refine ⟨fun hf => ?_, fun hf => ?_⟩
          · rw [bi_1] at hf
            exact k120 (m2 + 1) t W cc q σ3 ho3 hB3 (Or.inl hf) heq
          · rw [bi_0] at hf
            have hf' : fellS (N 7) (q.1 t) = false := by
              cases hc : fellS (N 7) (q.1 t) with
              | false => rfl
              | true => exact absurd hc hf
            have hh' : ∀ j, j ≤ t → ab (q.1 j) 999 := by
              intro j hj
              by_cases hjt : j = t
              · rw [hjt]; exact ab_of_fell hR.2.2.2 hf'
              · exact hh j (by omega)
            obtain ⟨d1, d2⟩ := dig3 hcc
            rw [d1]
            have hm3 : cc % 3 < 3 := Nat.mod_lt _ (by decide)
            have k87 : ∀ xs1 : Int32, xs1 = nI (cC p (cc % 3)) → wp_X4_chances_87 th x0 (nI n) w (nI p) (fun y0 y1 y2 τ => wp_X4_chances_13 th x0 (nI n) w (nI p) post (m + 1) y0 y1 y2 τ) (fun y0 y1 y2 y3 y4 y5 τ => wp_X4_chances_40 th x0 (nI n) w (nI p) (fun y0 y1 y2 τ => wp_X4_chances_13 th x0 (nI n) w (nI p) post (m + 1) y0 y1 y2 τ) post (m2 + 1) y0 y1 y2 y3 y4 y5 τ) post (nI (smN (cdS N kd own lg (agoS la kd ob) (gC w) (cC p) n 0 (fun _ => x0, 0, 0, 0)) c)) (nI (3 ^ n)) (nI c) (nI cc) (nI t) (nI (cc % 3) - 1) (nI W) xs1 σ3 := by
              intro xs1 hxs
              unfold wp_X4_chances_87
              refine sp_tickC hB3 (hT.off ho3) hR3 (fun j hj => ?_) (by omega) (mi := true) (by decide) (fun σ4 hof4 _ hB4 => ?_)
              · have := hh' j hj
                unfold ab at this
                omega
              · rw [hxs, pk_mul, d2, nI_1]
                refine ih2 (t + 1) _ (cc / 3) _ σ4 (by omega) (by omega) (ho3.trans (hof4.K (Or.inl rfl))) hB4 (fun j hj => ?_) ?_
                · show ab (upd q.1 (t + 1) _ j) 999
                  rw [pk_un (by omega)]
                  exact hh' j (by omega)
                · rw [← heq]
                  rw [cdS, if_neg hf, ← Nat.mul_assoc]
                  rfl
            have e1 : nI (cc % 3) - 1 = 0 ↔ cc % 3 = 1 := by
              constructor
              · intro z
                have h2 : cc % 3 = 0 ∨ cc % 3 = 1 ∨ cc % 3 = 2 := by omega
                rcases h2 with e | e | e
                · rw [e] at z; exact absurd z (by decide)
                · exact e
                · rw [e] at z; exact absurd z (by decide)
              · intro z; rw [z]; rfl
            rw [e1]
            refine ⟨fun hc => k87 _ ?_, fun hc => k87 _ ?_⟩
            · simp [cC, hc]
            · rw [rest10 hp]; simp [cC, hc]
      have := inner n 0 1 c (fun _ => x0, 0, 0, 0) σ2 (by omega) (by omega) (ho.trans (hof.K (Or.inl rfl))) hB (fun j hj => by omega) (by rw [Nat.one_mul])
      exact this
  unfold wp_X4_chances
  refine sp_power (b := 3) (n := n) rfl rfl (by omega) ⟨3 ^ n + 1, ?_⟩
  exact outer (3 ^ n) 0 σ (by omega) offK.rf
theorem sp_weightM {μ : St} {N : Nat → Int32} {kd own lg x0 w x1 x3 x5 : Int32} {la ob n p c : Nat} {post : Int32 → St → Prop} (hT : ThM μ kd own lg ob) (hR : RuM μ N la) (hn : n ≤ 6) (hp : p ≤ 5) (hc : c < 2 ^ 31) (hx1 : x1 = nI c) (hx3 : x3 = nI n) (hx5 : x5 = nI p) (h : ∀ μ', offR 0 μ μ' → post (nI (cdS N kd own lg (agoS la kd ob) (gM w) (cM p) n 0 (fun _ => x0, 0, 0, 0) c)) μ') : wp_X9_weightOf x1 x0 x3 w x5 post μ := by
  subst hx1; subst hx3; subst hx5
  have k105 : ∀ (m t W cc : Nat) q μ1, t ≤ 6 → offR 0 μ μ1 → Row μ1 0 t q → (fellS (N 7) (q.1 t) = true ∨ m = 0) → W * cdS N kd own lg (agoS la kd ob) (gM w) (cM p) m t q cc = cdS N kd own lg (agoS la kd ob) (gM w) (cM p) n 0 (fun _ => x0, 0, 0, 0) c → wp_X9_weightOf_105 (nI c) x0 (nI n) w (nI p) post (nI W) μ1 := by
    intro m t W cc q μ1 ht ho hB hcase heq
    unfold wp_X9_weightOf_105 wp_X9_weightOf_119
    rw [e_fellM (x := 0) hB (hR.off ho).2.2.2.2.2.2.2.2.1 (by decide) (by omega) rfl]
    have nx := h μ1 ho
    rw [← heq] at nx
    refine ⟨fun hf => ?_, fun hf => ?_⟩
    · rw [bi_0] at hf
      have e0 : m = 0 := by
        rcases hcase with z | z
        · exact absurd z hf
        · exact z
      subst e0
      have e1 : cdS N kd own lg (agoS la kd ob) (gM w) (cM p) 0 t q cc = 1 := by simp [cdS, hf]
      rw [e1, Nat.mul_one] at nx
      exact nx
    · rw [bi_1] at hf
      have e0 : cdS N kd own lg (agoS la kd ob) (gM w) (cM p) m t q cc = 0 := by
        cases m <;> simp [cdS, hf]
      rw [e0, Nat.mul_zero] at nx
      exact nx
  have inner : ∀ m t W cc q μ1, t + m = n → cc < 2 ^ 31 → offR 0 μ μ1 → Row μ1 0 t q → W * cdS N kd own lg (agoS la kd ob) (gM w) (cM p) m t q cc = cdS N kd own lg (agoS la kd ob) (gM w) (cM p) n 0 (fun _ => x0, 0, 0, 0) c → wp_X9_weightOf_16 (nI c) x0 (nI n) w (nI p) post (m + 1) (nI cc) (nI W) (nI t) μ1 := by
    intro m
    induction m with
    | zero =>
      intro t W cc q μ1 e hcc ho hB heq
      unfold wp_X9_weightOf_16
      exact ⟨fun _ => k105 0 t W cc q μ1 (by omega) ho hB (Or.inr rfl) heq, fun hc => absurd (nI_le (a := n) (b := t) (by omega) (by omega)) hc⟩
    | succ m ih =>
      intro t W cc q μ1 e hcc ho hB heq
      have hR1 := hR.off ho
      unfold wp_X9_weightOf_16
      refine ⟨fun hc => absurd hc (nI_ge (a := t) (b := n) (by omega) (by omega)), fun _ => ?_⟩
      rw [e_fellM (x := 0) hB hR1.2.2.2.2.2.2.2.2.1 (by decide) (by omega) rfl]
      refine ⟨fun hf => ?_, fun hf => ?_⟩
      · rw [bi_1] at hf
        exact k105 (m + 1) t W cc q μ1 (by omega) ho hB (Or.inl hf) heq
      · rw [bi_0] at hf
        obtain ⟨d1, d2⟩ := dig3 hcc
        rw [d1, d2]
        have hm3 : cc % 3 < 3 := Nat.mod_lt _ (by decide)
        have e0 : nI (cc % 3) = 0 ↔ cc % 3 = 0 := nI_eq (b := 0) (by omega) (by decide)
        have e1 : nI (cc % 3) = 1 ↔ cc % 3 = 1 := nI_eq (b := 1) (by omega) (by decide)
        have e2 : nI (cc % 3) = 2 ↔ cc % 3 = 2 := nI_eq (b := 2) (by omega) (by decide)
        have k95 : ∀ g xs1 : Int32, g = gM w (cc % 3) → xs1 = nI (cM p (cc % 3)) → wp_X9_weightOf_95 (nI c) x0 (nI n) w (nI p) (fun y0 y1 y2 τ => wp_X9_weightOf_16 (nI c) x0 (nI n) w (nI p) post (m + 1) y0 y1 y2 τ) post (nI (cc / 3)) (nI W * xs1) (nI t) 0 1 (μ1 0 0 16) g μ1 := by
          intro g xs1 hg hxs
          unfold wp_X9_weightOf_95
          refine sp_tickM hB hR1 (hT.off ho) (by decide) (by omega) rfl (mi := true) (by decide) (gu := g) (by rw [hR1.2.2.2.2.2.2.2.2.2.1]) (fun μ2 ho2 hB2 => ?_)
          rw [hxs, pk_mul, nI_1]
          refine ih (t + 1) _ (cc / 3) _ μ2 (by omega) (by omega) (ho.trans ho2) hB2 ?_
          rw [← heq]
          rw [cdS, if_neg hf, ← Nat.mul_assoc, hg]
        have k61 : ∀ xs1 : Int32, xs1 = nI (cM p (cc % 3)) → wp_X9_weightOf_61 (nI c) x0 (nI n) w (nI p) (fun y0 y1 y2 τ => wp_X9_weightOf_16 (nI c) x0 (nI n) w (nI p) post (m + 1) y0 y1 y2 τ) post (nI (cc / 3)) (nI t) (nI (cc % 3)) (nI W) xs1 μ1 := by
          intro xs1 hxs
          unfold wp_X9_weightOf_61
          rw [e1, e2]
          refine ⟨fun h1 => ⟨fun h2 => k95 _ _ ?_ hxs, fun h2 => k95 _ _ ?_ hxs⟩, fun h1 => k95 _ _ ?_ hxs⟩
          · simp [gM, h1, h2]
          · simp [gM, h2]
          · simp [gM, h1]
        rw [e0]
        refine ⟨fun h0 => k61 _ ?_, fun h0 => k61 _ ?_⟩
        · simp [cM, h0]
        · rw [rest10 hp]; simp [cM, h0]
  unfold wp_X9_weightOf
  exact sp_startM (by decide) rfl (fun μ1 ho hB => ⟨n + 1, inner n 0 1 c _ μ1 (by omega) hc ho hB (by rw [Nat.one_mul])⟩)
