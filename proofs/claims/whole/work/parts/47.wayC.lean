/-! WAY: the class's walk -/
theorem su_nk' {σ : St} {c o k c' o' k' : Nat} {v : Int32} (h : ¬ k' = k) : su σ c o k v c' o' k' = σ c' o' k' := by
  unfold su
  rw [if_neg (fun z => h z.2.1)]
def opI (dr : Nat → Nat) (L : Nat → Int32) (most tall : Int32) (c : Nat) : Bool := decide (¬ most < nI (dr c) ∧ (L c = 0 ∨ tall < L c))
theorem opI_iff {dr : Nat → Nat} {L : Nat → Int32} {most tall : Int32} {c : Nat} : opI dr L most tall c = true ↔ ¬ most < nI (dr c) ∧ (L c = 0 ∨ tall < L c) := decide_eq_true_iff
def HsC (σ : St) (dr : Nat → Nat) (L : Nat → Int32) : Prop := ∀ c, c < 36 → σ 23 0 c = nI (dr c) ∧ σ 24 0 c = L c ∧ dr c ≤ 99
def o1 (o : Option (Nat × Nat)) : Int32 := match o with
  | none => -1
  | some p => nI p.1
def o2 (o : Option (Nat × Nat)) : Int32 := match o with
  | none => -1
  | some p => nI p.2
def HoE (σ : St) (E : Ent) (Q : Nat → Nat) (kn : Nat) : Prop := (∀ c, c < 36 → σ 25 0 c = o1 (E c) ∧ σ 26 0 c = o2 (E c)) ∧ (∀ a, a < kn → σ 27 0 a = nI (Q a)) ∧ σ 22 0 5 = nI kn
def offW (σ σ' : St) : Prop := ∀ c o k, ¬ ((c = 22 ∧ k = 5) ∨ c = 25 ∨ c = 26 ∨ c = 27) → σ' c o k = σ c o k
theorem offW.rf {a : St} : offW a a := fun _ _ _ _ => rfl
theorem offW.trans {a b c : St} (h1 : offW a b) (h2 : offW b c) : offW a c := fun x y z h => (h2 x y z h).trans (h1 x y z h)
theorem HsC.off {σ σ' : St} {dr : Nat → Nat} {L : Nat → Int32} (h : HsC σ dr L) (ho : offW σ σ') : HsC σ' dr L := by
  intro c hc
  rw [ho 23 0 c (by omega), ho 24 0 c (by omega)]
  exact h c hc
theorem sp_isOpenC {σ : St} {dr : Nat → Nat} {L : Nat → Int32} {most tall x : Int32} {c : Nat} {post : Int32 → St → Prop} (hH : HsC σ dr L) (hc : c < 36) (hx : x = nI c) (h : post (bi (opI dr L most tall c = true)) σ) : wp_X3_isOpen x most tall post σ := by
  subst hx
  obtain ⟨a1, a2, a3⟩ := hH c hc
  have hv : vp_in (nI c) 36 := pk_in c 36 hc
  unfold wp_X3_isOpen wp_X3_isOpen_23 wp_X3_isOpen_24 wp_X3_isOpen_45 wp_X3_isOpen_46
  rw [nI_clamp (by omega), a1, a2]
  by_cases h1 : most < nI (dr c)
  · have hb : bi (opI dr L most tall c = true) = 0 := bi_f (fun z => (opI_iff.mp z).1 h1)
    rw [hb] at h
    have g : ∀ xs0 : Int32, vp_in (nI c) 36 ∧ ((most < nI (dr c) → narrow .boolean (.int 0) = .int 0 ∧ post 0 σ) ∧ (¬ most < nI (dr c) → (¬ xs0 = 0 → narrow .boolean (.int 0) = .int 0 ∧ post 0 σ) ∧ (xs0 = 0 → narrow .boolean (.int 1) = .int 1 ∧ post 1 σ))) := fun xs0 => ⟨hv, fun _ => ⟨bool0, h⟩, fun z => absurd h1 z⟩
    exact ⟨hv, fun _ => g 0, fun _ => ⟨hv, fun _ => g 0, fun _ => g 1⟩⟩
  · by_cases h2 : L c = 0
    · have hb : bi (opI dr L most tall c = true) = 1 := bi_t (opI_iff.mpr ⟨h1, Or.inl h2⟩)
      rw [hb] at h
      refine ⟨hv, fun _ => ⟨hv, fun z => absurd z h1, fun _ => ⟨fun z => absurd rfl z, fun _ => ⟨bool1, h⟩⟩⟩, fun z => absurd h2 z⟩
    · by_cases h3 : tall < L c
      · have hb : bi (opI dr L most tall c = true) = 1 := bi_t (opI_iff.mpr ⟨h1, Or.inr h3⟩)
        rw [hb] at h
        refine ⟨hv, fun z => absurd z h2, fun _ => ⟨hv, fun _ => ⟨hv, fun z => absurd z h1, fun _ => ⟨fun z => absurd rfl z, fun _ => ⟨bool1, h⟩⟩⟩, fun z => absurd h3 z⟩⟩
      · have hb : bi (opI dr L most tall c = true) = 0 := bi_f (fun z => by rcases (opI_iff.mp z).2 with y | y; exact h2 y; exact h3 y)
        rw [hb] at h
        refine ⟨hv, fun z => absurd z h2, fun _ => ⟨hv, fun z => absurd z h3, fun _ => ⟨hv, fun z => absurd z h1, fun _ => ⟨fun _ => ⟨bool0, h⟩, fun z => absurd z (by decide)⟩⟩⟩⟩
def nbI (o : Option Nat) : Int32 := match o with
  | none => -1
  | some d => nI d
theorem sp_besideC {σ : St} {c t : Nat} {x0 x1 : Int32} {post : Int32 → St → Prop} (hc : c < 36) (ht : t < 4) (h0 : x0 = nI c) (h1 : x1 = nI t) (h : post (nbI (nbS c t)) σ) : wp_X3_beside x0 x1 post σ := by
  subst h0; subst h1
  unfold wp_X3_beside wp_X3_beside_46 wp_X3_beside_58 wp_X3_beside_71 wp_X3_beside_86
  have er : nI c - nI c / 6 * 6 = nI (c % 6) := pk_rem (d := 6) (by omega) (by decide) (by decide)
  rw [er]
  have t0 : nI t = 0 ↔ t = 0 := nI_eq (b := 0) (by omega) (by decide)
  have t1 : nI t = 1 ↔ t = 1 := nI_eq (b := 1) (by omega) (by decide)
  have t2 : nI t = 2 ↔ t = 2 := nI_eq (b := 2) (by omega) (by decide)
  rw [t0, t1, t2]
  have c6 : nI c < 6 ↔ c < 6 := by
    rw [fa_lt, nI_toInt (by omega), show (6 : Int32).toInt = 6 from rfl]
    omega
  have c0 : nI (c % 6) ≤ 0 ↔ c % 6 ≤ 0 := nI_leI (b := 0) (by omega) (by decide)
  have c5 : 5 ≤ nI (c % 6) ↔ 5 ≤ c % 6 := nI_leI (a := 5) (by decide) (by omega)
  have c30 : 30 ≤ nI c ↔ 30 ≤ c := nI_leI (a := 30) (by decide) (by omega)
  rw [c6, c0, c5, c30]
  unfold nbS at h
  refine ⟨fun z => ?_, fun z => ⟨fun y => ?_, fun y => ⟨fun w => ?_, fun w => ?_⟩⟩⟩
  · rw [if_pos z] at h
    refine ⟨fun q => ?_, fun q => ?_⟩
    · rw [if_pos q] at h; exact h
    · rw [if_neg q] at h
      rw [show nI c - 6 = nI (c - 6) from nI_sub_pos (b := 6) (by omega)]
      exact h
  · rw [if_neg z, if_pos y] at h
    refine ⟨fun q => ?_, fun q => ?_⟩
    · rw [if_pos (by omega)] at h; exact h
    · rw [if_neg (by omega)] at h
      rw [show nI c - 1 = nI (c - 1) from nI_sub_pos (b := 1) (by omega)]
      exact h
  · rw [if_neg z, if_neg y, if_pos w] at h
    refine ⟨fun q => ?_, fun q => ?_⟩
    · rw [if_pos q] at h; exact h
    · rw [if_neg q] at h
      rw [nI_1]
      exact h
  · rw [if_neg z, if_neg y, if_neg w] at h
    refine ⟨fun q => ?_, fun q => ?_⟩
    · rw [if_pos q] at h; exact h
    · rw [if_neg q] at h
      rw [show nI c + 6 = nI (c + 6) from nI_add c 6]
      exact h
theorem sp_enterC {σ : St} {dr : Nat → Nat} {L : Nat → Int32} {E : Ent} {Q : Nat → Nat} {kn d k m : Nat} {x1 x2 x3 : Int32} {post : St → Prop} (hH : HsC σ dr L) (hE : HoE σ E Q kn) (hd : d < 36) (hk : k < 2 ^ 20) (hm : m < 2 ^ 20) (hb : ∀ p, E d = some p → p.1 < 2 ^ 20 ∧ p.2 < 2 ^ 20) (hkn : kn ≤ 36) (hnew : E d = none → kn < 36) (h1 : x1 = nI d) (h2 : x2 = nI k) (h3 : x3 = nI m) (h : ∀ σ', offW σ σ' → HoE σ' (enE E d k (m + dr d)) (enQ E Q d kn) (enK E d kn) → post σ') : wp_X3_enter x1 x2 x3 post σ := by
  subst h1; subst h2; subst h3
  obtain ⟨a1, a2, a3⟩ := hH d hd
  obtain ⟨e1, e2, e3⟩ := hE
  obtain ⟨e4, e5⟩ := e1 d hd
  have hv : vp_in (nI d) 36 := pk_in d 36 hd
  unfold wp_X3_enter wp_X3_enter_67 wp_X3_enter_94
  rw [nI_clamp (by omega), a1, e3, e4, e5, nI_add]
  refine ⟨hv, hv, ?_⟩
  cases hEd : E d with
  | none =>
    have hlt := hnew hEd
    refine ⟨fun z => absurd rfl z, fun _ => ⟨fun z => absurd z (nI_ge (a := kn) (b := 36) hlt (by decide)), fun _ => ⟨hv, hv, pk_in kn 36 hlt, ?_⟩⟩⟩
    rw [nI_clamp (by omega), nI_1]
    apply h
    · intro c o k' hc
      unfold su
      rw [if_neg (by omega), if_neg (by omega), if_neg (by omega), if_neg (by omega)]
    · have eK : enK E d kn = kn + 1 := by unfold enK; rw [hEd]; rfl
      rw [eK]
      refine ⟨fun c hc => ?_, fun a ha => ?_, su_eq⟩
      · refine ⟨(su_nc rfl).trans ((su_nc rfl).trans ((su_nc rfl).trans ?_)), (su_nc rfl).trans ((su_nc rfl).trans ?_)⟩
        · unfold enE
          by_cases e : c = d
          · rw [if_pos e, e, su_eq, hEd]
            rfl
          · rw [if_neg e, su_nk' e]
            exact (e1 c hc).1
        · unfold enE
          by_cases e : c = d
          · rw [if_pos e, e, su_eq, hEd]
            rfl
          · rw [if_neg e, su_nk' e, su_nk' e]
            exact (e1 c hc).2
      · rw [su_nc rfl]
        unfold enQ
        rw [hEd]
        by_cases e : a = kn
        · rw [e, su_eq]
          exact congrArg nI (if_pos rfl).symm
        · rw [su_nk' e, su_nc rfl, su_nc rfl]
          simp only [Option.isSome_none, Bool.false_eq_true, if_false, if_neg e]
          exact e2 a (by omega)
  | some p =>
    have hp := hb p hEd
    have hpm : ¬ o1 (some p) = -1 := nI_m1 (by omega)
    have hpk : o1 (some p) = nI k ↔ p.1 = k := nI_eq (by omega) (by omega)
    refine ⟨fun _ => ⟨hv, ?_⟩, fun z => absurd z hpm⟩
    rw [hpk]
    have eK : enK E d kn = kn := by unfold enK; rw [hEd]; rfl
    have eQ : enQ E Q d kn = Q := by unfold enQ; rw [hEd]; rfl
    rw [eK, eQ] at h
    refine ⟨fun z => ?_, fun z => ⟨hv, hv, ?_⟩⟩
    · have eE : enE E d k (m + dr d) = E := by
        funext c
        unfold enE
        by_cases e : c = d
        · rw [if_pos e, hEd, e, hEd]
          dsimp only
          rw [if_neg z]
        · rw [if_neg e]
      rw [eE] at h
      exact h σ offW.rf ⟨e1, e2, e3⟩
    · apply h
      · intro c o k' hc
        unfold su
        rw [if_neg (by omega)]
      · refine ⟨fun c hc => ?_, fun a ha => ?_, ?_⟩
        · rw [su_nc rfl]
          unfold enE
          by_cases e : c = d
          · rw [if_pos e, e, su_eq, hEd]
            dsimp only
            rw [if_pos z]
            refine ⟨?_, ?_⟩
            · rw [e4, hEd]
              exact congrArg nI z
            · have el : nI (m + dr d) < o2 (some p) ↔ m + dr d < p.2 := by
                show nI (m + dr d) < nI p.2 ↔ _
                rw [fa_lt, nI_toInt (by omega), nI_toInt (by omega)]
                omega
              by_cases w : m + dr d < p.2
              · rw [if_pos (el.mpr w), if_pos w]; rfl
              · rw [if_neg (fun q => w (el.mp q)), if_neg w]; rfl
          · rw [if_neg e, su_nk' e]
            exact e1 c hc
        · rw [su_nc rfl]; exact e2 a ha
        · rw [su_nc rfl]; exact e3
