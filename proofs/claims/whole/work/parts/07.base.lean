/-! BASE: one state function for all cells of a world: (kind, object, place) ↦ number; a world is a list of keys (kind, object) with an address and a cell each -/
abbrev St : Type := Nat → Nat → Nat → Int32
def su (σ : St) (c o k : Nat) (v : Int32) : St := fun c' o' k' => if c' = c ∧ k' = k ∧ o' = o then v else σ c' o' k'
def sr (σ : St) (c o : Nat) (f : Nat → Int32) : St := fun c' o' k' => if c' = c ∧ o' = o then f k' else σ c' o' k'
theorem su_eq {σ : St} {c o k : Nat} {v : Int32} : su σ c o k v c o k = v := by simp [su]
theorem su_nc {σ : St} {c o k c' o' k' : Nat} {v : Int32} (h : Nat.beq c' c = false) : su σ c o k v c' o' k' = σ c' o' k' := by
  have h1 : ¬ c' = c := fun e => by rw [e, Nat.beq_refl] at h; cases h
  simp [su, h1]
theorem su_nk {σ : St} {c o k c' o' k' : Nat} {v : Int32} (h : Nat.beq k' k = false) : su σ c o k v c' o' k' = σ c' o' k' := by
  have h1 : ¬ k' = k := fun e => by rw [e, Nat.beq_refl] at h; cases h
  simp [su, h1]
theorem su_no {σ : St} {c o k c' o' k' : Nat} {v : Int32} (h : Nat.beq o' o = false) : su σ c o k v c' o' k' = σ c' o' k' := by
  have h1 : ¬ o' = o := fun e => by rw [e, Nat.beq_refl] at h; cases h
  simp [su, h1]
theorem su_ne {σ : St} {c o k c' o' : Nat} {v : Int32} (h : ¬ (c' = c ∧ o' = o)) (k' : Nat) : su σ c o k v c' o' k' = σ c' o' k' := by
  unfold su
  rw [if_neg]
  intro e
  exact h ⟨e.1, e.2.2⟩
theorem sr_eq {σ : St} {c o k : Nat} {f : Nat → Int32} : sr σ c o f c o k = f k := by simp [sr]
theorem sr_nc {σ : St} {c o c' o' k' : Nat} {f : Nat → Int32} (h : Nat.beq c' c = false) : sr σ c o f c' o' k' = σ c' o' k' := by
  have h1 : ¬ c' = c := fun e => by rw [e, Nat.beq_refl] at h; cases h
  simp [sr, h1]
theorem sr_no {σ : St} {c o c' o' k' : Nat} {f : Nat → Int32} (h : Nat.beq o' o = false) : sr σ c o f c' o' k' = σ c' o' k' := by
  have h1 : ¬ o' = o := fun e => by rw [e, Nat.beq_refl] at h; cases h
  simp [sr, h1]
theorem sr_ne {σ : St} {c o c' o' : Nat} {f : Nat → Int32} (h : ¬ (c' = c ∧ o' = o)) (k' : Nat) : sr σ c o f c' o' k' = σ c' o' k' := by
  unfold sr
  rw [if_neg h]
theorem su_row {σ : St} {c o k : Nat} {v : Int32} : (fun i => su σ c o k v c o i) = upd (fun i => σ c o i) k v := by
  funext i
  by_cases h : i = k <;> simp [su, upd, h]
theorem sr_row {σ : St} {c o : Nat} {f : Nat → Int32} : (fun i => sr σ c o f c o i) = f := by
  funext i
  simp [sr]
/-! worlds by keys -/
def wz (L : List (Nat × Nat)) (ad : Nat → Nat → Nat) (e : Nat → Nat → va_E) : va_W := L.map (fun q => (ad q.1 q.2, e q.1 q.2))
theorem wz_get {L : List (Nat × Nat)} {ad : Nat → Nat → Nat} {e : Nat → Nat → va_E} {c o : Nat} (h : (c, o) ∈ L) : ∃ k : Nat, (wz L ad e)[k]? = some (ad c o, e c o) := by
  obtain ⟨k, hk⟩ := List.getElem?_of_mem h
  exact ⟨k, by simp [wz, hk]⟩
theorem wz_set {A : Nat → Prop} {L : List (Nat × Nat)} {ad : Nat → Nat → Nat} {e e' : Nat → Nat → va_E} {c o k : Nat} (hD : va_D A (wz L ad e)) (h : (c, o) ∈ L) (hk : (wz L ad e)[k]? = some (ad c o, e c o)) (he : ∀ c' o', ¬ (c' = c ∧ o' = o) → e' c' o' = e c' o') : (wz L ad e).set k (ad c o, e' c o) = wz L ad e' := by
  apply List.ext_getElem?
  intro j
  by_cases hj : j = k
  · subst hj
    rw [List.getElem?_set_self (List.getElem?_eq_some_iff.mp hk).1]
    obtain ⟨k0, hk0⟩ := List.getElem?_of_mem h
    have h0 : (wz L ad e)[k0]? = some (ad c o, e c o) := by simp [wz, hk0]
    have e0 := hD.1 _ _ _ _ hk h0 rfl
    subst e0
    simp [wz, hk0]
  · rw [List.getElem?_set_ne (Ne.symm hj)]
    cases hq : L[j]? with
    | none => simp [wz, hq]
    | some q =>
      have h1 : (wz L ad e)[j]? = some (ad q.1 q.2, e q.1 q.2) := by simp [wz, hq]
      have h2 : (wz L ad e')[j]? = some (ad q.1 q.2, e' q.1 q.2) := by simp [wz, hq]
      rw [h1, h2, he]
      intro z
      exact hj (hD.1 j k _ _ h1 hk (by rw [z.1, z.2]))
theorem wz_D {A : Nat → Prop} {L : List (Nat × Nat)} {ad : Nat → Nat → Nat} {e : Nat → Nat → va_E} (hD : va_D A (wz L ad e)) (e' : Nat → Nat → va_E) : va_D A (wz L ad e') := by
  have key : ∀ (k : Nat) (q : Nat × va_E), (wz L ad e')[k]? = some q → ∃ q0, (wz L ad e)[k]? = some q0 ∧ q0.1 = q.1 := by
    intro k q hk
    cases hq : L[k]? with
    | none => simp [wz, hq] at hk
    | some x =>
      have h1 : (wz L ad e)[k]? = some (ad x.1 x.2, e x.1 x.2) := by simp [wz, hq]
      have h2 : (wz L ad e')[k]? = some (ad x.1 x.2, e' x.1 x.2) := by simp [wz, hq]
      rw [h2] at hk
      cases hk
      exact ⟨_, h1, rfl⟩
  refine ⟨fun i j p q hp hq hpq => ?_, fun k q hk => ?_⟩
  · obtain ⟨p0, a1, a2⟩ := key i p hp
    obtain ⟨q0, b1, b2⟩ := key j q hq
    exact hD.1 i j p0 q0 a1 b1 (by rw [a2, b2, hpq])
  · obtain ⟨q0, b1, b2⟩ := key k q hk
    rw [← b2]
    exact hD.2 k q0 b1
def zJ (L : List (Nat × Nat)) (ad : Nat → Nat → Nat) (A : Nat → Prop) : Prop := va_D A (wz L ad (fun _ _ => .inr (0, [])))
theorem zJ.D {L : List (Nat × Nat)} {ad : Nat → Nat → Nat} {A : Nat → Prop} (h : zJ L ad A) (e : Nat → Nat → va_E) : va_D A (wz L ad e) := wz_D h e
/-- the cells that a world may change -/
def zA (L : List (Nat × Nat)) (ad : Nat → Nat → Nat) : Nat → Prop := fun q => ∃ x ∈ L, q = ad x.1 x.2
def wo (D : va_G) (cl : List vw_C) (L : List (Nat × Nat)) (ad : Nat → Nat → Nat) (H0 H : Heap) (locs : List Loc) (e : Nat → Nat → va_E) : Prop := va_P D cl (wz L ad e) H ∧ va_S (zA L ad) H0 H locs
/-! the tables' words that a contract may carry -/
def GW : List Cond := lw_tbl.filter goodWord
theorem gw_good {w : Cond} (h : w ∈ GW) : (w.onTables && w.keeps) = true ∨ ∃ ty, w = .arrayClass ty := good_of_word (List.mem_filter.mp h).2
theorem gw_of {w : Cond} (h : w ∈ tables_1) (g : goodWord w = true) : w ∈ GW := List.mem_filter.mpr ⟨List.mem_append_right _ h, g⟩
theorem gw_sel {w : Cond} (h : w ∈ k2_sels lw_privs) (g : goodWord w = true) : w ∈ GW := List.mem_filter.mpr ⟨List.mem_append_left _ h, g⟩
theorem gw_GI {big : List Cond} (hb : ∀ w ∈ GW, w ∈ big) : GoodIn big GW := fun w h => ⟨hb w h, gw_good h⟩
section XB
variable {p : Program} {l : Launch} {e : Env} {R : Room} {s : State} {m : MethodId} {args : Array Value} {below : List Frame} {meth : Method} {c : Code} {H : Heap} {locs : List Loc} {Q : State → Prop}
variable {cc : ByteArray} {pc nL : Nat} {ls : Array Slot} {rest : List Value} {D : va_G} {cl : List vw_C} {tys : List (ClassId × FieldType)} {L : List (Nat × Nat)} {ad : Nat → Nat → Nat} {own : String} {f : Nat → Nat → va_E}
theorem x_get (S : CallFix p m c cc nL s args GW own) (hK : va_K D cl tys s) (hw : wo D cl L ad s.heap H locs f) {ck o : Nat} (ho : (ck, o) ∈ L) {ci : Nat} {fs : List Value} (he : f ck o = .inr (ci, fs)) {C : String} {T : u_T} {N : Nat} (hcl : cl[ci]? = some (C, T, N)) (hin : ∀ w ∈ u_ws C T N, w ∈ GW) (k : Nat) (hk : k < N) {index : Nat} {v : Value} (hlink : Cond.fieldLink own index (T k).1 (T k).2.1 (T k).2.2.1 ∈ GW) (hv : fs[k]? = some v) (hdg : decode cc pc = .ok (.getfield index, 3))
    (kk : W p l e R s m args below meth c H locs 0 0 Q (F0 m (pc + 3) ls (v :: rest))) : W p l e R s m args below meth c H locs 0 0 Q (F0 m pc ls (.ref (ad ck o) :: rest)) := by
  obtain ⟨q0, hq⟩ := wz_get (ad := ad) (e := f) ho
  exact va_get S.1 S.2.1 S.2.2.2.2 hin S.2.2.2.1 hK hw.1 q0 (by rw [hq, he]) hcl k hk (S.2.2.2.2 _ hlink) (fun _ h => h) hv hdg kk
theorem x_put (S : CallFix p m c cc nL s args GW own) (hK : va_K D cl tys s) (hJ : zJ L ad (zA L ad)) (hw : wo D cl L ad s.heap H locs f) {ck o : Nat} (ho : (ck, o) ∈ L) {ci : Nat} {fs : List Value} (he : f ck o = .inr (ci, fs)) {C : String} {T : u_T} {N : Nat} (hcl : cl[ci]? = some (C, T, N)) (hin : ∀ w ∈ u_ws C T N, w ∈ GW) (ty0 : Nat → FieldType) (hty : ∀ k, k < N → parseFieldDescriptor (T k).2.2.1 = some (ty0 k)) (hnm : ∀ a, a < N → ∀ b, b < N → a ≠ b → (T a).2.1 ≠ (T b).2.1) (k : Nat) (hk : k < N) {index : Nat} {x : Int32} (hlink : Cond.fieldLink own index (T k).1 (T k).2.1 (T k).2.2.1 ∈ GW) (hfin : (T k).2.2.2 = false) (hd : parseFieldDescriptor (T k).2.2.1 = some .int) (hl : k < fs.length) (hdg : decode cc pc = .ok (.putfield index, 3))
    {f' : Nat → Nat → va_E} (he1 : f' ck o = .inr (ci, fs.set k (.int x))) (he2 : ∀ c' o', ¬ (c' = ck ∧ o' = o) → f' c' o' = f c' o')
    (kk : ∀ (H1 : Heap) (locs1 : List Loc), wo D cl L ad s.heap H1 locs1 f' → W p l e R s m args below meth c H1 locs1 0 0 Q (F0 m (pc + 3) ls rest)) : W p l e R s m args below meth c H locs 0 0 Q (F0 m pc ls (.int x :: .ref (ad ck o) :: rest)) := by
  obtain ⟨q0, hq⟩ := wz_get (ad := ad) (e := f) ho
  refine va_put S.1 S.2.1 S.2.2.2.2 hin ty0 hty hnm S.2.2.2.1 hK hw.1 (hJ.D f) hw.2 q0 (by rw [hq, he]) hcl k hk (S.2.2.2.2 _ hlink) (fun _ h => h) hfin hd rfl rfl hl hdg (fun H1 locs1 hP _ hS => ?_)
  refine kk H1 locs1 ⟨?_, hS⟩
  rw [← he1, wz_set (hJ.D f) ho hq he2] at hP
  exact hP
theorem x_iald (S : CallFix p m c cc nL s args GW own) (hK : va_K D cl tys s) (hw : wo D cl L ad s.heap H locs f) {ck o : Nat} (ho : (ck, o) ∈ L) {cA : ClassId} {n : Nat} {g : Nat → Int32} (he : f ck o = .inl (cA, n, .inl g)) (t0 : Nat) (ht : tys[t0]? = some (cA, .int)) {i : Int32} (hi : vp_in i n) {z : Int32} (hz : g i.toNatClampNeg = z) (hdg : decode cc pc = .ok (.iaload, 1))
    (kk : W p l e R s m args below meth c H locs 0 0 Q (F0 m (pc + 1) ls (.int z :: rest))) : W p l e R s m args below meth c H locs 0 0 Q (F0 m pc ls (.int i :: .ref (ad ck o) :: rest)) := by
  obtain ⟨q0, hq⟩ := wz_get (ad := ad) (e := f) ho
  subst hz
  exact va_iald S.1 S.2.1 hK hw.1 q0 t0 (by rw [hq, he]) ht hi hdg kk
theorem x_zald (S : CallFix p m c cc nL s args GW own) (hK : va_K D cl tys s) (hw : wo D cl L ad s.heap H locs f) {ck o : Nat} (ho : (ck, o) ∈ L) {cA : ClassId} {n : Nat} {g : Nat → Int32} (he : f ck o = .inl (cA, n, .inl g)) (t0 : Nat) (ht : tys[t0]? = some (cA, .boolean)) {i : Int32} (hi : vp_in i n) {z : Int32} (hz : g i.toNatClampNeg = z) (hdg : decode cc pc = .ok (.baload, 1))
    (kk : W p l e R s m args below meth c H locs 0 0 Q (F0 m (pc + 1) ls (.int z :: rest))) : W p l e R s m args below meth c H locs 0 0 Q (F0 m pc ls (.int i :: .ref (ad ck o) :: rest)) := by
  obtain ⟨q0, hq⟩ := wz_get (ad := ad) (e := f) ho
  subst hz
  exact va_zald S.1 S.2.1 hK hw.1 q0 t0 (by rw [hq, he]) ht hi hdg kk
theorem x_aald (S : CallFix p m c cc nL s args GW own) (hK : va_K D cl tys s) (hw : wo D cl L ad s.heap H locs f) {ck o : Nat} (ho : (ck, o) ∈ L) {cA : ClassId} {n : Nat} {g : Nat → Option Nat} (he : f ck o = .inl (cA, n, .inr (.inr (.inr (.inr g))))) (t0 : Nat) {C : String} (ht : tys[t0]? = some (cA, .object C)) {i : Int32} (hi : vp_in i n) {a : Nat} (hz : g i.toNatClampNeg = some a) (hdg : decode cc pc = .ok (.aaload, 1))
    (kk : W p l e R s m args below meth c H locs 0 0 Q (F0 m (pc + 1) ls (.ref a :: rest))) : W p l e R s m args below meth c H locs 0 0 Q (F0 m pc ls (.int i :: .ref (ad ck o) :: rest)) := by
  obtain ⟨q0, hq⟩ := wz_get (ad := ad) (e := f) ho
  refine va_aldq S.1 S.2.1 hK hw.1 q0 t0 (by rw [hq, he]) ht hi hdg ?_
  rw [hz]
  exact kk
theorem x_alen (S : CallFix p m c cc nL s args GW own) (hK : va_K D cl tys s) (hw : wo D cl L ad s.heap H locs f) {ck o : Nat} (ho : (ck, o) ∈ L) {cA : ClassId} {x : vp_A} (he : f ck o = .inl (cA, x)) (t0 : Nat) {ty : FieldType} (ht : tys[t0]? = some (cA, ty)) {v : Int32} (hv : Int32.ofNat x.1 = v) (hdg : decode cc pc = .ok (.arraylength, 1))
    (kk : W p l e R s m args below meth c H locs 0 0 Q (F0 m (pc + 1) ls (.int v :: rest))) : W p l e R s m args below meth c H locs 0 0 Q (F0 m pc ls (.ref (ad ck o) :: rest)) := by
  obtain ⟨q0, hq⟩ := wz_get (ad := ad) (e := f) ho
  exact va_alen S.1 S.2.1 hK hw.1 q0 t0 (by rw [hq, he]) ht hv hdg kk
theorem x_iast (S : CallFix p m c cc nL s args GW own) (hK : va_K D cl tys s) (hJ : zJ L ad (zA L ad)) (hw : wo D cl L ad s.heap H locs f) {ck o : Nat} (ho : (ck, o) ∈ L) {cA : ClassId} {n : Nat} {g : Nat → Int32} (he : f ck o = .inl (cA, n, .inl g)) (t0 : Nat) (ht : tys[t0]? = some (cA, .int)) {i x : Int32} (hi : vp_in i n) (hdg : decode cc pc = .ok (.iastore, 1))
    {f' : Nat → Nat → va_E} (he1 : f' ck o = .inl (cA, n, .inl (upd g i.toNatClampNeg x))) (he2 : ∀ c' o', ¬ (c' = ck ∧ o' = o) → f' c' o' = f c' o')
    (kk : ∀ (H1 : Heap) (locs1 : List Loc), wo D cl L ad s.heap H1 locs1 f' → W p l e R s m args below meth c H1 locs1 0 0 Q (F0 m (pc + 1) ls rest)) : W p l e R s m args below meth c H locs 0 0 Q (F0 m pc ls (.int x :: .int i :: .ref (ad ck o) :: rest)) := by
  obtain ⟨q0, hq⟩ := wz_get (ad := ad) (e := f) ho
  refine va_iast S.1 S.2.1 hK hw.1 (hJ.D f) hw.2 q0 t0 (by rw [hq, he]) ht hi hdg (fun H1 locs1 hP _ hS => ?_)
  refine kk H1 locs1 ⟨?_, hS⟩
  rw [← he1, wz_set (hJ.D f) ho hq he2] at hP
  exact hP
theorem x_zast (S : CallFix p m c cc nL s args GW own) (hK : va_K D cl tys s) (hJ : zJ L ad (zA L ad)) (hw : wo D cl L ad s.heap H locs f) {ck o : Nat} (ho : (ck, o) ∈ L) {cA : ClassId} {n : Nat} {g : Nat → Int32} (he : f ck o = .inl (cA, n, .inl g)) (t0 : Nat) (ht : tys[t0]? = some (cA, .boolean)) {i x : Int32} (hi : vp_in i n) (hdg : decode cc pc = .ok (.bastore, 1))
    {f' : Nat → Nat → va_E} (he1 : f' ck o = .inl (cA, n, .inl (upd g i.toNatClampNeg (vp_nar .boolean x)))) (he2 : ∀ c' o', ¬ (c' = ck ∧ o' = o) → f' c' o' = f c' o')
    (kk : ∀ (H1 : Heap) (locs1 : List Loc), wo D cl L ad s.heap H1 locs1 f' → W p l e R s m args below meth c H1 locs1 0 0 Q (F0 m (pc + 1) ls rest)) : W p l e R s m args below meth c H locs 0 0 Q (F0 m pc ls (.int x :: .int i :: .ref (ad ck o) :: rest)) := by
  obtain ⟨q0, hq⟩ := wz_get (ad := ad) (e := f) ho
  refine va_zast S.1 S.2.1 hK hw.1 (hJ.D f) hw.2 q0 t0 (by rw [hq, he]) ht hi hdg (fun H1 locs1 hP _ hS => ?_)
  refine kk H1 locs1 ⟨?_, hS⟩
  rw [← he1, wz_set (hJ.D f) ho hq he2] at hP
  exact hP
theorem x_copy (S : CallFix p m c cc nL s args GW own) (hK : va_K D cl tys s) (hJ : zJ L ad (zA L ad)) (hw : wo D cl L ad s.heap H locs f) (hsz : ls.size = nL) {index : Nat} (hlink : Cond.methodLink own index arraycopyName ∈ GW) (hnat : Cond.native arraycopyName ∈ GW) (hstat : Cond.static arraycopyName ∈ GW) (hini : Cond.initialized "java/lang/System" ∈ GW) {c0 o0 c1 o1 : Nat} (ho0 : (c0, o0) ∈ L) (ho1 : (c1, o1) ∈ L) {cA : ClassId} {n0 n1 : Nat} {g0 g1 : Nat → Int32} (he0 : f c0 o0 = .inl (cA, n0, .inl g0)) (he1 : f c1 o1 = .inl (cA, n1, .inl g1)) (t0 : Nat) (ht : tys[t0]? = some (cA, .int)) {sp dp n : Int32} (h1 : ¬ sp < 0) (h2 : ¬ dp < 0) (h3 : ¬ n < 0) (h4 : sp.toNatClampNeg + n.toNatClampNeg ≤ n0) (h5 : dp.toNatClampNeg + n.toNatClampNeg ≤ n1) (hfr : 1 ≤ R.frames) (hlo : (rest.map fun v => v.category).sum + (nativeFrameWords "java/lang/System" "arraycopy" 5 + 11) ≤ R.locals) (hdg : decode cc pc = .ok (.invokestatic index, 3))
    {f' : Nat → Nat → va_E} (hf1 : f' c1 o1 = .inl (cA, n1, .inl (va_cpy g0 g1 sp.toNatClampNeg dp.toNatClampNeg n.toNatClampNeg))) (hf2 : ∀ c' o', ¬ (c' = c1 ∧ o' = o1) → f' c' o' = f c' o')
    (kk : ∀ (H1 : Heap) (locs1 : List Loc), wo D cl L ad s.heap H1 locs1 f' → W p l e R s m args below meth c H1 locs1 0 0 Q (F0 m (pc + 3) ls rest)) : W p l e R s m args below meth c H locs 0 0 Q (F0 m pc ls (.int n :: .int dp :: .ref (ad c1 o1) :: .int sp :: .ref (ad c0 o0) :: rest)) := by
  obtain ⟨q0, hq0⟩ := wz_get (ad := ad) (e := f) ho0
  obtain ⟨q1, hq1⟩ := wz_get (ad := ad) (e := f) ho1
  refine va_copyi S.1 S.2.1 (by rw [S.2.2.1, hsz]) S.2.2.2.1 (S.2.2.2.2 _ hlink) (S.2.2.2.2 _ hnat) (S.2.2.2.2 _ hstat) (S.2.2.2.2 _ hini) hK hw.1 (hJ.D f) hw.2 q0 q1 t0 t0 (by rw [hq0, he0]) (by rw [hq1, he1]) ht ht rfl h1 h2 h3 h4 h5 (fun _ _ => rfl) hfr hlo hdg (fun H1 locs1 hP _ hS => ?_)
  refine kk H1 locs1 ⟨?_, hS⟩
  rw [← hf1, wz_set (hJ.D f) ho1 hq1 hf2] at hP
  exact hP
theorem x_max (S : CallFix p m c cc nL s args GW own) (hsz : ls.size = nL) {index : Nat} (hlink : Cond.methodLink own index Lib.Math.max.name ∈ GW) (hstat : Cond.static Lib.Math.max.name ∈ GW) (hini : Cond.initialized "java/lang/Math" ∈ GW) (hcode : Cond.code Lib.Math.max.name Lib.Math.max.code 2 (some .int) ∈ GW) (hfr : 1 ≤ R.frames) (hlo : (rest.map fun v => v.category).sum + 13 ≤ R.locals) {x y : Int32} (hdg : decode cc pc = .ok (.invokestatic index, 3))
    (kk : W p l e R s m args below meth c H locs 0 0 Q (F0 m (pc + 3) ls (.int (if x < y then y else x) :: rest))) : W p l e R s m args below meth c H locs 0 0 Q (F0 m pc ls (.int y :: .int x :: rest)) :=
  va_mmax S.1 S.2.1 (by rw [S.2.2.1, hsz]) S.2.2.2.1 (S.2.2.2.2 _ hlink) (S.2.2.2.2 _ hstat) (S.2.2.2.2 _ hini) (S.2.2.2.2 _ hcode) hfr hlo (Nat.zero_le _) (Nat.zero_le _) hdg kk
theorem x_min (S : CallFix p m c cc nL s args GW own) (hsz : ls.size = nL) {index : Nat} (hlink : Cond.methodLink own index Lib.Math.min.name ∈ GW) (hstat : Cond.static Lib.Math.min.name ∈ GW) (hini : Cond.initialized "java/lang/Math" ∈ GW) (hcode : Cond.code Lib.Math.min.name Lib.Math.min.code 2 (some .int) ∈ GW) (hfr : 1 ≤ R.frames) (hlo : (rest.map fun v => v.category).sum + 13 ≤ R.locals) {x y : Int32} (hdg : decode cc pc = .ok (.invokestatic index, 3))
    (kk : W p l e R s m args below meth c H locs 0 0 Q (F0 m (pc + 3) ls (.int (if y < x then y else x) :: rest))) : W p l e R s m args below meth c H locs 0 0 Q (F0 m pc ls (.int y :: .int x :: rest)) :=
  va_mmin S.1 S.2.1 (by rw [S.2.2.1, hsz]) S.2.2.2.1 (S.2.2.2.2 _ hlink) (S.2.2.2.2 _ hstat) (S.2.2.2.2 _ hini) (S.2.2.2.2 _ hcode) hfr hlo (Nat.zero_le _) (Nat.zero_le _) hdg kk
theorem x_abs (S : CallFix p m c cc nL s args GW own) (hsz : ls.size = nL) {index : Nat} (hlink : Cond.methodLink own index Lib.Math.abs.name ∈ GW) (hstat : Cond.static Lib.Math.abs.name ∈ GW) (hini : Cond.initialized "java/lang/Math" ∈ GW) (hcode : Cond.code Lib.Math.abs.name Lib.Math.abs.code 1 (some .int) ∈ GW) (hfr : 1 ≤ R.frames) (hlo : (rest.map fun v => v.category).sum + 13 ≤ R.locals) {x : Int32} (hdg : decode cc pc = .ok (.invokestatic index, 3))
    (kk : W p l e R s m args below meth c H locs 0 0 Q (F0 m (pc + 3) ls (.int (if 0 ≤ x then x else 0 - x) :: rest))) : W p l e R s m args below meth c H locs 0 0 Q (F0 m pc ls (.int x :: rest)) :=
  va_mabs S.1 S.2.1 (by rw [S.2.2.1, hsz]) S.2.2.2.1 (S.2.2.2.2 _ hlink) (S.2.2.2.2 _ hstat) (S.2.2.2.2 _ hini) (S.2.2.2.2 _ hcode) hfr hlo (Nat.zero_le _) (Nat.zero_le _) hdg kk
end XB
