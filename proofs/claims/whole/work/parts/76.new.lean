/-! CONSTRUCTORS: worlds that grow; an object stands first, what it makes behind it -/
def tFirst : List Int32 := [10, 20, 1, 20, 0, 200, 20, 100, 0, 0]
def EvI (D : va_G) (q : ClassId × ClassId × ClassId × ClassId) (tF : Nat) (A : Nat → Prop) (U : State) : Prop :=
  va_K D clA (tyA q) U ∧ (∀ x ∈ nmC, va_Nw (.methodLinkNest x.1 x.2.1 x.2.2.1 x.2.2.2) U) ∧ (∀ x ∈ nfC, va_Nw (.fieldLinkNest x.1 x.2.1 x.2.2.1 x.2.2.2.1 x.2.2.2.2.1 x.2.2.2.2.2) U) ∧ (va_AO "OnChin$Thing" U ∧ va_AO "OnChin$Balance" U) ∧ va_Z "OnChin" "AT_FIRST" "[I" (.ref tF) A U U.heap ∧ va_X tF 10 (fun j => tFirst.getD j 0) U U.heap ∧ tF < U.heap.size ∧ ¬ A tF
theorem EvI.calling {D : va_G} {q : ClassId × ClassId × ClassId × ClassId} {tF : Nat} {A : Nat → Prop} {U : State} (h : EvI D q tF A U) (g : JFrame) (mk : MethodId) (a : Array Value) : EvI D q tF A (U.calling g mk a) := by
  obtain ⟨h1, h2, h3, ⟨h4, h5⟩, h6, h7, h8, h9⟩ := h
  have hA := Vm.Alike.refl U.vm
  exact ⟨va_K.moved (u := U) (U := U.calling g mk a) hA h1, fun x hx => va_Nw.same rfl (u := U) (U := U.calling g mk a) rfl (h2 x hx), fun x hx => va_Nw.same rfl (u := U) (U := U.calling g mk a) rfl (h3 x hx), ⟨va_AO.moved (u := U) (U := U.calling g mk a) hA h4, va_AO.moved (u := U) (U := U.calling g mk a) hA h5⟩, va_Z.moved (u := U) (U := U.calling g mk a) hA h6, va_X.moved (u := U) (U := U.calling g mk a) hA h7, h8, h9⟩
theorem EvI.at {D : va_G} {q : ClassId × ClassId × ClassId × ClassId} {tF : Nat} {A A' : Nat → Prop} {s U : State} {H : Heap} {locs : List Loc} (h : EvI D q tF A s) (hS : va_S A s.heap H locs) (hAA : ∀ q, A' q → A q) (hU : U.heap = H) (hW : s.WarmedH U.vm) : EvI D q tF A' U := by
  obtain ⟨h1, h2, h3, ⟨h4, h5⟩, h6, ⟨scr, g1, g2⟩, h8, h9⟩ := h
  have hA := hW.alike
  have hq : ∀ a : Nat, a < s.heap.size → ¬ A a → U.heap[a]? = s.heap[a]? := fun a x y => by rw [hU]; exact hS.2.1 a x y
  exact ⟨va_K.moved hA h1, fun x hx => va_Nw.warmM hW (h2 x hx), fun x hx => va_Nw.warmF hW (h3 x hx), ⟨va_AO.moved hA h4, va_AO.moved hA h5⟩, va_Z.moved hA ((h6.kept hq).narrow hAA), va_X.moved hA ⟨scr, by rw [hq tF h8 h9]; exact g1, g2⟩, by rw [hU]; exact Nat.lt_of_lt_of_le h8 hS.1, fun z => h9 (hAA tF z)⟩
abbrev wn (D : va_G) (A : Nat → Prop) (s : State) (H : Heap) (locs : List Loc) (ws : va_W) : Prop := va_P D clA ws H ∧ va_D A ws ∧ va_S A s.heap H locs
/-- what a constructor gives: from a blank object h its world w h u -/
def CI (l : Launch) (D : va_G) (q : ClassId × ClassId × ClassId × ClassId) (tF : Nat) (y : MethodName) (cc : ByteArray) (nL : Nat) (rm : Room) (ci : Nat) (dfs : List Value) (w : Nat → (Nat → Nat) → va_W) (mc ms : Nat) : Prop :=
  ∀ h sz : Nat, Met l y (Cond.code y cc nL none :: GW) rm (va_Pc [.ref h] (fun U => U.heap.size = sz ∧ va_P D clA [(h, .inr (ci, dfs))] U.heap ∧ va_D (fun _ => True) [(h, .inr (ci, dfs))] ∧ EvI D q tF (va_A [(h, .inr (ci, dfs))] sz) U)) (va_Qv (fun _ : Nat → Nat => True) (fun u t => va_P D clA (w h u) t.heap ∧ va_D (va_A [(h, .inr (ci, dfs))] sz) (w h u)) (va_A [(h, .inr (ci, dfs))] sz)) mc ms (va_A [(h, .inr (ci, dfs))] sz)
section XN
variable {p : Program} {l : Launch} {e : Env} {R : Room} {s : State} {m : MethodId} {args : Array Value} {below : List Frame} {meth : Method} {c : Code} {H : Heap} {locs : List Loc} {Q : State → Prop} {cells slots : Nat}
variable {cc bytes : ByteArray} {pc nL maxL index : Nat} {ls : Array Slot} {rest : List Value} {D : va_G} {A : Nat → Prop} {own : String} {q : ClassId × ClassId × ClassId × ClassId} {tF : Nat} {ws : va_W} {a : Nat}
theorem CI.start {y : MethodName} {rm : Room} {ci : Nat} {dfs : List Value} {w : Nat → (Nat → Nat) → va_W} {mc ms : Nat} (hy : plainName y.cls = true) (hle : (lg_sl [.ref 0]).length ≤ nL) (body : ∀ (p : Program) (e : Env) (s : State) (m : MethodId) (below : List Frame) (meth : Method) (c : Code) (h : Nat) (A : Nat → Prop), CallFix p m c cc nL s #[.ref h] GW y.cls → EvI D q tF A s → meth.sig.returnType = none → meth.locks = false → (y.name = "<init>" → meth.name = "<init>") → (∀ q, s.heap.size ≤ q → A q) → wn D A s s.heap [] [(h, .inr (ci, dfs))] → ∀ ls : Array Slot, lv_has ls nL [(0, .ref h)] → W p l e rm s m #[.ref h] below meth c s.heap [] 0 0 (MQ below (va_Qv (fun _ : Nat → Nat => True) (fun u t => va_P D clA (w h u) t.heap ∧ va_D A (w h u)) A) #[.ref h] s mc ms A) (F0 m 0 ls [])) : CI l D q tF y cc nL rm ci dfs w mc ms := by
  intro h sz
  refine Met.ofW (cc := cc) (maxL := nL) (ret := none) hy rfl ?_
  intro p e s m args below meth c s₁ B hml hv
  obtain ⟨rfl, hsz, hP, hD0, V⟩ := hv
  have hts := atoms_spec (ws := Cond.code y cc nL none :: GW) B.pre
  have hown : s.vm.findClass y.cls = some m.cls := findClass_of_methodNamed B.named
  have hin : y.name = "<init>" → meth.name = "<init>" := fun z => by
    rw [(name_of_methodNamed B.named B.method).1]
    exact z
  subst hsz
  have hD := hD0.self (sz := s.heap.size)
  have hl := lv_entry [.ref h] (n := nL) hle
  rw [lg_entry_eq]
  generalize (lg_sl [.ref h] ++ List.replicate (nL - (lg_sl [.ref h]).length) Slot.unset).toArray = ls at hl ⊢
  exact body p e s m below meth c h _ ⟨B.exec, B.bytes, hml, hown, fun w h => hts w (List.mem_cons_of_mem _ h)⟩ V B.returns B.notSynchronized hin (fun q h => Or.inr h) ⟨hP, hD, va_S.rf⟩ ls hl
theorem y_obj (S : CallFix p m c cc nL s args GW own) (hsz : ls.size = nL) (hlink : Cond.methodLink own index objectInit ∈ GW) (hinst : Cond.instanceMethod objectInit ∈ GW) (hcode : Cond.code objectInit ⟨#[0xb1]⟩ 1 none ∈ GW) (hfr : 1 ≤ R.frames) (hlo : 12 ≤ R.locals) (hdg : decode cc pc = .ok (.invokespecial index, 3))
    (kk : W p l e R s m args below meth c H locs cells slots Q (F0 m (pc + 3) ls [])) : W p l e R s m args below meth c H locs cells slots Q (F0 m pc ls [.ref a]) := by
  refine W.objInit S.1 S.2.1 S.2.2.2.1 (gw_S S _ hlink) (gw_S S _ hinst) (gw_S S _ hcode) rfl (by rw [S.2.2.1]; exact hsz) rfl hdg hfr (by show 2 * 0 + _ + 12 ≤ _; simpa using hlo) ?_
  exact W.eq (g2 := F0 m (pc + 3) ls []) rfl kk
theorem y_puti (S : CallFix p m c cc nL s args GW own) (V : EvI D q tF A s) {ci : Nat} {fs fs' : List Value} (hw : wn D A s H locs ((a, .inr (ci, fs)) :: ws)) {C : String} {T : u_T} {N : Nat} (hc : clA[ci]? = some (C, T, N)) (hin : ∀ w ∈ u_ws C T N, w ∈ GW) (ty0 : Nat → FieldType) (hty : ∀ k, k < N → parseFieldDescriptor (T k).2.2.1 = some (ty0 k)) (hnm : ∀ a, a < N → ∀ b, b < N → a ≠ b → (T a).2.1 ≠ (T b).2.1) (k : Nat) (hk : k < N) (hlink : Cond.fieldLink own index (T k).1 (T k).2.1 (T k).2.2.1 ∈ GW) (hfin : (T k).2.2.2 = false) {x : Int32} (hd : parseFieldDescriptor (T k).2.2.1 = some .int) (hl : k < fs.length) (hdg : decode cc pc = .ok (.putfield index, 3)) (hfs : fs.set k (.int x) = fs')
    (kk : ∀ (H1 : Heap) (locs1 : List Loc), wn D A s H1 locs1 ((a, .inr (ci, fs')) :: ws) → W p l e R s m args below meth c H1 locs1 cells slots Q (F0 m (pc + 3) ls rest)) : W p l e R s m args below meth c H locs cells slots Q (F0 m pc ls (.int x :: .ref a :: rest)) := by
  subst hfs
  exact va_put S.1 S.2.1 S.2.2.2.2 hin ty0 hty hnm S.2.2.2.1 V.1 hw.1 hw.2.1 hw.2.2 0 rfl hc k hk (S.2.2.2.2 _ hlink) (fun _ h => h) hfin hd rfl rfl hl hdg (fun H1 locs1 hP hD hS => kk H1 locs1 ⟨hP, hD, hS⟩)
theorem y_putF (S : CallFix p m c cc nL s args GW own) (V : EvI D q tF A s) (hin2 : meth.name = "<init>") {ci : Nat} {fs fs' : List Value} (hw : wn D A s H locs ((a, .inr (ci, fs)) :: ws)) {C : String} {T : u_T} {N : Nat} (hc : clA[ci]? = some (C, T, N)) (hin : ∀ w ∈ u_ws C T N, w ∈ GW) (ty0 : Nat → FieldType) (hty : ∀ k, k < N → parseFieldDescriptor (T k).2.2.1 = some (ty0 k)) (hnm : ∀ a, a < N → ∀ b, b < N → a ≠ b → (T a).2.1 ≠ (T b).2.1) (k : Nat) (hk : k < N) (hlink : Cond.fieldLink own index (T k).1 (T k).2.1 (T k).2.2.1 ∈ GW) (hfin : (T k).2.2.2 = true) (hdecl : (T k).1 = own) {ty : FieldType} {x : Nat} (hd : parseFieldDescriptor (T k).2.2.1 = some ty) (hn : narrow ty (.ref x) = .ref x) (hfit : fits ty (.ref x) = true) (hl : k < fs.length) (hdg : decode cc pc = .ok (.putfield index, 3)) (hfs : fs.set k (.ref x) = fs')
    (kk : ∀ (H1 : Heap) (locs1 : List Loc), wn D A s H1 locs1 ((a, .inr (ci, fs')) :: ws) → W p l e R s m args below meth c H1 locs1 cells slots Q (F0 m (pc + 3) ls rest)) : W p l e R s m args below meth c H locs cells slots Q (F0 m pc ls (.ref x :: .ref a :: rest)) := by
  subst hfs
  exact va_putF S.1 S.2.1 S.2.2.2.2 hin ty0 hty hnm S.2.2.2.1 V.1 hw.1 hw.2.1 hw.2.2 0 rfl hc k hk (S.2.2.2.2 _ hlink) (fun _ h => h) hfin hin2 hdecl hd hn hfit hl hdg (fun H1 locs1 hP hD hS => kk H1 locs1 ⟨hP, hD, hS⟩)
theorem y_get (S : CallFix p m c cc nL s args GW own) (V : EvI D q tF A s) {ci : Nat} {fs : List Value} (hw : wn D A s H locs ((a, .inr (ci, fs)) :: ws)) {C : String} {T : u_T} {N : Nat} (hc : clA[ci]? = some (C, T, N)) (hin : ∀ w ∈ u_ws C T N, w ∈ GW) (k : Nat) (hk : k < N) (hlink : Cond.fieldLink own index (T k).1 (T k).2.1 (T k).2.2.1 ∈ GW) {v : Value} (hv : fs[k]? = some v) (hdg : decode cc pc = .ok (.getfield index, 3))
    (kk : W p l e R s m args below meth c H locs cells slots Q (F0 m (pc + 3) ls (v :: rest))) : W p l e R s m args below meth c H locs cells slots Q (F0 m pc ls (.ref a :: rest)) :=
  va_get S.1 S.2.1 S.2.2.2.2 hin S.2.2.2.1 V.1 hw.1 0 rfl hc k hk (S.2.2.2.2 _ hlink) (fun _ h => h) hv hdg kk
theorem y_newa (S : CallFix p m c cc nL s args GW own) (V : EvI D q tF A s) (hA : ∀ q, s.heap.size ≤ q → A q) (harr : Cond.arrayClass .int ∈ GW) (hw : wn D A s H locs ws) {n : Int32} {N : Nat} (hn : ¬ n < 0) (hN : n.toNatClampNeg = N) (hby : N * 4 ≤ 536870912) (hcells : cells + 1 ≤ R.cells) (hslots : slots + N ≤ R.slots) (hdg : decode cc pc = .ok (.newarray .int, 2))
    (kk : ∀ (b : Nat) (H1 : Heap), wn D A s H1 locs (ws ++ [(b, .inl (q.1, N, .inl (fun _ => 0)))]) → W p l e R s m args below meth c H1 locs (cells + 1) (slots + N) Q (F0 m (pc + 2) ls (.ref b :: rest))) : W p l e R s m args below meth c H locs cells slots Q (F0 m pc ls (.int n :: rest)) := by
  refine va_newa (atype := .int) (ty := .int) (a0 := (N, .inl (fun _ => 0))) S.1 S.2.1 (gw_S S _ harr) rfl V.1 hw.1 hw.2.1 hw.2.2 hA (fun _ => rfl) hn hN hby hcells hslots hdg (fun b cA H1 hK' hP' hD' hS' => ?_)
  have e1 : s.vm.findClass ("[" ++ (FieldType.int).toString) = some cA := (hK'.2 4 _ rfl).2
  have e2 : s.vm.findClass ("[" ++ (FieldType.int).toString) = some q.1 := (V.1.2 0 _ rfl).2
  have e3 : cA = q.1 := Option.some.inj (e1.symm.trans e2)
  rw [e3] at hP' hD'
  exact kk b H1 ⟨hP', hD', hS'⟩
theorem y_newz (S : CallFix p m c cc nL s args GW own) (V : EvI D q tF A s) (hA : ∀ q, s.heap.size ≤ q → A q) (harr : Cond.arrayClass .boolean ∈ GW) (hw : wn D A s H locs ws) {n : Int32} {N : Nat} (hn : ¬ n < 0) (hN : n.toNatClampNeg = N) (hby : N * 4 ≤ 536870912) (hcells : cells + 1 ≤ R.cells) (hslots : slots + N ≤ R.slots) (hdg : decode cc pc = .ok (.newarray .boolean, 2))
    (kk : ∀ (b : Nat) (H1 : Heap), wn D A s H1 locs (ws ++ [(b, .inl (q.2.2.2, N, .inl (fun _ => 0)))]) → W p l e R s m args below meth c H1 locs (cells + 1) (slots + N) Q (F0 m (pc + 2) ls (.ref b :: rest))) : W p l e R s m args below meth c H locs cells slots Q (F0 m pc ls (.int n :: rest)) := by
  have cb : componentBytes .boolean ≤ 4 := by decide
  have hby2 : N * componentBytes .boolean ≤ 536870912 := Nat.le_trans (Nat.mul_le_mul_left N cb) hby
  refine va_newa (atype := .boolean) (ty := .boolean) (a0 := (N, .inl (fun _ => 0))) S.1 S.2.1 (gw_S S _ harr) rfl V.1 hw.1 hw.2.1 hw.2.2 hA (fun _ => rfl) hn hN hby2 hcells hslots hdg (fun b cA H1 hK' hP' hD' hS' => ?_)
  have e1 : s.vm.findClass ("[" ++ (FieldType.boolean).toString) = some cA := (hK'.2 4 _ rfl).2
  have e2 : s.vm.findClass ("[" ++ (FieldType.boolean).toString) = some q.2.2.2 := (V.1.2 3 _ rfl).2
  have e3 : cA = q.2.2.2 := Option.some.inj (e1.symm.trans e2)
  rw [e3] at hP' hD'
  exact kk b H1 ⟨hP', hD', hS'⟩
theorem y_newq (S : CallFix p m c cc nL s args GW own) (V : EvI D q tF A s) (hA : ∀ q, s.heap.size ≤ q → A q) {C : String} {cQ : ClassId} (t0 : Nat) (ht : (tyA q)[t0]? = some (cQ, .object C)) (hcl : Cond.classLink own index C ∈ GW) (hover : va_AO C s) (hw : wn D A s H locs ws) {n : Int32} {N : Nat} (hn : ¬ n < 0) (hN : n.toNatClampNeg = N) (hby : N * 4 ≤ 536870912) (hcells : cells + 1 ≤ R.cells) (hslots : slots + N ≤ R.slots) (hdg : decode cc pc = .ok (.anewarray index, 3))
    (kk : ∀ (b : Nat) (H1 : Heap), wn D A s H1 locs (ws ++ [(b, .inl (cQ, N, .inr (.inr (.inr (.inr (fun _ => none))))))]) → W p l e R s m args below meth c H1 locs (cells + 1) (slots + N) Q (F0 m (pc + 3) ls (.ref b :: rest))) : W p l e R s m args below meth c H locs cells slots Q (F0 m pc ls (.int n :: rest)) := by
  refine va_newq S.1 S.2.1 S.2.2.2.1 (gw_S S _ hcl) hover V.1 hw.1 hw.2.1 hw.2.2 hA hn hN hby hcells hslots hdg (fun b cA H1 hK' hP' hD' hS' => ?_)
  obtain ⟨_, _, -, -, -, e1⟩ := (hK'.2 4 _ rfl).2
  obtain ⟨_, _, -, -, -, e2⟩ := (V.1.2 t0 _ ht).2
  have e3 : cA = cQ := Option.some.inj (e1.symm.trans e2)
  rw [e3] at hP' hD'
  exact kk b H1 ⟨hP', hD', hS'⟩
/-- behind a constructor's call: the caller's cells, and the new object's world -/
theorem y_joined {b : Nat} {x : va_E} {w1 : va_W} {H1 : Heap} (hP : va_P D clA (ws ++ [(b, x)]) H) (hD : va_D A (ws ++ [(b, x)])) (hk : ∀ q : Nat, q < H.size → ¬ va_A [(b, x)] H.size q → H1[q]? = H[q]?) (hF : ∀ q, va_A [(b, x)] H.size q → A q) (hP1 : va_P D clA w1 H1) (hD1 : va_D (va_A [(b, x)] H.size) w1) : va_P D clA (ws ++ w1) H1 ∧ va_D A (ws ++ w1) := by
  have left : ∀ (k : Nat) (y : Nat × va_E), ws[k]? = some y → (ws ++ [(b, x)])[k]? = some y := by
    intro k y hy
    rw [List.getElem?_append_left (List.getElem?_eq_some_iff.mp hy).1]
    exact hy
  have last : (ws ++ [(b, x)])[ws.length]? = some (b, x) := by
    rw [List.getElem?_append_right (Nat.le_refl _), Nat.sub_self]
    rfl
  have apart : ∀ (k : Nat) (y : Nat × va_E), ws[k]? = some y → y.1 < H.size ∧ ¬ va_A [(b, x)] H.size y.1 := by
    intro k y hy
    have hl := (hP k y (left k y hy)).lt
    refine ⟨hl, fun z => ?_⟩
    rcases z with ⟨j, e, z⟩ | z
    · cases j with
      | zero =>
        have e1 : (b, x) = (y.1, e) := Option.some.inj z
        have e2 := hD.1 k ws.length y (b, x) (left k y hy) last (congrArg Prod.fst e1).symm
        have := (List.getElem?_eq_some_iff.mp hy).1
        omega
      | succ j => cases z
    · omega
  refine ⟨va_P.app (fun k y hy => ?_) hP1, va_D.app ⟨fun i j y z hy hz h => hD.1 i j y z (left i y hy) (left j z hz) h, fun k y hy => hD.2 k y (left k y hy)⟩ (hD1.weaken (fun _ y _ h => hF y.1 h)) (fun i j y z hy hz h => ?_)⟩
  · have := apart k y hy
    exact (hP k y (left k y hy)).kept (hk y.1 this.1 this.2)
  · have := apart i y hy
    exact this.2 (by rw [h]; exact hD1.2 j z hz)
theorem y_free {b : Nat} {x : va_E} (hD : va_D A (ws ++ [(b, x)])) (hS : va_S A s.heap H locs) (hA : ∀ q, s.heap.size ≤ q → A q) : ∀ q, va_A [(b, x)] H.size q → A q := by
  intro y h
  rcases h with ⟨k, e, h⟩ | h
  · cases k with
    | zero =>
      have e1 : (b, x) = (y, e) := Option.some.inj h
      have := hD.2 ws.length (b, x) (by rw [List.getElem?_append_right (Nat.le_refl _), Nat.sub_self]; rfl)
      rw [e1] at this
      exact this
    | succ k => cases h
  · exact hA y (Nat.le_trans hS.1 h)
theorem y_one {b : Nat} {x : va_E} (hP : va_P D clA (ws ++ [(b, x)]) H) : va_P D clA [(b, x)] H := by
  intro k y hy
  cases k with
  | zero =>
    have e : (b, x) = y := Option.some.inj hy
    exact hP ws.length y (by rw [List.getElem?_append_right (Nat.le_refl _), Nat.sub_self, ← e]; rfl)
  | succ k => cases hy
theorem y_oneD {b : Nat} {x : va_E} : va_D (fun _ => True) [(b, x)] := by
  refine ⟨fun i j y z hy hz _ => ?_, fun _ _ _ => trivial⟩
  cases i with
  | zero =>
    cases j with
    | zero => rfl
    | succ j => cases hz
  | succ i => cases hy
/-- a constructor is called: of a nest mate, by a link -/
theorem y_callN {y : MethodName} {rm : Room} {ci : Nat} {dfs : List Value} {w : Nat → (Nat → Nat) → va_W} {mc ms b : Nat} {host : String} (S : CallFix p m c cc nL s args GW own) (V : EvI D q tF A s) (hA : ∀ q, s.heap.size ≤ q → A q) (hM : CI l D q tF y bytes maxL rm ci dfs w mc ms) (hlink : va_Nw (.methodLinkNest own index y host) s) (hcode : Cond.code y bytes maxL none ∈ GW) (hini : Cond.initialized y.cls ∈ GW) (hinst : Cond.instanceMethod y ∈ GW) (hd : y.cls ≠ "java/lang/invoke/MethodHandle" ∧ y.cls ≠ "java/lang/invoke/VarHandle" ∧ (parseMethodDescriptor y.desc).map (fun d => d.parameters.length) = some 0) (hy : y.name = "<init>") (hR : rm.frames + 1 ≤ R.frames ∧ 8 + (maxL + 11) + rm.locals ≤ R.locals) (hz : rm.cells = mc ∧ rm.slots = ms) (hsz : ls.size = nL) (hrm : (rest.map fun v => v.category).sum ≤ 8) (hdg : decode cc pc = .ok (.invokespecial index, 3)) (hroom : cells + mc ≤ R.cells ∧ slots + ms ≤ R.slots) (hw : wn D A s H locs (ws ++ [(b, .inr (ci, dfs))]))
    (kk : ∀ (u : Nat → Nat) (H1 : Heap) (locs1 : List Loc), wn D A s H1 locs1 (ws ++ w b u) → W p l e R s m args below meth c H1 locs1 (cells + mc) (slots + ms) Q (F0 m (pc + 3) ls rest)) : W p l e R s m args below meth c H locs cells slots Q (F0 m pc ls (.ref b :: rest)) := by
  have hF := y_free hw.2.1 hw.2.2 hA
  refine va_callv (va_runIN (As := []) (rest := rest) S (hM b H.size) ⟨va_cnB 0 (gw_S S) (gi_C hcode) rfl hz.1 hz.2 hlink (gw_S S _ hini) hd hR, hy, gw_S S _ hinst⟩ ⟨fun a U g mk z => ?_, fun U hU hW => ⟨rfl, by rw [hU], by rw [hU]; exact y_one hw.1, y_oneD, V.at hw.2.2 hF hU hW⟩⟩ rfl rfl hsz rfl (lv_room hrm) hdg hroom) hw.2.2 (fun q _ h => hF q h) hF (fun u t H1 locs1 ht hvm _ hB hz1 hk1 hS => ?_)
  · obtain ⟨z0, z1, zP, zD, zV⟩ := z
    exact ⟨z0, z1, zP, zD, zV.calling g mk a⟩
  · obtain ⟨hP1, hD1⟩ := hB
    rw [ht] at hP1
    obtain ⟨hP2, hD2⟩ := y_joined hw.1 hw.2.1 hk1 hF hP1 hD1
    exact kk u H1 locs1 ⟨hP2, hD2, hS⟩
theorem y_callI {y : MethodName} {rm : Room} {ci : Nat} {dfs : List Value} {w : Nat → (Nat → Nat) → va_W} {mc ms b : Nat} (S : CallFix p m c cc nL s args GW own) (V : EvI D q tF A s) (hA : ∀ q, s.heap.size ≤ q → A q) (hM : CI l D q tF y bytes maxL rm ci dfs w mc ms) (hlink : Cond.methodLink own index y ∈ GW) (hcode : Cond.code y bytes maxL none ∈ GW) (hini : Cond.initialized y.cls ∈ GW) (hinst : Cond.instanceMethod y ∈ GW) (hd : y.cls ≠ "java/lang/invoke/MethodHandle" ∧ y.cls ≠ "java/lang/invoke/VarHandle" ∧ (parseMethodDescriptor y.desc).map (fun d => d.parameters.length) = some 0) (hy : y.name = "<init>") (hR : rm.frames + 1 ≤ R.frames ∧ 8 + (maxL + 11) + rm.locals ≤ R.locals) (hz : rm.cells = mc ∧ rm.slots = ms) (hsz : ls.size = nL) (hrm : (rest.map fun v => v.category).sum ≤ 8) (hdg : decode cc pc = .ok (.invokespecial index, 3)) (hroom : cells + mc ≤ R.cells ∧ slots + ms ≤ R.slots) (hw : wn D A s H locs (ws ++ [(b, .inr (ci, dfs))]))
    (kk : ∀ (u : Nat → Nat) (H1 : Heap) (locs1 : List Loc), wn D A s H1 locs1 (ws ++ w b u) → W p l e R s m args below meth c H1 locs1 (cells + mc) (slots + ms) Q (F0 m (pc + 3) ls rest)) : W p l e R s m args below meth c H locs cells slots Q (F0 m pc ls (.ref b :: rest)) := by
  have hF := y_free hw.2.1 hw.2.2 hA
  refine va_callv (va_runI (As := []) (rest := rest) S (hM b H.size) (cwI 0 (gw_S S) (gi_C hcode) rfl hz.1 hz.2 (gw_S S _ hini) (gw_S S _ hlink) (gw_S S _ hinst) hy hd hR) ⟨fun a U g mk z => ?_, fun U hU hW => ⟨rfl, by rw [hU], by rw [hU]; exact y_one hw.1, y_oneD, V.at hw.2.2 hF hU hW⟩⟩ rfl rfl hsz rfl (lv_room hrm) hdg hroom) hw.2.2 (fun q _ h => hF q h) hF (fun u t H1 locs1 ht hvm _ hB hz1 hk1 hS => ?_)
  · obtain ⟨z0, z1, zP, zD, zV⟩ := z
    exact ⟨z0, z1, zP, zD, zV.calling g mk a⟩
  · obtain ⟨hP1, hD1⟩ := hB
    rw [ht] at hP1
    obtain ⟨hP2, hD2⟩ := y_joined hw.1 hw.2.1 hk1 hF hP1 hD1
    exact kk u H1 locs1 ⟨hP2, hD2, hS⟩
theorem y_new (S : CallFix p m c cc nL s args GW own) (V : EvI D q tF A s) (hA : ∀ q, s.heap.size ≤ q → A q) {C : String} {T : u_T} {N ci : Nat} (hc : clA[ci]? = some (C, T, N)) (hin : ∀ w ∈ u_ws C T N, w ∈ GW) (ty0 : Nat → FieldType) (hty : ∀ k, k < N → parseFieldDescriptor (T k).2.2.1 = some (ty0 k)) (hcl : Cond.classLink own index C ∈ GW) (hinst : Cond.instantiable C N ∈ GW) (hini : Cond.initialized C ∈ GW) {fs : List Value} (hfs : ∀ j, j < N → defaultValue (ty0 j) = vp_V fs j) (hcells : cells + 1 ≤ R.cells) (hslots : slots + N ≤ R.slots) (hdg : decode cc pc = .ok (.new index, 3)) (hdg2 : decode cc (pc + 3) = .ok (.dup, 1)) (hw : wn D A s H locs ws)
    (kk : ∀ (b : Nat) (H1 : Heap), wn D A s H1 locs (ws ++ [(b, .inr (ci, fs))]) → W p l e R s m args below meth c H1 locs (cells + 1) (slots + N) Q (F0 m (pc + 3 + 1) ls (.ref b :: .ref b :: rest))) : W p l e R s m args below meth c H locs cells slots Q (F0 m pc ls rest) := by
  refine va_new S.1 S.2.1 S.2.2.2.2 hin ty0 hty S.2.2.2.1 (gw_S S _ hcl) (gw_S S _ hinst) (gw_S S _ hini) V.1 hw.1 hw.2.1 hw.2.2 hA hc hfs hcells hslots hdg (fun b H1 hP hD hS => ?_)
  exact lv_dup S.1 S.2.1 hdg2 rfl (kk b H1 ⟨hP, hD, hS⟩)
theorem y_ret {y : MethodName} {mc ms : Nat} {w : Nat → (Nat → Nat) → va_W} {h : Nat} (S : CallFix p m c cc nL s args GW own) (hr : meth.sig.returnType = none) (hlocks : meth.locks = false) (u : Nat → Nat) (hw : wn D A s H locs (w h u)) (hcm : cells ≤ mc) (hsm : slots ≤ ms) (hdg : decode cc pc = .ok (.return_, 1)) : W p l e R s m args below meth c H locs cells slots (MQ below (va_Qv (fun _ : Nat → Nat => True) (fun u t => va_P D clA (w h u) t.heap ∧ va_D A (w h u)) A) args s mc ms A) (F0 m pc ls []) := by
  refine W.widen (k := mc) (n := ms) hcm hsm ?_
  exact W.vret S.1 S.2.1 hr (fun t ht _ => ⟨⟨u, rfl, trivial, by rw [ht]; exact hw.1, hw.2.1⟩, hw.2.2.F ht⟩) hw.2.2.2.2 hdg hlocks
end XN
