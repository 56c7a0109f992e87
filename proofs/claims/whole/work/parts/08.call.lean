/-! CONTRACTS over a world by keys: start, end, calls; Ev: what else holds (tables, nest mates, statics, texts) -/
def EvOK (Ev : State → Prop) (L : List (Nat × Nat)) (ad : Nat → Nat → Nat) : Prop := (∀ (U : State) (g : JFrame) (mk : MethodId) (a : Array Value), Ev U → Ev (U.calling g mk a)) ∧ ∀ (s U : State) (H : Heap) (locs : List Loc), Ev s → va_S (zA L ad) s.heap H locs → U.heap = H → s.WarmedH U.vm → Ev U
abbrev zQi (D : va_G) (cl : List vw_C) (L : List (Nat × Nat)) (ad : Nat → Nat → Nat) (F : St → Nat → Nat → va_E) (post : Int32 → St → Prop) : Array Value → State → Outcome → State → Prop := va_Qi post (fun σ' t => va_P D cl (wz L ad (F σ')) t.heap) (zA L ad)
abbrev zQv (D : va_G) (cl : List vw_C) (L : List (Nat × Nat)) (ad : Nat → Nat → Nat) (F : St → Nat → Nat → va_E) (post : St → Prop) : Array Value → State → Outcome → State → Prop := va_Qv post (fun σ' t => va_P D cl (wz L ad (F σ')) t.heap) (zA L ad)
abbrev zPc (D : va_G) (cl : List vw_C) (L : List (Nat × Nat)) (ad : Nat → Nat → Nat) (F : St → Nat → Nat → va_E) (Ev : State → Prop) (avs : List Value) (σ : St) : Array Value → State → Prop := va_Pc avs (fun U => va_P D cl (wz L ad (F σ)) U.heap ∧ Ev U)
def cI (l : Launch) (D : va_G) (cl : List vw_C) (L : List (Nat × Nat)) (ad : Nat → Nat → Nat) (F : St → Nat → Nat → va_E) (Ev : State → Prop) (y : MethodName) (cc : ByteArray) (nL : Nat) (ret : Option FieldType) (rm : Room) (avs : List Value) (σ : St) (post : Int32 → St → Prop) : Prop :=
  Met l y (Cond.code y cc nL ret :: GW) rm (zPc D cl L ad F Ev avs σ) (zQi D cl L ad F post) 0 0 (zA L ad)
def cV (l : Launch) (D : va_G) (cl : List vw_C) (L : List (Nat × Nat)) (ad : Nat → Nat → Nat) (F : St → Nat → Nat → va_E) (Ev : State → Prop) (y : MethodName) (cc : ByteArray) (nL : Nat) (ret : Option FieldType) (rm : Room) (avs : List Value) (σ : St) (post : St → Prop) : Prop :=
  Met l y (Cond.code y cc nL ret :: GW) rm (zPc D cl L ad F Ev avs σ) (zQv D cl L ad F post) 0 0 (zA L ad)
/-- what an instance method's caller wants of the tables, but for the link -/
def okV (C : String) (y : MethodName) (cc : ByteArray) (nL : Nat) (ret : Option FieldType) (n : Nat) : Prop := (Cond.instanceMethod y ∈ GW ∧ Cond.selects C y y ∈ GW ∧ Cond.initialized C ∈ GW ∧ Cond.code y cc nL ret ∈ GW) ∧ (y.cls = C ∧ y.cls ≠ "java/lang/invoke/MethodHandle" ∧ y.cls ≠ "java/lang/invoke/VarHandle" ∧ (parseMethodDescriptor y.desc).map (fun d => d.parameters.length) = some n)
def okS (y : MethodName) (cc : ByteArray) (nL : Nat) (ret : Option FieldType) (n : Nat) : Prop := (Cond.static y ∈ GW ∧ Cond.initialized y.cls ∈ GW ∧ Cond.code y cc nL ret ∈ GW) ∧ (y.cls ≠ "java/lang/invoke/MethodHandle" ∧ y.cls ≠ "java/lang/invoke/VarHandle" ∧ (parseMethodDescriptor y.desc).map (fun d => d.parameters.length) = some n)
section XC
variable {p : Program} {l : Launch} {e : Env} {R : Room} {s : State} {m : MethodId} {args : Array Value} {below : List Frame} {meth : Method} {c : Code} {H : Heap} {locs : List Loc} {Q : State → Prop}
variable {cc bytes : ByteArray} {pc nL maxL n : Nat} {ls : Array Slot} {rest st0 As avs : List Value} {D : va_G} {cl : List vw_C} {L : List (Nat × Nat)} {ad : Nat → Nat → Nat} {own C : String} {F : St → Nat → Nat → va_E} {Ev : State → Prop} {σ : St} {y : MethodName} {ret : Option FieldType} {rm : Room} {b index : Nat}
theorem ent_i {post : Int32 → St → Prop} (hy : plainName y.cls = true) (hle : (lg_sl avs).length ≤ nL) (body : ∀ (p : Program) (e : Env) (s : State) (m : MethodId) (below : List Frame) (meth : Method) (c : Code), CallFix p m c cc nL s avs.toArray GW y.cls → Ev s → meth.sig.returnType = ret → meth.locks = false → wo D cl L ad s.heap s.heap [] (F σ) → ∀ ls : Array Slot, lv_has ls nL (lv_args 0 avs) → W p l e rm s m avs.toArray below meth c s.heap [] 0 0 (MQ below (zQi D cl L ad F post) avs.toArray s 0 0 (zA L ad)) (F0 m 0 ls [])) : cI l D cl L ad F Ev y cc nL ret rm avs σ post := by
  refine Met.ofW (cc := cc) (maxL := nL) (ret := ret) hy rfl ?_
  intro p e s m args below meth c s₁ B hml hv
  obtain ⟨rfl, hP, hE⟩ := hv
  have hts := atoms_spec (ws := Cond.code y cc nL ret :: GW) B.pre
  have hown : s.vm.findClass y.cls = some m.cls := findClass_of_methodNamed B.named
  have hl := lv_entry avs (n := nL) hle
  rw [lg_entry_eq]
  generalize (lg_sl avs ++ List.replicate (nL - (lg_sl avs).length) Slot.unset).toArray = ls at hl ⊢
  exact body p e s m below meth c ⟨B.exec, B.bytes, hml, hown, fun w h => hts w (List.mem_cons_of_mem _ h)⟩ hE B.returns B.notSynchronized ⟨hP, va_S.rf⟩ ls hl
theorem ent_v {post : St → Prop} (hy : plainName y.cls = true) (hle : (lg_sl avs).length ≤ nL) (body : ∀ (p : Program) (e : Env) (s : State) (m : MethodId) (below : List Frame) (meth : Method) (c : Code), CallFix p m c cc nL s avs.toArray GW y.cls → Ev s → meth.sig.returnType = ret → meth.locks = false → wo D cl L ad s.heap s.heap [] (F σ) → ∀ ls : Array Slot, lv_has ls nL (lv_args 0 avs) → W p l e rm s m avs.toArray below meth c s.heap [] 0 0 (MQ below (zQv D cl L ad F post) avs.toArray s 0 0 (zA L ad)) (F0 m 0 ls [])) : cV l D cl L ad F Ev y cc nL ret rm avs σ post := by
  refine Met.ofW (cc := cc) (maxL := nL) (ret := ret) hy rfl ?_
  intro p e s m args below meth c s₁ B hml hv
  obtain ⟨rfl, hP, hE⟩ := hv
  have hts := atoms_spec (ws := Cond.code y cc nL ret :: GW) B.pre
  have hown : s.vm.findClass y.cls = some m.cls := findClass_of_methodNamed B.named
  have hl := lv_entry avs (n := nL) hle
  rw [lg_entry_eq]
  generalize (lg_sl avs ++ List.replicate (nL - (lg_sl avs).length) Slot.unset).toArray = ls at hl ⊢
  exact body p e s m below meth c ⟨B.exec, B.bytes, hml, hown, fun w h => hts w (List.mem_cons_of_mem _ h)⟩ hE B.returns B.notSynchronized ⟨hP, va_S.rf⟩ ls hl
theorem ret_i {post : Int32 → St → Prop} (S : CallFix p m c cc nL s args GW own) (hr : meth.sig.returnType = some .int) (hlocks : meth.locks = false) (hw : wo D cl L ad s.heap H locs (F σ)) {v : Int32} (h : post v σ) (hdg : decode cc pc = .ok (.ireturn, 1)) : W p l e R s m args below meth c H locs 0 0 (MQ below (zQi D cl L ad F post) args s 0 0 (zA L ad)) (F0 m pc ls [.int v]) :=
  W.iret (v := v) S.1 S.2.1 hr (fun t ht _ => ⟨⟨v, σ, rfl, h, by show va_P D cl (wz L ad (F σ)) t.heap; rw [ht]; exact hw.1⟩, hw.2.F ht⟩) hw.2.2.2 hdg hlocks
theorem ret_z {post : Int32 → St → Prop} (S : CallFix p m c cc nL s args GW own) (hr : meth.sig.returnType = some .boolean) (hlocks : meth.locks = false) (hw : wo D cl L ad s.heap H locs (F σ)) {v : Int32} (hn : narrow .boolean (.int v) = .int v) (h : post v σ) (hdg : decode cc pc = .ok (.ireturn, 1)) : W p l e R s m args below meth c H locs 0 0 (MQ below (zQi D cl L ad F post) args s 0 0 (zA L ad)) (F0 m pc ls [.int v]) :=
  W.zret (v := v) S.1 S.2.1 hr hn (fun t ht _ => ⟨⟨v, σ, rfl, h, by show va_P D cl (wz L ad (F σ)) t.heap; rw [ht]; exact hw.1⟩, hw.2.F ht⟩) hw.2.2.2 hdg hlocks
theorem ret_v {post : St → Prop} (S : CallFix p m c cc nL s args GW own) (hr : meth.sig.returnType = none) (hlocks : meth.locks = false) (hw : wo D cl L ad s.heap H locs (F σ)) (h : post σ) (hdg : decode cc pc = .ok (.return_, 1)) : W p l e R s m args below meth c H locs 0 0 (MQ below (zQv D cl L ad F post) args s 0 0 (zA L ad)) (F0 m pc ls []) :=
  W.vret S.1 S.2.1 hr (fun t ht _ => ⟨⟨σ, rfl, h, by show va_P D cl (wz L ad (F σ)) t.heap; rw [ht]; exact hw.1⟩, hw.2.F ht⟩) hw.2.2.2 hdg hlocks
theorem gw_S (S : CallFix p m c cc nL s args GW own) : ∀ w ∈ GW, w.before args s = true := S.2.2.2.2
theorem gi_V (ok : okV C y bytes maxL ret n) (hl : Cond.methodLink own index y ∈ GW) : GoodIn GW (wsV own index C y (Cond.code y bytes maxL ret :: GW)) := by
  obtain ⟨⟨h1, h2, h3, h4⟩, -⟩ := ok
  intro w hw
  have : w ∈ GW := by
    unfold wsV at hw
    rcases List.mem_append.mp hw with h | h
    · simp only [List.mem_cons, List.mem_nil_iff, or_false] at h
      rcases h with rfl | rfl | rfl | rfl
      · exact hl
      · exact h1
      · exact h2
      · exact h3
    · rcases List.mem_cons.mp h with rfl | h
      · exact h4
      · exact h
  exact ⟨this, gw_good this⟩
theorem gi_C (h : Cond.code y bytes maxL ret ∈ GW) : GoodIn GW (Cond.code y bytes maxL ret :: GW) := by
  intro w hw
  have : w ∈ GW := by
    rcases List.mem_cons.mp hw with rfl | h'
    · exact h
    · exact h'
  exact ⟨this, gw_good this⟩
theorem gi_S (ok : okS y bytes maxL ret n) (hl : Cond.methodLink own index y ∈ GW) : GoodIn GW (va_wsS own index y (Cond.code y bytes maxL ret :: GW)) := by
  obtain ⟨⟨h1, h2, h3⟩, -⟩ := ok
  intro w hw
  have : w ∈ GW := by
    unfold va_wsS at hw
    rcases List.mem_append.mp hw with h | h
    · simp only [List.mem_cons, List.mem_nil_iff, or_false] at h
      rcases h with rfl | rfl | rfl
      · exact hl
      · exact h1
      · exact h2
    · rcases List.mem_cons.mp h with rfl | h
      · exact h3
      · exact h
  exact ⟨this, gw_good this⟩
theorem blind_z (hE : EvOK Ev L ad) : FrameBlind (zPc D cl L ad F Ev avs σ) := fun a U g mk q => ⟨q.1, q.2.1, hE.1 U g mk a q.2.2⟩
theorem pre_z (hE : EvOK Ev L ad) (V : Ev s) (hw : wo D cl L ad s.heap H locs (F σ)) : ∀ U : State, U.heap = H → s.WarmedH U.vm → zPc D cl L ad F Ev avs σ avs.toArray U := fun U hU hW => ⟨rfl, by rw [hU]; exact hw.1, hE.2 s U H locs V hw.2 hU hW⟩
/-- calls: an instance method (V), a static one (S), private ones of a nest mate (VN, SN); that answer an int (i), nothing (v) -/
theorem call_Vi {post : Int32 → St → Prop} (hE : EvOK Ev L ad) (S : CallFix p m c cc nL s args GW own) (V : Ev s) (hw : wo D cl L ad s.heap H locs (F σ)) (hM : cI l D cl L ad F Ev y bytes maxL ret rm (.ref b :: As) σ post) (ok : okV C y bytes maxL ret n) (hlink : Cond.methodLink own index y ∈ GW) (recv : ∃ cell : Cell, H[b]? = some cell ∧ cell.vm.isStatics = false ∧ s.vm.findClass C = some cell.cls) (hR : rm.frames + 1 ≤ R.frames ∧ 8 + (maxL + 11) + rm.locals ≤ R.locals) (hz : rm.cells = 0 ∧ rm.slots = 0) (hn : As.length = n) (hsz : ls.size = nL) (hst : st0 = As.reverse ++ .ref b :: rest) (hrm : (rest.map fun v => v.category).sum ≤ 8) (hdg : decode cc pc = .ok (.invokevirtual index, 3))
    (kk : ∀ (r : Int32) (σ' : St) (H1 : Heap) (locs1 : List Loc), post r σ' → wo D cl L ad s.heap H1 locs1 (F σ') → W p l e R s m args below meth c H1 locs1 0 0 Q (F0 m (pc + 3) ls (.int r :: rest))) : W p l e R s m args below meth c H locs 0 0 Q (F0 m pc ls st0) :=
  va_calli (va_runV (As := As) (rest := rest) S hM (cwV n (gw_S S) (gi_V ok hlink) rfl hz.1 hz.2 ok.2 hR) ⟨blind_z hE, recv, pre_z hE V hw⟩ rfl hn hsz hst (lv_room hrm) hdg ⟨Nat.zero_le _, Nat.zero_le _⟩) hw.2 (fun _ _ h => h) (fun _ h => h) (fun r u t H1 locs1 ht _ hp hB _ _ hS => kk r u H1 locs1 hp ⟨by rw [← ht]; exact hB, hS⟩)
theorem call_Vv {post : St → Prop} (hE : EvOK Ev L ad) (S : CallFix p m c cc nL s args GW own) (V : Ev s) (hw : wo D cl L ad s.heap H locs (F σ)) (hM : cV l D cl L ad F Ev y bytes maxL ret rm (.ref b :: As) σ post) (ok : okV C y bytes maxL ret n) (hlink : Cond.methodLink own index y ∈ GW) (recv : ∃ cell : Cell, H[b]? = some cell ∧ cell.vm.isStatics = false ∧ s.vm.findClass C = some cell.cls) (hR : rm.frames + 1 ≤ R.frames ∧ 8 + (maxL + 11) + rm.locals ≤ R.locals) (hz : rm.cells = 0 ∧ rm.slots = 0) (hn : As.length = n) (hsz : ls.size = nL) (hst : st0 = As.reverse ++ .ref b :: rest) (hrm : (rest.map fun v => v.category).sum ≤ 8) (hdg : decode cc pc = .ok (.invokevirtual index, 3))
    (kk : ∀ (σ' : St) (H1 : Heap) (locs1 : List Loc), post σ' → wo D cl L ad s.heap H1 locs1 (F σ') → W p l e R s m args below meth c H1 locs1 0 0 Q (F0 m (pc + 3) ls rest)) : W p l e R s m args below meth c H locs 0 0 Q (F0 m pc ls st0) :=
  va_callv (va_runV (As := As) (rest := rest) S hM (cwV n (gw_S S) (gi_V ok hlink) rfl hz.1 hz.2 ok.2 hR) ⟨blind_z hE, recv, pre_z hE V hw⟩ rfl hn hsz hst (lv_room hrm) hdg ⟨Nat.zero_le _, Nat.zero_le _⟩) hw.2 (fun _ _ h => h) (fun _ h => h) (fun u t H1 locs1 ht _ hp hB _ _ hS => kk u H1 locs1 hp ⟨by rw [← ht]; exact hB, hS⟩)
theorem call_Si {post : Int32 → St → Prop} (hE : EvOK Ev L ad) (S : CallFix p m c cc nL s args GW own) (V : Ev s) (hw : wo D cl L ad s.heap H locs (F σ)) (hM : cI l D cl L ad F Ev y bytes maxL ret rm As σ post) (ok : okS y bytes maxL ret n) (hlink : Cond.methodLink own index y ∈ GW) (hR : rm.frames + 1 ≤ R.frames ∧ 8 + (maxL + 11) + rm.locals ≤ R.locals) (hz : rm.cells = 0 ∧ rm.slots = 0) (hn : As.length = n) (hsz : ls.size = nL) (hst : st0 = As.reverse ++ rest) (hrm : (rest.map fun v => v.category).sum ≤ 8) (hdg : decode cc pc = .ok (.invokestatic index, 3))
    (kk : ∀ (r : Int32) (σ' : St) (H1 : Heap) (locs1 : List Loc), post r σ' → wo D cl L ad s.heap H1 locs1 (F σ') → W p l e R s m args below meth c H1 locs1 0 0 Q (F0 m (pc + 3) ls (.int r :: rest))) : W p l e R s m args below meth c H locs 0 0 Q (F0 m pc ls st0) :=
  va_calli (va_runS (As := As) (rest := rest) S hM (va_cwS n (gw_S S) (gi_S ok hlink) rfl hz.1 hz.2 ok.2 hR) ⟨blind_z hE, pre_z hE V hw⟩ rfl hn hsz hst (lv_room hrm) hdg ⟨Nat.zero_le _, Nat.zero_le _⟩) hw.2 (fun _ _ h => h) (fun _ h => h) (fun r u t H1 locs1 ht _ hp hB _ _ hS => kk r u H1 locs1 hp ⟨by rw [← ht]; exact hB, hS⟩)
theorem call_SNi {post : Int32 → St → Prop} {host : String} (hE : EvOK Ev L ad) (S : CallFix p m c cc nL s args GW own) (V : Ev s) (hw : wo D cl L ad s.heap H locs (F σ)) (hM : cI l D cl L ad F Ev y bytes maxL ret rm As σ post) (ok : okS y bytes maxL ret n) (hlink : va_Nw (.methodLinkNest own index y host) s) (hR : rm.frames + 1 ≤ R.frames ∧ 8 + (maxL + 11) + rm.locals ≤ R.locals) (hz : rm.cells = 0 ∧ rm.slots = 0) (hn : As.length = n) (hsz : ls.size = nL) (hst : st0 = As.reverse ++ rest) (hrm : (rest.map fun v => v.category).sum ≤ 8) (hdg : decode cc pc = .ok (.invokestatic index, 3))
    (kk : ∀ (r : Int32) (σ' : St) (H1 : Heap) (locs1 : List Loc), post r σ' → wo D cl L ad s.heap H1 locs1 (F σ') → W p l e R s m args below meth c H1 locs1 0 0 Q (F0 m (pc + 3) ls (.int r :: rest))) : W p l e R s m args below meth c H locs 0 0 Q (F0 m pc ls st0) :=
  va_calli (va_runSN (As := As) (rest := rest) S hM ⟨va_cnB n (gw_S S) (gi_C ok.1.2.2) rfl hz.1 hz.2 hlink (gw_S S _ ok.1.2.1) ok.2 hR, gw_S S _ ok.1.1, trivial⟩ ⟨blind_z hE, pre_z hE V hw⟩ rfl hn hsz hst (lv_room hrm) hdg ⟨Nat.zero_le _, Nat.zero_le _⟩) hw.2 (fun _ _ h => h) (fun _ h => h) (fun r u t H1 locs1 ht _ hp hB _ _ hS => kk r u H1 locs1 hp ⟨by rw [← ht]; exact hB, hS⟩)
theorem x_recv {tys : List (ClassId × FieldType)} {f : Nat → Nat → va_E} {ci : Nat} {q : vw_C} {fs : List Value} {ck o : Nat} (hK : va_K D cl tys s) (hw : wo D cl L ad s.heap H locs f) (ho : (ck, o) ∈ L) (hc : cl[ci]? = some q) (he : f ck o = .inr (ci, fs)) : ∃ cell : Cell, H[ad ck o]? = some cell ∧ cell.vm.isStatics = false ∧ s.vm.findClass q.1 = some cell.cls := by
  obtain ⟨q0, hq⟩ := wz_get (ad := ad) (e := f) ho
  exact va_recv (q0 := q0) hK hw.1 hc (by rw [hq, he])
end XC
