/-! THE CLAIM OUT OF ONE WALK OF THE LAW'S BODY. Your part is whole_start (and what it stands on); all else here is the same for every law, but numbers. -/
def R_law : String := "OnChinLaw"
def lw_P (b : Addr) (xs : List Int32) (args : Array Value) (s : State) : Prop := args = #[.ref b] ∧ s.IntsAt b xs ∧ xs.length ≤ 3584 ∧ (Jvm.Cond.and given_1 narrow_1).before args s = true
def lw_Q (_ : Array Value) (s : State) (o : Outcome) (t : State) : Prop := o = .returned (some (.int 1)) ∧ Framed s o t [] 600000 7302250
def lw_Z (below : List Frame) (a : Array Value) (s : State) : State → Prop := fun t => ∃ o, t.status = .running ∧ Ended t below o ∧ lw_Q a s o t
/-- the law's own end, with 1 on the stack, nothing written that was there before, its room as the claim has it -/
theorem lw_ret {p : Program} {l : Launch} {e : Env} {s : State} {m : MethodId} {below : List Frame} {meth : Method} {c : Code} {b : Nat} (hx : p.tables.exec = Jvm.exec) (hb : c.code = code) (hr : meth.sig.returnType = ret) (hlocks : meth.locks = false) {pc : Nat} {H : Heap} {ls : Array Slot} (hdg : decode code pc = .ok (.ireturn, 1)) : W p l e room_1 s m #[Value.ref b] below meth c H [] 600000 7302250 (lw_Z below #[Value.ref b] s) (F0 m pc ls [.int 1]) := by
  intro T hT X
  obtain ⟨fs, hret, hrun, hended, hW, hframe⟩ := X.leave (v := some (.int 1)) (hlocks := hlocks) (fun h => by rw [hr] at h; cases h)
  have hmeth' : T.vm.method? m = some meth := X.method'
  refine ⟨T.setFrames fs, ?_, .returned (some (.int 1)), hrun, hended, rfl, ⟨_, rfl⟩, hW, hframe⟩
  jvm_step X.here [X.here.top, hx, hb, hdg, hmeth', hr, ret, narrow_b1]
  (try refine ⟨rfl, ?_⟩); (try refine ⟨rfl, ?_⟩)
  first | (intro acts; rw [hret _ acts rfl rfl rfl]) | rw [hret _ _ rfl rfl rfl]
  exact Steps.refl _
/-- what holds at the law's entry: the machine, the code, the tables' words (any of lw_tbl by 'hts w (by decide +kernel)'), the script of L ints xs at the cell b, what the Statement gives of the start (any of its parts by flat_of_before) -/
def lw_At (p : Program) (s : State) (m : MethodId) (meth : Method) (c : Code) (b L : Nat) (xs : Nat → Int32) : Prop :=
  p.tables.exec = Jvm.exec ∧ c.code = code ∧ meth.sig.returnType = ret ∧ c.maxLocals = 4 ∧ s.vm.findClass R_law = some m.cls ∧ (∀ w ∈ lw_tbl, w.before #[Value.ref b] s = true) ∧ va_X b L xs s s.heap ∧ b < s.heap.size ∧ meth.locks = false ∧ (Jvm.Cond.and given_1 narrow_1).before #[Value.ref b] s = true
/-- what stands through the law: words, the two objects' places, the script -/
def LWC (p : Program) (s : State) (m : MethodId) (meth : Method) (c : Code) (b L : Nat) (xs : Nat → Int32) (D : va_G) (q : ClassId × ClassId × ClassId × ClassId) (adC adM : Nat → Nat → Nat) (t : Nat × Nat) (aK aV : Nat → Nat) : Prop :=
  CallFix p m c code 4 s #[Value.ref b] GW "OnChinLaw" ∧ EvC D q adC t aK aV s ∧ EvM D q adM s ∧ ((∀ x, zA LC adC x → s.heap.size ≤ x) ∧ (∀ x, zA LM adM x → s.heap.size ≤ x) ∧ ∀ x, zA LC adC x → ¬ zA LM adM x) ∧ (va_X b L xs s s.heap ∧ b < s.heap.size ∧ L ≤ 3584) ∧ meth.sig.returnType = ret ∧ meth.locks = false
abbrev LWS (D : va_G) (q : ClassId × ClassId × ClassId × ClassId) (adC adM : Nat → Nat → Nat) (s : State) (H : Heap) (locs : List Loc) (σ μ : St) : Prop := va_P D clA (wz LC adC (EC q adC σ)) H ∧ va_P D clA (wz LM adM (EM q adM μ)) H ∧ va_S (fun x => s.heap.size ≤ x) s.heap H locs
theorem wz_mem {L : List (Nat × Nat)} {ad : Nat → Nat → Nat} {e : Nat → Nat → va_E} {k : Nat} {x : Nat × va_E} (h : (wz L ad e)[k]? = some x) : zA L ad x.1 := by
  unfold wz at h
  rw [List.getElem?_map] at h
  cases hq : L[k]? with
  | none => rw [hq] at h; cases h
  | some y =>
    rw [hq] at h
    have := Option.some.inj h
    exact ⟨y, List.mem_of_getElem? hq, by rw [← this]⟩
section LAW
variable {p : Program} {l : Launch} {e : Env} {s : State} {m : MethodId} {below : List Frame} {meth : Method} {c : Code} {H : Heap} {locs : List Loc} {b L : Nat} {xs : Nat → Int32} {D : va_G} {q : ClassId × ClassId × ClassId × ClassId} {adC adM : Nat → Nat → Nat} {t : Nat × Nat} {aK aV : Nat → Nat} {σ μ : St} {pc n index maxL i : Nat} {ls : Array Slot} {rest st0 As : List Value} {y : MethodName} {bytes : ByteArray} {rm : Room} {Q : State → Prop}
theorem law_C {post : Int32 → St → Prop} (C : LWC p s m meth c b L xs D q adC adM t aK aV) (hw : LWS D q adC adM s H locs σ μ) (hM : cI l D clA LC adC (EC q adC) (EvC D q adC t aK aV) y bytes maxL (some .int) rm (.ref (adC 0 0) :: As) σ post) (ok : okV "OnChin" y bytes maxL (some .int) n) (hlink : Cond.methodLink "OnChinLaw" index y ∈ GW) (hR : rm.frames + 1 ≤ room_1.frames ∧ 8 + (maxL + 11) + rm.locals ≤ room_1.locals) (hz : rm.cells = 0 ∧ rm.slots = 0) (hn : As.length = n) (hsz : ls.size = 4) (hst : st0 = As.reverse ++ .ref (adC 0 0) :: rest) (hrm : (rest.map fun v => v.category).sum ≤ 8) (hdg : decode code pc = .ok (.invokevirtual index, 3))
    (kk : ∀ (r : Int32) (σ' : St) (H1 : Heap) (locs1 : List Loc), post r σ' → LWS D q adC adM s H1 locs1 σ' μ → W p l e room_1 s m #[Value.ref b] below meth c H1 locs1 70 3425 Q (F0 m (pc + 3) ls (.int r :: rest))) : W p l e room_1 s m #[Value.ref b] below meth c H locs 70 3425 Q (F0 m pc ls st0) := by
  obtain ⟨S, VC, VM, ⟨z1, z2, z3⟩, -⟩ := C
  obtain ⟨hP, hPM, hS⟩ := hw
  have recv : ∃ cell : Cell, H[adC 0 0]? = some cell ∧ cell.vm.isStatics = false ∧ s.vm.findClass "OnChin" = some cell.cls := by
    obtain ⟨q0, hq⟩ := wz_get (ad := adC) (e := EC q adC σ) (kC_0 (o := 0) (by decide))
    exact va_recv (q0 := q0) (ci := 8) (q := (RX8, TX8, 8)) VC.1 hP rfl hq
  have hS2 : va_S (zA LC adC) s.heap H [] := ⟨hS.1, fun x hx _ => hS.2.1 x hx (Nat.not_le.mpr hx), fun _ h => by cases h⟩
  refine va_calli (va_runV (As := As) (rest := rest) S hM (cwV n (gw_S S) (gi_V ok hlink) rfl hz.1 hz.2 ok.2 hR) ⟨blind_z EvC_ok, recv, pre_z EvC_ok VC ⟨hP, hS2⟩⟩ rfl hn hsz hst (lv_room hrm) hdg ⟨Nat.le_of_ble_eq_true rfl, Nat.le_of_ble_eq_true rfl⟩) hS (fun x _ h => z1 x h) z1 (fun r u t H1 locs1 ht _ hp hB _ hk hS1 => ?_)
  refine kk r u H1 locs1 hp ⟨by rw [← ht]; exact hB, hPM.kept (fun k x hx => ?_), hS1⟩
  exact hk x.1 ((hPM k x hx).lt) (fun z => z3 x.1 z (wz_mem hx))
theorem law_M {post : Int32 → St → Prop} (C : LWC p s m meth c b L xs D q adC adM t aK aV) (hw : LWS D q adC adM s H locs σ μ) (hM : cI l D clA LM adM (EM q adM) (EvM D q adM) y bytes maxL (some .int) rm (.ref (adM 0 0) :: As) μ post) (ok : okV "OnChinModel" y bytes maxL (some .int) n) (hlink : Cond.methodLink "OnChinLaw" index y ∈ GW) (hR : rm.frames + 1 ≤ room_1.frames ∧ 8 + (maxL + 11) + rm.locals ≤ room_1.locals) (hz : rm.cells = 0 ∧ rm.slots = 0) (hn : As.length = n) (hsz : ls.size = 4) (hst : st0 = As.reverse ++ .ref (adM 0 0) :: rest) (hrm : (rest.map fun v => v.category).sum ≤ 8) (hdg : decode code pc = .ok (.invokevirtual index, 3))
    (kk : ∀ (r : Int32) (μ' : St) (H1 : Heap) (locs1 : List Loc), post r μ' → LWS D q adC adM s H1 locs1 σ μ' → W p l e room_1 s m #[Value.ref b] below meth c H1 locs1 70 3425 Q (F0 m (pc + 3) ls (.int r :: rest))) : W p l e room_1 s m #[Value.ref b] below meth c H locs 70 3425 Q (F0 m pc ls st0) := by
  obtain ⟨S, VC, VM, ⟨z1, z2, z3⟩, -⟩ := C
  obtain ⟨hPC, hP, hS⟩ := hw
  have recv : ∃ cell : Cell, H[adM 0 0]? = some cell ∧ cell.vm.isStatics = false ∧ s.vm.findClass "OnChinModel" = some cell.cls := by
    obtain ⟨q0, hq⟩ := wz_get (ad := adM) (e := EM q adM μ) (kM_0 (o := 0) (by decide))
    exact va_recv (q0 := q0) (ci := 9) (q := (RX9, TX9, 42)) VM.1 hP rfl hq
  have hS2 : va_S (zA LM adM) s.heap H [] := ⟨hS.1, fun x hx _ => hS.2.1 x hx (Nat.not_le.mpr hx), fun _ h => by cases h⟩
  refine va_calli (va_runV (As := As) (rest := rest) S hM (cwV n (gw_S S) (gi_V ok hlink) rfl hz.1 hz.2 ok.2 hR) ⟨blind_z EvM_ok, recv, pre_z EvM_ok VM ⟨hP, hS2⟩⟩ rfl hn hsz hst (lv_room hrm) hdg ⟨Nat.le_of_ble_eq_true rfl, Nat.le_of_ble_eq_true rfl⟩) hS (fun x _ h => z2 x h) z2 (fun r u t H1 locs1 ht _ hp hB _ hk hS1 => ?_)
  refine kk r u H1 locs1 hp ⟨hPC.kept (fun k x hx => ?_), by rw [← ht]; exact hB, hS1⟩
  exact hk x.1 ((hPC k x hx).lt) (fun z => z3 x.1 (wz_mem hx) z)
theorem law_at (C : LWC p s m meth c b L xs D q adC adM t aK aV) (hw : LWS D q adC adM s H locs σ μ) (hi : i + 7 ≤ L) (j : Nat) (hj : j < 7) {x : Int32} (hx : x = nI j) (hdg : decode code pc = .ok (.iaload, 1))
    (kk : W p l e room_1 s m #[Value.ref b] below meth c H locs 70 3425 Q (F0 m (pc + 1) ls (.int (xs (nI i + x).toNatClampNeg) :: rest))) : W p l e room_1 s m #[Value.ref b] below meth c H locs 70 3425 Q (F0 m pc ls (.int (nI i + x) :: .ref b :: rest)) := by
  obtain ⟨S, VC, VM, ⟨z1, z2, z3⟩, ⟨hX, hbl, hL⟩, -⟩ := C
  refine va_sld S.1 S.2.1 hX hbl (Nat.not_le.mpr hbl) hw.2.2 ?_ hdg kk
  rw [hx, nI_add]
  exact vp_in_nI (by omega) (by omega)
set_option maxHeartbeats 4000000 in
set_option maxRecDepth 100000 in
theorem law_0 (C : LWC p s m meth c b L xs D q adC adM t aK aV) (hw : LWS D q adC adM s H locs σ μ) (hI : Inv σ μ) (hl : lv_has ls 4 [(0, .ref b), (1, .ref (adC 0 0)), (2, .ref (adM 0 0)), (3, .int (nI i))]) (hi : i + 7 ≤ L) (kk : ∀ (σ' μ' : St) (H' : Heap) (locs' : List Loc), LWS D q adC adM s H' locs' σ' μ' → Inv σ' μ' → W p l e room_1 s m #[Value.ref b] below meth c H' locs' 70 3425 Q (F0 m 1054 ls [])) : W p l e room_1 s m #[Value.ref b] below meth c H locs 70 3425 Q (F0 m 152 ls []) := by
  have S := C.1
  have hx := S.1
  have hb := S.2.1
  refine lv_aload_n hx hb dL_law_152 rfl (lv_at hl 1 rfl) ?_
  refine lv_aload_n hx hb dL_law_153 rfl (lv_at hl 0 rfl) ?_
  refine lv_iload_n hx hb dL_law_154 rfl (lv_at hl 3 rfl) ?_
  refine lv_iconst (v := 1) hx hb dL_law_155 (by decide) ?_
  refine lv_iadd hx hb dL_law_156 ?_
  refine law_at C hw hi 1 (by decide) rfl dL_law_157 ?_
  refine lv_i2l (v := (Int32.toInt64 (xs (nI i + 1).toNatClampNeg))) hx hb dL_law_158 rfl ?_
  refine lv_bipush (v := 32) hx hb dL_law_159 (by decide) ?_
  refine lv_lshl (v := ((Int32.toInt64 (xs (nI i + 1).toNatClampNeg)) <<< (Int32.toInt64 32 &&& 63))) hx hb dL_law_161 rfl ?_
  refine lv_aload_n hx hb dL_law_162 rfl (lv_at hl 0 rfl) ?_
  refine lv_iload_n hx hb dL_law_163 rfl (lv_at hl 3 rfl) ?_
  refine lv_iconst (v := 2) hx hb dL_law_164 (by decide) ?_
  refine lv_iadd hx hb dL_law_165 ?_
  refine law_at C hw hi 2 (by decide) rfl dL_law_166 ?_
  refine lv_i2l (v := (Int32.toInt64 (xs (nI i + 2).toNatClampNeg))) hx hb dL_law_167 rfl ?_
  refine lv_ldc2 (v := 4294967295) hx hb S.2.2.2.1 (gw_S S _ kc_L_13) dL_law_168 ?_
  refine lv_land hx hb dL_law_171 ?_
  refine lv_lor hx hb dL_law_172 ?_
  refine lv_aload_n hx hb dL_law_173 rfl (lv_at hl 0 rfl) ?_
  refine lv_iload_n hx hb dL_law_174 rfl (lv_at hl 3 rfl) ?_
  refine lv_iconst (v := 3) hx hb dL_law_175 (by decide) ?_
  refine lv_iadd hx hb dL_law_176 ?_
  refine law_at C hw hi 3 (by decide) rfl dL_law_177 ?_
  refine law_C (As := [.long (((Int32.toInt64 (xs (nI i + 1).toNatClampNeg)) <<< (Int32.toInt64 32 &&& 63)) ||| ((Int32.toInt64 (xs (nI i + 2).toNatClampNeg)) &&& 4294967295)), .int (xs (nI i + 3).toNatClampNeg)]) (rest := []) C hw (mt_X8_write l D q adC t aK aV (((Int32.toInt64 (xs (nI i + 1).toNatClampNeg)) <<< (Int32.toInt64 32 &&& 63)) ||| ((Int32.toInt64 (xs (nI i + 2).toNatClampNeg)) &&& 4294967295)) (xs (nI i + 3).toNatClampNeg) σ _ (pub_write hI (((Int32.toInt64 (xs (nI i + 1).toNatClampNeg)) <<< (Int32.toInt64 32 &&& 63)) ||| ((Int32.toInt64 (xs (nI i + 2).toNatClampNeg)) &&& 4294967295)) (xs (nI i + 3).toNatClampNeg))) ok_X8_write ml_L_15 ⟨(Nat.le_of_ble_eq_true rfl), (Nat.le_of_ble_eq_true rfl)⟩ ⟨rfl, rfl⟩ rfl hl.1 rfl (Nat.le_of_ble_eq_true rfl) dL_law_178 (fun r1 σ1 H1 locs1 h1 hw => ?_)
  refine lv_aload_n hx hb dL_law_181 rfl (lv_at hl 2 rfl) ?_
  refine lv_aload_n hx hb dL_law_182 rfl (lv_at hl 0 rfl) ?_
  refine lv_iload_n hx hb dL_law_183 rfl (lv_at hl 3 rfl) ?_
  refine lv_iconst (v := 1) hx hb dL_law_184 (by decide) ?_
  refine lv_iadd hx hb dL_law_185 ?_
  refine law_at C hw hi 1 (by decide) rfl dL_law_186 ?_
  refine lv_i2l (v := (Int32.toInt64 (xs (nI i + 1).toNatClampNeg))) hx hb dL_law_187 rfl ?_
  refine lv_bipush (v := 32) hx hb dL_law_188 (by decide) ?_
  refine lv_lshl (v := ((Int32.toInt64 (xs (nI i + 1).toNatClampNeg)) <<< (Int32.toInt64 32 &&& 63))) hx hb dL_law_190 rfl ?_
  refine lv_aload_n hx hb dL_law_191 rfl (lv_at hl 0 rfl) ?_
  refine lv_iload_n hx hb dL_law_192 rfl (lv_at hl 3 rfl) ?_
  refine lv_iconst (v := 2) hx hb dL_law_193 (by decide) ?_
  refine lv_iadd hx hb dL_law_194 ?_
  refine law_at C hw hi 2 (by decide) rfl dL_law_195 ?_
  refine lv_i2l (v := (Int32.toInt64 (xs (nI i + 2).toNatClampNeg))) hx hb dL_law_196 rfl ?_
  refine lv_ldc2 (v := 4294967295) hx hb S.2.2.2.1 (gw_S S _ kc_L_13) dL_law_197 ?_
  refine lv_land hx hb dL_law_200 ?_
  refine lv_lor hx hb dL_law_201 ?_
  refine lv_aload_n hx hb dL_law_202 rfl (lv_at hl 0 rfl) ?_
  refine lv_iload_n hx hb dL_law_203 rfl (lv_at hl 3 rfl) ?_
  refine lv_iconst (v := 3) hx hb dL_law_204 (by decide) ?_
  refine lv_iadd hx hb dL_law_205 ?_
  refine law_at C hw hi 3 (by decide) rfl dL_law_206 ?_
  refine law_M (As := [.long (((Int32.toInt64 (xs (nI i + 1).toNatClampNeg)) <<< (Int32.toInt64 32 &&& 63)) ||| ((Int32.toInt64 (xs (nI i + 2).toNatClampNeg)) &&& 4294967295)), .int (xs (nI i + 3).toNatClampNeg)]) (rest := [.int r1]) C hw (mt_X9_write l D q adM (((Int32.toInt64 (xs (nI i + 1).toNatClampNeg)) <<< (Int32.toInt64 32 &&& 63)) ||| ((Int32.toInt64 (xs (nI i + 2).toNatClampNeg)) &&& 4294967295)) (xs (nI i + 3).toNatClampNeg) μ _ h1) ok_X9_write ml_L_19 ⟨(Nat.le_of_ble_eq_true rfl), (Nat.le_of_ble_eq_true rfl)⟩ ⟨rfl, rfl⟩ rfl hl.1 rfl (Nat.le_of_ble_eq_true rfl) dL_law_207 (fun r2 μ1 H2 locs2 h2 hw => ?_)
  refine lv_icmp_eq (tgt := 1054) hx hb dL_law_210 (by decide) (fun _ => ?_) (fun hc => absurd h2.1.symm hc)
  exact kk σ1 μ1 H2 locs2 hw h2.2
set_option maxHeartbeats 4000000 in
set_option maxRecDepth 100000 in
theorem law_1 (C : LWC p s m meth c b L xs D q adC adM t aK aV) (hw : LWS D q adC adM s H locs σ μ) (hI : Inv σ μ) (hl : lv_has ls 4 [(0, .ref b), (1, .ref (adC 0 0)), (2, .ref (adM 0 0)), (3, .int (nI i))]) (hi : i + 7 ≤ L) (kk : ∀ (σ' μ' : St) (H' : Heap) (locs' : List Loc), LWS D q adC adM s H' locs' σ' μ' → Inv σ' μ' → W p l e room_1 s m #[Value.ref b] below meth c H' locs' 70 3425 Q (F0 m 1054 ls [])) : W p l e room_1 s m #[Value.ref b] below meth c H locs 70 3425 Q (F0 m 215 ls []) := by
  have S := C.1
  have hx := S.1
  have hb := S.2.1
  refine lv_aload_n hx hb dL_law_215 rfl (lv_at hl 1 rfl) ?_
  refine law_C (As := []) (rest := []) C hw (mt_X8_erase l D q adC t aK aV  σ _ (pub_erase hI )) ok_X8_erase ml_L_20 ⟨(Nat.le_of_ble_eq_true rfl), (Nat.le_of_ble_eq_true rfl)⟩ ⟨rfl, rfl⟩ rfl hl.1 rfl (Nat.le_of_ble_eq_true rfl) dL_law_216 (fun r1 σ1 H1 locs1 h1 hw => ?_)
  refine lv_aload_n hx hb dL_law_219 rfl (lv_at hl 2 rfl) ?_
  refine law_M (As := []) (rest := [.int r1]) C hw (mt_X9_erase l D q adM  μ _ h1) ok_X9_erase ml_L_24 ⟨(Nat.le_of_ble_eq_true rfl), (Nat.le_of_ble_eq_true rfl)⟩ ⟨rfl, rfl⟩ rfl hl.1 rfl (Nat.le_of_ble_eq_true rfl) dL_law_220 (fun r2 μ1 H2 locs2 h2 hw => ?_)
  refine lv_icmp_eq (tgt := 1054) hx hb dL_law_223 (by decide) (fun _ => ?_) (fun hc => absurd h2.1.symm hc)
  exact kk σ1 μ1 H2 locs2 hw h2.2
set_option maxHeartbeats 4000000 in
set_option maxRecDepth 100000 in
theorem law_2 (C : LWC p s m meth c b L xs D q adC adM t aK aV) (hw : LWS D q adC adM s H locs σ μ) (hI : Inv σ μ) (hl : lv_has ls 4 [(0, .ref b), (1, .ref (adC 0 0)), (2, .ref (adM 0 0)), (3, .int (nI i))]) (hi : i + 7 ≤ L) (kk : ∀ (σ' μ' : St) (H' : Heap) (locs' : List Loc), LWS D q adC adM s H' locs' σ' μ' → Inv σ' μ' → W p l e room_1 s m #[Value.ref b] below meth c H' locs' 70 3425 Q (F0 m 1054 ls [])) : W p l e room_1 s m #[Value.ref b] below meth c H locs 70 3425 Q (F0 m 228 ls []) := by
  have S := C.1
  have hx := S.1
  have hb := S.2.1
  refine lv_aload_n hx hb dL_law_228 rfl (lv_at hl 1 rfl) ?_
  refine law_C (As := []) (rest := []) C hw (mt_X8_fault l D q adC t aK aV  σ _ (pub_fault hI )) ok_X8_fault ml_L_25 ⟨(Nat.le_of_ble_eq_true rfl), (Nat.le_of_ble_eq_true rfl)⟩ ⟨rfl, rfl⟩ rfl hl.1 rfl (Nat.le_of_ble_eq_true rfl) dL_law_229 (fun r1 σ1 H1 locs1 h1 hw => ?_)
  refine lv_aload_n hx hb dL_law_232 rfl (lv_at hl 2 rfl) ?_
  refine law_M (As := []) (rest := [.int r1]) C hw (mt_X9_fault l D q adM  μ _ h1) ok_X9_fault ml_L_28 ⟨(Nat.le_of_ble_eq_true rfl), (Nat.le_of_ble_eq_true rfl)⟩ ⟨rfl, rfl⟩ rfl hl.1 rfl (Nat.le_of_ble_eq_true rfl) dL_law_233 (fun r2 μ1 H2 locs2 h2 hw => ?_)
  refine lv_icmp_eq (tgt := 1054) hx hb dL_law_236 (by decide) (fun _ => ?_) (fun hc => absurd h2.1.symm hc)
  exact kk σ1 μ1 H2 locs2 hw h2.2
set_option maxHeartbeats 4000000 in
set_option maxRecDepth 100000 in
theorem law_3 (C : LWC p s m meth c b L xs D q adC adM t aK aV) (hw : LWS D q adC adM s H locs σ μ) (hI : Inv σ μ) (hl : lv_has ls 4 [(0, .ref b), (1, .ref (adC 0 0)), (2, .ref (adM 0 0)), (3, .int (nI i))]) (hi : i + 7 ≤ L) (kk : ∀ (σ' μ' : St) (H' : Heap) (locs' : List Loc), LWS D q adC adM s H' locs' σ' μ' → Inv σ' μ' → W p l e room_1 s m #[Value.ref b] below meth c H' locs' 70 3425 Q (F0 m 1054 ls [])) : W p l e room_1 s m #[Value.ref b] below meth c H locs 70 3425 Q (F0 m 241 ls []) := by
  have S := C.1
  have hx := S.1
  have hb := S.2.1
  refine lv_aload_n hx hb dL_law_241 rfl (lv_at hl 1 rfl) ?_
  refine law_C (As := []) (rest := []) C hw (mt_X8_chin l D q adC t aK aV  σ _ (pub_chin hI )) ok_X8_chin ml_L_29 ⟨(Nat.le_of_ble_eq_true rfl), (Nat.le_of_ble_eq_true rfl)⟩ ⟨rfl, rfl⟩ rfl hl.1 rfl (Nat.le_of_ble_eq_true rfl) dL_law_242 (fun r1 σ1 H1 locs1 h1 hw => ?_)
  refine lv_aload_n hx hb dL_law_245 rfl (lv_at hl 2 rfl) ?_
  refine law_M (As := []) (rest := [.int r1]) C hw (mt_X9_chin l D q adM  μ _ h1) ok_X9_chin ml_L_32 ⟨(Nat.le_of_ble_eq_true rfl), (Nat.le_of_ble_eq_true rfl)⟩ ⟨rfl, rfl⟩ rfl hl.1 rfl (Nat.le_of_ble_eq_true rfl) dL_law_246 (fun r2 μ1 H2 locs2 h2 hw => ?_)
  refine lv_icmp_eq (tgt := 1054) hx hb dL_law_249 (by decide) (fun _ => ?_) (fun hc => absurd h2.1.symm hc)
  exact kk σ1 μ1 H2 locs2 hw h2.2
set_option maxHeartbeats 4000000 in
set_option maxRecDepth 100000 in
theorem law_4 (C : LWC p s m meth c b L xs D q adC adM t aK aV) (hw : LWS D q adC adM s H locs σ μ) (hI : Inv σ μ) (hl : lv_has ls 4 [(0, .ref b), (1, .ref (adC 0 0)), (2, .ref (adM 0 0)), (3, .int (nI i))]) (hi : i + 7 ≤ L) (kk : ∀ (σ' μ' : St) (H' : Heap) (locs' : List Loc), LWS D q adC adM s H' locs' σ' μ' → Inv σ' μ' → W p l e room_1 s m #[Value.ref b] below meth c H' locs' 70 3425 Q (F0 m 1054 ls [])) : W p l e room_1 s m #[Value.ref b] below meth c H locs 70 3425 Q (F0 m 254 ls []) := by
  have S := C.1
  have hx := S.1
  have hb := S.2.1
  refine lv_aload_n hx hb dL_law_254 rfl (lv_at hl 1 rfl) ?_
  refine lv_aload_n hx hb dL_law_255 rfl (lv_at hl 0 rfl) ?_
  refine lv_iload_n hx hb dL_law_256 rfl (lv_at hl 3 rfl) ?_
  refine lv_iconst (v := 1) hx hb dL_law_257 (by decide) ?_
  refine lv_iadd hx hb dL_law_258 ?_
  refine law_at C hw hi 1 (by decide) rfl dL_law_259 ?_
  refine lv_aload_n hx hb dL_law_260 rfl (lv_at hl 0 rfl) ?_
  refine lv_iload_n hx hb dL_law_261 rfl (lv_at hl 3 rfl) ?_
  refine lv_iconst (v := 2) hx hb dL_law_262 (by decide) ?_
  refine lv_iadd hx hb dL_law_263 ?_
  refine law_at C hw hi 2 (by decide) rfl dL_law_264 ?_
  refine law_C (As := [.int (xs (nI i + 1).toNatClampNeg), .int (xs (nI i + 2).toNatClampNeg)]) (rest := []) C hw (mt_X8_thing l D q adC t aK aV (xs (nI i + 1).toNatClampNeg) (xs (nI i + 2).toNatClampNeg) σ _ (pub_thing hI (xs (nI i + 1).toNatClampNeg) (xs (nI i + 2).toNatClampNeg))) ok_X8_thing ml_L_33 ⟨(Nat.le_of_ble_eq_true rfl), (Nat.le_of_ble_eq_true rfl)⟩ ⟨rfl, rfl⟩ rfl hl.1 rfl (Nat.le_of_ble_eq_true rfl) dL_law_265 (fun r1 σ1 H1 locs1 h1 hw => ?_)
  refine lv_aload_n hx hb dL_law_268 rfl (lv_at hl 2 rfl) ?_
  refine lv_aload_n hx hb dL_law_269 rfl (lv_at hl 0 rfl) ?_
  refine lv_iload_n hx hb dL_law_270 rfl (lv_at hl 3 rfl) ?_
  refine lv_iconst (v := 1) hx hb dL_law_271 (by decide) ?_
  refine lv_iadd hx hb dL_law_272 ?_
  refine law_at C hw hi 1 (by decide) rfl dL_law_273 ?_
  refine lv_aload_n hx hb dL_law_274 rfl (lv_at hl 0 rfl) ?_
  refine lv_iload_n hx hb dL_law_275 rfl (lv_at hl 3 rfl) ?_
  refine lv_iconst (v := 2) hx hb dL_law_276 (by decide) ?_
  refine lv_iadd hx hb dL_law_277 ?_
  refine law_at C hw hi 2 (by decide) rfl dL_law_278 ?_
  refine law_M (As := [.int (xs (nI i + 1).toNatClampNeg), .int (xs (nI i + 2).toNatClampNeg)]) (rest := [.int r1]) C hw (mt_X9_thing l D q adM (xs (nI i + 1).toNatClampNeg) (xs (nI i + 2).toNatClampNeg) μ _ h1) ok_X9_thing ml_L_37 ⟨(Nat.le_of_ble_eq_true rfl), (Nat.le_of_ble_eq_true rfl)⟩ ⟨rfl, rfl⟩ rfl hl.1 rfl (Nat.le_of_ble_eq_true rfl) dL_law_279 (fun r2 μ1 H2 locs2 h2 hw => ?_)
  refine lv_icmp_eq (tgt := 1054) hx hb dL_law_282 (by decide) (fun _ => ?_) (fun hc => absurd h2.1.symm hc)
  exact kk σ1 μ1 H2 locs2 hw h2.2
set_option maxHeartbeats 4000000 in
set_option maxRecDepth 100000 in
theorem law_5 (C : LWC p s m meth c b L xs D q adC adM t aK aV) (hw : LWS D q adC adM s H locs σ μ) (hI : Inv σ μ) (hl : lv_has ls 4 [(0, .ref b), (1, .ref (adC 0 0)), (2, .ref (adM 0 0)), (3, .int (nI i))]) (hi : i + 7 ≤ L) (kk : ∀ (σ' μ' : St) (H' : Heap) (locs' : List Loc), LWS D q adC adM s H' locs' σ' μ' → Inv σ' μ' → W p l e room_1 s m #[Value.ref b] below meth c H' locs' 70 3425 Q (F0 m 1054 ls [])) : W p l e room_1 s m #[Value.ref b] below meth c H locs 70 3425 Q (F0 m 287 ls []) := by
  have S := C.1
  have hx := S.1
  have hb := S.2.1
  refine lv_aload_n hx hb dL_law_287 rfl (lv_at hl 1 rfl) ?_
  refine lv_aload_n hx hb dL_law_288 rfl (lv_at hl 0 rfl) ?_
  refine lv_iload_n hx hb dL_law_289 rfl (lv_at hl 3 rfl) ?_
  refine lv_iconst (v := 1) hx hb dL_law_290 (by decide) ?_
  refine lv_iadd hx hb dL_law_291 ?_
  refine law_at C hw hi 1 (by decide) rfl dL_law_292 ?_
  refine lv_aload_n hx hb dL_law_293 rfl (lv_at hl 0 rfl) ?_
  refine lv_iload_n hx hb dL_law_294 rfl (lv_at hl 3 rfl) ?_
  refine lv_iconst (v := 2) hx hb dL_law_295 (by decide) ?_
  refine lv_iadd hx hb dL_law_296 ?_
  refine law_at C hw hi 2 (by decide) rfl dL_law_297 ?_
  refine lv_aload_n hx hb dL_law_298 rfl (lv_at hl 0 rfl) ?_
  refine lv_iload_n hx hb dL_law_299 rfl (lv_at hl 3 rfl) ?_
  refine lv_iconst (v := 3) hx hb dL_law_300 (by decide) ?_
  refine lv_iadd hx hb dL_law_301 ?_
  refine law_at C hw hi 3 (by decide) rfl dL_law_302 ?_
  refine law_C (As := [.int (xs (nI i + 1).toNatClampNeg), .int (xs (nI i + 2).toNatClampNeg), .int (xs (nI i + 3).toNatClampNeg)]) (rest := []) C hw (mt_X8_lump l D q adC t aK aV (xs (nI i + 1).toNatClampNeg) (xs (nI i + 2).toNatClampNeg) (xs (nI i + 3).toNatClampNeg) σ _ (pub_lump hI (xs (nI i + 1).toNatClampNeg) (xs (nI i + 2).toNatClampNeg) (xs (nI i + 3).toNatClampNeg))) ok_X8_lump ml_L_38 ⟨(Nat.le_of_ble_eq_true rfl), (Nat.le_of_ble_eq_true rfl)⟩ ⟨rfl, rfl⟩ rfl hl.1 rfl (Nat.le_of_ble_eq_true rfl) dL_law_303 (fun r1 σ1 H1 locs1 h1 hw => ?_)
  refine lv_aload_n hx hb dL_law_306 rfl (lv_at hl 2 rfl) ?_
  refine lv_aload_n hx hb dL_law_307 rfl (lv_at hl 0 rfl) ?_
  refine lv_iload_n hx hb dL_law_308 rfl (lv_at hl 3 rfl) ?_
  refine lv_iconst (v := 1) hx hb dL_law_309 (by decide) ?_
  refine lv_iadd hx hb dL_law_310 ?_
  refine law_at C hw hi 1 (by decide) rfl dL_law_311 ?_
  refine lv_aload_n hx hb dL_law_312 rfl (lv_at hl 0 rfl) ?_
  refine lv_iload_n hx hb dL_law_313 rfl (lv_at hl 3 rfl) ?_
  refine lv_iconst (v := 2) hx hb dL_law_314 (by decide) ?_
  refine lv_iadd hx hb dL_law_315 ?_
  refine law_at C hw hi 2 (by decide) rfl dL_law_316 ?_
  refine lv_aload_n hx hb dL_law_317 rfl (lv_at hl 0 rfl) ?_
  refine lv_iload_n hx hb dL_law_318 rfl (lv_at hl 3 rfl) ?_
  refine lv_iconst (v := 3) hx hb dL_law_319 (by decide) ?_
  refine lv_iadd hx hb dL_law_320 ?_
  refine law_at C hw hi 3 (by decide) rfl dL_law_321 ?_
  refine law_M (As := [.int (xs (nI i + 1).toNatClampNeg), .int (xs (nI i + 2).toNatClampNeg), .int (xs (nI i + 3).toNatClampNeg)]) (rest := [.int r1]) C hw (mt_X9_lump l D q adM (xs (nI i + 1).toNatClampNeg) (xs (nI i + 2).toNatClampNeg) (xs (nI i + 3).toNatClampNeg) μ _ h1) ok_X9_lump ml_L_42 ⟨(Nat.le_of_ble_eq_true rfl), (Nat.le_of_ble_eq_true rfl)⟩ ⟨rfl, rfl⟩ rfl hl.1 rfl (Nat.le_of_ble_eq_true rfl) dL_law_322 (fun r2 μ1 H2 locs2 h2 hw => ?_)
  refine lv_icmp_eq (tgt := 1054) hx hb dL_law_325 (by decide) (fun _ => ?_) (fun hc => absurd h2.1.symm hc)
  exact kk σ1 μ1 H2 locs2 hw h2.2
set_option maxHeartbeats 4000000 in
set_option maxRecDepth 100000 in
theorem law_6 (C : LWC p s m meth c b L xs D q adC adM t aK aV) (hw : LWS D q adC adM s H locs σ μ) (hI : Inv σ μ) (hl : lv_has ls 4 [(0, .ref b), (1, .ref (adC 0 0)), (2, .ref (adM 0 0)), (3, .int (nI i))]) (hi : i + 7 ≤ L) (kk : ∀ (σ' μ' : St) (H' : Heap) (locs' : List Loc), LWS D q adC adM s H' locs' σ' μ' → Inv σ' μ' → W p l e room_1 s m #[Value.ref b] below meth c H' locs' 70 3425 Q (F0 m 1054 ls [])) : W p l e room_1 s m #[Value.ref b] below meth c H locs 70 3425 Q (F0 m 330 ls []) := by
  have S := C.1
  have hx := S.1
  have hb := S.2.1
  refine lv_aload_n hx hb dL_law_330 rfl (lv_at hl 1 rfl) ?_
  refine lv_aload_n hx hb dL_law_331 rfl (lv_at hl 0 rfl) ?_
  refine lv_iload_n hx hb dL_law_332 rfl (lv_at hl 3 rfl) ?_
  refine lv_iconst (v := 1) hx hb dL_law_333 (by decide) ?_
  refine lv_iadd hx hb dL_law_334 ?_
  refine law_at C hw hi 1 (by decide) rfl dL_law_335 ?_
  refine lv_aload_n hx hb dL_law_336 rfl (lv_at hl 0 rfl) ?_
  refine lv_iload_n hx hb dL_law_337 rfl (lv_at hl 3 rfl) ?_
  refine lv_iconst (v := 2) hx hb dL_law_338 (by decide) ?_
  refine lv_iadd hx hb dL_law_339 ?_
  refine law_at C hw hi 2 (by decide) rfl dL_law_340 ?_
  refine lv_aload_n hx hb dL_law_341 rfl (lv_at hl 0 rfl) ?_
  refine lv_iload_n hx hb dL_law_342 rfl (lv_at hl 3 rfl) ?_
  refine lv_iconst (v := 3) hx hb dL_law_343 (by decide) ?_
  refine lv_iadd hx hb dL_law_344 ?_
  refine law_at C hw hi 3 (by decide) rfl dL_law_345 ?_
  refine law_C (As := [.int (xs (nI i + 1).toNatClampNeg), .int (xs (nI i + 2).toNatClampNeg), .int (xs (nI i + 3).toNatClampNeg)]) (rest := []) C hw (mt_X8_begin l D q adC t aK aV (xs (nI i + 1).toNatClampNeg) (xs (nI i + 2).toNatClampNeg) (xs (nI i + 3).toNatClampNeg) σ _ (pub_begin hI (xs (nI i + 1).toNatClampNeg) (xs (nI i + 2).toNatClampNeg) (xs (nI i + 3).toNatClampNeg))) ok_X8_begin ml_L_43 ⟨(Nat.le_of_ble_eq_true rfl), (Nat.le_of_ble_eq_true rfl)⟩ ⟨rfl, rfl⟩ rfl hl.1 rfl (Nat.le_of_ble_eq_true rfl) dL_law_346 (fun r1 σ1 H1 locs1 h1 hw => ?_)
  refine lv_aload_n hx hb dL_law_349 rfl (lv_at hl 2 rfl) ?_
  refine lv_aload_n hx hb dL_law_350 rfl (lv_at hl 0 rfl) ?_
  refine lv_iload_n hx hb dL_law_351 rfl (lv_at hl 3 rfl) ?_
  refine lv_iconst (v := 1) hx hb dL_law_352 (by decide) ?_
  refine lv_iadd hx hb dL_law_353 ?_
  refine law_at C hw hi 1 (by decide) rfl dL_law_354 ?_
  refine lv_aload_n hx hb dL_law_355 rfl (lv_at hl 0 rfl) ?_
  refine lv_iload_n hx hb dL_law_356 rfl (lv_at hl 3 rfl) ?_
  refine lv_iconst (v := 2) hx hb dL_law_357 (by decide) ?_
  refine lv_iadd hx hb dL_law_358 ?_
  refine law_at C hw hi 2 (by decide) rfl dL_law_359 ?_
  refine lv_aload_n hx hb dL_law_360 rfl (lv_at hl 0 rfl) ?_
  refine lv_iload_n hx hb dL_law_361 rfl (lv_at hl 3 rfl) ?_
  refine lv_iconst (v := 3) hx hb dL_law_362 (by decide) ?_
  refine lv_iadd hx hb dL_law_363 ?_
  refine law_at C hw hi 3 (by decide) rfl dL_law_364 ?_
  refine law_M (As := [.int (xs (nI i + 1).toNatClampNeg), .int (xs (nI i + 2).toNatClampNeg), .int (xs (nI i + 3).toNatClampNeg)]) (rest := [.int r1]) C hw (mt_X9_begin l D q adM (xs (nI i + 1).toNatClampNeg) (xs (nI i + 2).toNatClampNeg) (xs (nI i + 3).toNatClampNeg) μ _ h1) ok_X9_begin ml_L_46 ⟨(Nat.le_of_ble_eq_true rfl), (Nat.le_of_ble_eq_true rfl)⟩ ⟨rfl, rfl⟩ rfl hl.1 rfl (Nat.le_of_ble_eq_true rfl) dL_law_365 (fun r2 μ1 H2 locs2 h2 hw => ?_)
  refine lv_icmp_eq (tgt := 1054) hx hb dL_law_368 (by decide) (fun _ => ?_) (fun hc => absurd h2.1.symm hc)
  exact kk σ1 μ1 H2 locs2 hw h2.2
set_option maxHeartbeats 4000000 in
set_option maxRecDepth 100000 in
theorem law_7 (C : LWC p s m meth c b L xs D q adC adM t aK aV) (hw : LWS D q adC adM s H locs σ μ) (hI : Inv σ μ) (hl : lv_has ls 4 [(0, .ref b), (1, .ref (adC 0 0)), (2, .ref (adM 0 0)), (3, .int (nI i))]) (hi : i + 7 ≤ L) (kk : ∀ (σ' μ' : St) (H' : Heap) (locs' : List Loc), LWS D q adC adM s H' locs' σ' μ' → Inv σ' μ' → W p l e room_1 s m #[Value.ref b] below meth c H' locs' 70 3425 Q (F0 m 1054 ls [])) : W p l e room_1 s m #[Value.ref b] below meth c H locs 70 3425 Q (F0 m 373 ls []) := by
  have S := C.1
  have hx := S.1
  have hb := S.2.1
  refine lv_aload_n hx hb dL_law_373 rfl (lv_at hl 1 rfl) ?_
  refine lv_aload_n hx hb dL_law_374 rfl (lv_at hl 0 rfl) ?_
  refine lv_iload_n hx hb dL_law_375 rfl (lv_at hl 3 rfl) ?_
  refine lv_iconst (v := 1) hx hb dL_law_376 (by decide) ?_
  refine lv_iadd hx hb dL_law_377 ?_
  refine law_at C hw hi 1 (by decide) rfl dL_law_378 ?_
  refine law_C (As := [.int (xs (nI i + 1).toNatClampNeg)]) (rest := []) C hw (mt_X8_ticks l D q adC t aK aV (xs (nI i + 1).toNatClampNeg) σ _ (pub_ticks hI (xs (nI i + 1).toNatClampNeg))) ok_X8_ticks ml_L_47 ⟨(Nat.le_of_ble_eq_true rfl), (Nat.le_of_ble_eq_true rfl)⟩ ⟨rfl, rfl⟩ rfl hl.1 rfl (Nat.le_of_ble_eq_true rfl) dL_law_379 (fun r1 σ1 H1 locs1 h1 hw => ?_)
  refine lv_aload_n hx hb dL_law_382 rfl (lv_at hl 2 rfl) ?_
  refine lv_aload_n hx hb dL_law_383 rfl (lv_at hl 0 rfl) ?_
  refine lv_iload_n hx hb dL_law_384 rfl (lv_at hl 3 rfl) ?_
  refine lv_iconst (v := 1) hx hb dL_law_385 (by decide) ?_
  refine lv_iadd hx hb dL_law_386 ?_
  refine law_at C hw hi 1 (by decide) rfl dL_law_387 ?_
  refine law_M (As := [.int (xs (nI i + 1).toNatClampNeg)]) (rest := [.int r1]) C hw (mt_X9_ticks l D q adM (xs (nI i + 1).toNatClampNeg) μ _ h1) ok_X9_ticks ml_L_51 ⟨(Nat.le_of_ble_eq_true rfl), (Nat.le_of_ble_eq_true rfl)⟩ ⟨rfl, rfl⟩ rfl hl.1 rfl (Nat.le_of_ble_eq_true rfl) dL_law_388 (fun r2 μ1 H2 locs2 h2 hw => ?_)
  refine lv_icmp_eq (tgt := 1054) hx hb dL_law_391 (by decide) (fun _ => ?_) (fun hc => absurd h2.1.symm hc)
  exact kk σ1 μ1 H2 locs2 hw h2.2
set_option maxHeartbeats 4000000 in
set_option maxRecDepth 100000 in
theorem law_8 (C : LWC p s m meth c b L xs D q adC adM t aK aV) (hw : LWS D q adC adM s H locs σ μ) (hI : Inv σ μ) (hl : lv_has ls 4 [(0, .ref b), (1, .ref (adC 0 0)), (2, .ref (adM 0 0)), (3, .int (nI i))]) (hi : i + 7 ≤ L) (kk : ∀ (σ' μ' : St) (H' : Heap) (locs' : List Loc), LWS D q adC adM s H' locs' σ' μ' → Inv σ' μ' → W p l e room_1 s m #[Value.ref b] below meth c H' locs' 70 3425 Q (F0 m 1054 ls [])) : W p l e room_1 s m #[Value.ref b] below meth c H locs 70 3425 Q (F0 m 396 ls []) := by
  have S := C.1
  have hx := S.1
  have hb := S.2.1
  refine lv_aload_n hx hb dL_law_396 rfl (lv_at hl 1 rfl) ?_
  refine lv_aload_n hx hb dL_law_397 rfl (lv_at hl 0 rfl) ?_
  refine lv_iload_n hx hb dL_law_398 rfl (lv_at hl 3 rfl) ?_
  refine lv_iconst (v := 1) hx hb dL_law_399 (by decide) ?_
  refine lv_iadd hx hb dL_law_400 ?_
  refine law_at C hw hi 1 (by decide) rfl dL_law_401 ?_
  refine law_C (As := [.int (xs (nI i + 1).toNatClampNeg)]) (rest := []) C hw (mt_X8_now l D q adC t aK aV (xs (nI i + 1).toNatClampNeg) σ _ (pub_now hI (xs (nI i + 1).toNatClampNeg))) ok_X8_now ml_L_52 ⟨(Nat.le_of_ble_eq_true rfl), (Nat.le_of_ble_eq_true rfl)⟩ ⟨rfl, rfl⟩ rfl hl.1 rfl (Nat.le_of_ble_eq_true rfl) dL_law_402 (fun r1 σ1 H1 locs1 h1 hw => ?_)
  refine lv_aload_n hx hb dL_law_405 rfl (lv_at hl 2 rfl) ?_
  refine lv_aload_n hx hb dL_law_406 rfl (lv_at hl 0 rfl) ?_
  refine lv_iload_n hx hb dL_law_407 rfl (lv_at hl 3 rfl) ?_
  refine lv_iconst (v := 1) hx hb dL_law_408 (by decide) ?_
  refine lv_iadd hx hb dL_law_409 ?_
  refine law_at C hw hi 1 (by decide) rfl dL_law_410 ?_
  refine law_M (As := [.int (xs (nI i + 1).toNatClampNeg)]) (rest := [.int r1]) C hw (mt_X9_now l D q adM (xs (nI i + 1).toNatClampNeg) μ _ h1) ok_X9_now ml_L_55 ⟨(Nat.le_of_ble_eq_true rfl), (Nat.le_of_ble_eq_true rfl)⟩ ⟨rfl, rfl⟩ rfl hl.1 rfl (Nat.le_of_ble_eq_true rfl) dL_law_411 (fun r2 μ1 H2 locs2 h2 hw => ?_)
  refine lv_icmp_eq (tgt := 1054) hx hb dL_law_414 (by decide) (fun _ => ?_) (fun hc => absurd h2.1.symm hc)
  exact kk σ1 μ1 H2 locs2 hw h2.2
set_option maxHeartbeats 4000000 in
set_option maxRecDepth 100000 in
theorem law_9 (C : LWC p s m meth c b L xs D q adC adM t aK aV) (hw : LWS D q adC adM s H locs σ μ) (hI : Inv σ μ) (hl : lv_has ls 4 [(0, .ref b), (1, .ref (adC 0 0)), (2, .ref (adM 0 0)), (3, .int (nI i))]) (hi : i + 7 ≤ L) (kk : ∀ (σ' μ' : St) (H' : Heap) (locs' : List Loc), LWS D q adC adM s H' locs' σ' μ' → Inv σ' μ' → W p l e room_1 s m #[Value.ref b] below meth c H' locs' 70 3425 Q (F0 m 1054 ls [])) : W p l e room_1 s m #[Value.ref b] below meth c H locs 70 3425 Q (F0 m 419 ls []) := by
  have S := C.1
  have hx := S.1
  have hb := S.2.1
  refine lv_aload_n hx hb dL_law_419 rfl (lv_at hl 1 rfl) ?_
  refine lv_aload_n hx hb dL_law_420 rfl (lv_at hl 0 rfl) ?_
  refine lv_iload_n hx hb dL_law_421 rfl (lv_at hl 3 rfl) ?_
  refine lv_iconst (v := 1) hx hb dL_law_422 (by decide) ?_
  refine lv_iadd hx hb dL_law_423 ?_
  refine law_at C hw hi 1 (by decide) rfl dL_law_424 ?_
  refine law_C (As := [.int (xs (nI i + 1).toNatClampNeg)]) (rest := []) C hw (mt_X8_keep l D q adC t aK aV (xs (nI i + 1).toNatClampNeg) σ _ (pub_keep hI (xs (nI i + 1).toNatClampNeg))) ok_X8_keep ml_L_56 ⟨(Nat.le_of_ble_eq_true rfl), (Nat.le_of_ble_eq_true rfl)⟩ ⟨rfl, rfl⟩ rfl hl.1 rfl (Nat.le_of_ble_eq_true rfl) dL_law_425 (fun r1 σ1 H1 locs1 h1 hw => ?_)
  refine lv_aload_n hx hb dL_law_428 rfl (lv_at hl 2 rfl) ?_
  refine lv_aload_n hx hb dL_law_429 rfl (lv_at hl 0 rfl) ?_
  refine lv_iload_n hx hb dL_law_430 rfl (lv_at hl 3 rfl) ?_
  refine lv_iconst (v := 1) hx hb dL_law_431 (by decide) ?_
  refine lv_iadd hx hb dL_law_432 ?_
  refine law_at C hw hi 1 (by decide) rfl dL_law_433 ?_
  refine law_M (As := [.int (xs (nI i + 1).toNatClampNeg)]) (rest := [.int r1]) C hw (mt_X9_keep l D q adM (xs (nI i + 1).toNatClampNeg) μ _ h1) ok_X9_keep ml_L_59 ⟨(Nat.le_of_ble_eq_true rfl), (Nat.le_of_ble_eq_true rfl)⟩ ⟨rfl, rfl⟩ rfl hl.1 rfl (Nat.le_of_ble_eq_true rfl) dL_law_434 (fun r2 μ1 H2 locs2 h2 hw => ?_)
  refine lv_icmp_eq (tgt := 1054) hx hb dL_law_437 (by decide) (fun _ => ?_) (fun hc => absurd h2.1.symm hc)
  exact kk σ1 μ1 H2 locs2 hw h2.2
set_option maxHeartbeats 4000000 in
set_option maxRecDepth 100000 in
theorem law_10 (C : LWC p s m meth c b L xs D q adC adM t aK aV) (hw : LWS D q adC adM s H locs σ μ) (hI : Inv σ μ) (hl : lv_has ls 4 [(0, .ref b), (1, .ref (adC 0 0)), (2, .ref (adM 0 0)), (3, .int (nI i))]) (hi : i + 7 ≤ L) (kk : ∀ (σ' μ' : St) (H' : Heap) (locs' : List Loc), LWS D q adC adM s H' locs' σ' μ' → Inv σ' μ' → W p l e room_1 s m #[Value.ref b] below meth c H' locs' 70 3425 Q (F0 m 1054 ls [])) : W p l e room_1 s m #[Value.ref b] below meth c H locs 70 3425 Q (F0 m 442 ls []) := by
  have S := C.1
  have hx := S.1
  have hb := S.2.1
  refine lv_aload_n hx hb dL_law_442 rfl (lv_at hl 1 rfl) ?_
  refine lv_aload_n hx hb dL_law_443 rfl (lv_at hl 0 rfl) ?_
  refine lv_iload_n hx hb dL_law_444 rfl (lv_at hl 3 rfl) ?_
  refine lv_iconst (v := 1) hx hb dL_law_445 (by decide) ?_
  refine lv_iadd hx hb dL_law_446 ?_
  refine law_at C hw hi 1 (by decide) rfl dL_law_447 ?_
  refine law_C (As := [.int (xs (nI i + 1).toNatClampNeg)]) (rest := []) C hw (mt_X8_back l D q adC t aK aV (xs (nI i + 1).toNatClampNeg) σ _ (pub_back hI (xs (nI i + 1).toNatClampNeg))) ok_X8_back ml_L_60 ⟨(Nat.le_of_ble_eq_true rfl), (Nat.le_of_ble_eq_true rfl)⟩ ⟨rfl, rfl⟩ rfl hl.1 rfl (Nat.le_of_ble_eq_true rfl) dL_law_448 (fun r1 σ1 H1 locs1 h1 hw => ?_)
  refine lv_aload_n hx hb dL_law_451 rfl (lv_at hl 2 rfl) ?_
  refine lv_aload_n hx hb dL_law_452 rfl (lv_at hl 0 rfl) ?_
  refine lv_iload_n hx hb dL_law_453 rfl (lv_at hl 3 rfl) ?_
  refine lv_iconst (v := 1) hx hb dL_law_454 (by decide) ?_
  refine lv_iadd hx hb dL_law_455 ?_
  refine law_at C hw hi 1 (by decide) rfl dL_law_456 ?_
  refine law_M (As := [.int (xs (nI i + 1).toNatClampNeg)]) (rest := [.int r1]) C hw (mt_X9_back l D q adM (xs (nI i + 1).toNatClampNeg) μ _ h1) ok_X9_back ml_L_63 ⟨(Nat.le_of_ble_eq_true rfl), (Nat.le_of_ble_eq_true rfl)⟩ ⟨rfl, rfl⟩ rfl hl.1 rfl (Nat.le_of_ble_eq_true rfl) dL_law_457 (fun r2 μ1 H2 locs2 h2 hw => ?_)
  refine lv_icmp_eq (tgt := 1054) hx hb dL_law_460 (by decide) (fun _ => ?_) (fun hc => absurd h2.1.symm hc)
  exact kk σ1 μ1 H2 locs2 hw h2.2
set_option maxHeartbeats 4000000 in
set_option maxRecDepth 100000 in
theorem law_11 (C : LWC p s m meth c b L xs D q adC adM t aK aV) (hw : LWS D q adC adM s H locs σ μ) (hI : Inv σ μ) (hl : lv_has ls 4 [(0, .ref b), (1, .ref (adC 0 0)), (2, .ref (adM 0 0)), (3, .int (nI i))]) (hi : i + 7 ≤ L) (kk : ∀ (σ' μ' : St) (H' : Heap) (locs' : List Loc), LWS D q adC adM s H' locs' σ' μ' → Inv σ' μ' → W p l e room_1 s m #[Value.ref b] below meth c H' locs' 70 3425 Q (F0 m 1054 ls [])) : W p l e room_1 s m #[Value.ref b] below meth c H locs 70 3425 Q (F0 m 465 ls []) := by
  have S := C.1
  have hx := S.1
  have hb := S.2.1
  refine lv_aload_n hx hb dL_law_465 rfl (lv_at hl 1 rfl) ?_
  refine lv_aload_n hx hb dL_law_466 rfl (lv_at hl 0 rfl) ?_
  refine lv_iload_n hx hb dL_law_467 rfl (lv_at hl 3 rfl) ?_
  refine lv_iconst (v := 1) hx hb dL_law_468 (by decide) ?_
  refine lv_iadd hx hb dL_law_469 ?_
  refine law_at C hw hi 1 (by decide) rfl dL_law_470 ?_
  refine lv_aload_n hx hb dL_law_471 rfl (lv_at hl 0 rfl) ?_
  refine lv_iload_n hx hb dL_law_472 rfl (lv_at hl 3 rfl) ?_
  refine lv_iconst (v := 2) hx hb dL_law_473 (by decide) ?_
  refine lv_iadd hx hb dL_law_474 ?_
  refine law_at C hw hi 2 (by decide) rfl dL_law_475 ?_
  refine lv_aload_n hx hb dL_law_476 rfl (lv_at hl 0 rfl) ?_
  refine lv_iload_n hx hb dL_law_477 rfl (lv_at hl 3 rfl) ?_
  refine lv_iconst (v := 3) hx hb dL_law_478 (by decide) ?_
  refine lv_iadd hx hb dL_law_479 ?_
  refine law_at C hw hi 3 (by decide) rfl dL_law_480 ?_
  refine law_C (As := [.int (xs (nI i + 1).toNatClampNeg), .int (xs (nI i + 2).toNatClampNeg), .int (xs (nI i + 3).toNatClampNeg)]) (rest := []) C hw (mt_X8_kept l D q adC t aK aV (xs (nI i + 1).toNatClampNeg) (xs (nI i + 2).toNatClampNeg) (xs (nI i + 3).toNatClampNeg) σ _ (pub_kept hI (xs (nI i + 1).toNatClampNeg) (xs (nI i + 2).toNatClampNeg) (xs (nI i + 3).toNatClampNeg))) ok_X8_kept ml_L_64 ⟨(Nat.le_of_ble_eq_true rfl), (Nat.le_of_ble_eq_true rfl)⟩ ⟨rfl, rfl⟩ rfl hl.1 rfl (Nat.le_of_ble_eq_true rfl) dL_law_481 (fun r1 σ1 H1 locs1 h1 hw => ?_)
  refine lv_aload_n hx hb dL_law_484 rfl (lv_at hl 2 rfl) ?_
  refine lv_aload_n hx hb dL_law_485 rfl (lv_at hl 0 rfl) ?_
  refine lv_iload_n hx hb dL_law_486 rfl (lv_at hl 3 rfl) ?_
  refine lv_iconst (v := 1) hx hb dL_law_487 (by decide) ?_
  refine lv_iadd hx hb dL_law_488 ?_
  refine law_at C hw hi 1 (by decide) rfl dL_law_489 ?_
  refine lv_aload_n hx hb dL_law_490 rfl (lv_at hl 0 rfl) ?_
  refine lv_iload_n hx hb dL_law_491 rfl (lv_at hl 3 rfl) ?_
  refine lv_iconst (v := 2) hx hb dL_law_492 (by decide) ?_
  refine lv_iadd hx hb dL_law_493 ?_
  refine law_at C hw hi 2 (by decide) rfl dL_law_494 ?_
  refine lv_aload_n hx hb dL_law_495 rfl (lv_at hl 0 rfl) ?_
  refine lv_iload_n hx hb dL_law_496 rfl (lv_at hl 3 rfl) ?_
  refine lv_iconst (v := 3) hx hb dL_law_497 (by decide) ?_
  refine lv_iadd hx hb dL_law_498 ?_
  refine law_at C hw hi 3 (by decide) rfl dL_law_499 ?_
  refine law_M (As := [.int (xs (nI i + 1).toNatClampNeg), .int (xs (nI i + 2).toNatClampNeg), .int (xs (nI i + 3).toNatClampNeg)]) (rest := [.int r1]) C hw (mt_X9_kept l D q adM (xs (nI i + 1).toNatClampNeg) (xs (nI i + 2).toNatClampNeg) (xs (nI i + 3).toNatClampNeg) μ _ h1) ok_X9_kept ml_L_67 ⟨(Nat.le_of_ble_eq_true rfl), (Nat.le_of_ble_eq_true rfl)⟩ ⟨rfl, rfl⟩ rfl hl.1 rfl (Nat.le_of_ble_eq_true rfl) dL_law_500 (fun r2 μ1 H2 locs2 h2 hw => ?_)
  refine lv_icmp_eq (tgt := 1054) hx hb dL_law_503 (by decide) (fun _ => ?_) (fun hc => absurd h2.1.symm hc)
  exact kk σ1 μ1 H2 locs2 hw h2.2
set_option maxHeartbeats 4000000 in
set_option maxRecDepth 100000 in
theorem law_12 (C : LWC p s m meth c b L xs D q adC adM t aK aV) (hw : LWS D q adC adM s H locs σ μ) (hI : Inv σ μ) (hl : lv_has ls 4 [(0, .ref b), (1, .ref (adC 0 0)), (2, .ref (adM 0 0)), (3, .int (nI i))]) (hi : i + 7 ≤ L) (kk : ∀ (σ' μ' : St) (H' : Heap) (locs' : List Loc), LWS D q adC adM s H' locs' σ' μ' → Inv σ' μ' → W p l e room_1 s m #[Value.ref b] below meth c H' locs' 70 3425 Q (F0 m 1054 ls [])) : W p l e room_1 s m #[Value.ref b] below meth c H locs 70 3425 Q (F0 m 508 ls []) := by
  have S := C.1
  have hx := S.1
  have hb := S.2.1
  refine lv_aload_n hx hb dL_law_508 rfl (lv_at hl 1 rfl) ?_
  refine lv_aload_n hx hb dL_law_509 rfl (lv_at hl 0 rfl) ?_
  refine lv_iload_n hx hb dL_law_510 rfl (lv_at hl 3 rfl) ?_
  refine lv_iconst (v := 1) hx hb dL_law_511 (by decide) ?_
  refine lv_iadd hx hb dL_law_512 ?_
  refine law_at C hw hi 1 (by decide) rfl dL_law_513 ?_
  refine lv_aload_n hx hb dL_law_514 rfl (lv_at hl 0 rfl) ?_
  refine lv_iload_n hx hb dL_law_515 rfl (lv_at hl 3 rfl) ?_
  refine lv_iconst (v := 2) hx hb dL_law_516 (by decide) ?_
  refine lv_iadd hx hb dL_law_517 ?_
  refine law_at C hw hi 2 (by decide) rfl dL_law_518 ?_
  refine law_C (As := [.int (xs (nI i + 1).toNatClampNeg), .int (xs (nI i + 2).toNatClampNeg)]) (rest := []) C hw (mt_X8_steady l D q adC t aK aV (xs (nI i + 1).toNatClampNeg) (xs (nI i + 2).toNatClampNeg) σ _ (pub_steady hI (xs (nI i + 1).toNatClampNeg) (xs (nI i + 2).toNatClampNeg))) ok_X8_steady ml_L_68 ⟨(Nat.le_of_ble_eq_true rfl), (Nat.le_of_ble_eq_true rfl)⟩ ⟨rfl, rfl⟩ rfl hl.1 rfl (Nat.le_of_ble_eq_true rfl) dL_law_519 (fun r1 σ1 H1 locs1 h1 hw => ?_)
  refine lv_aload_n hx hb dL_law_522 rfl (lv_at hl 2 rfl) ?_
  refine lv_aload_n hx hb dL_law_523 rfl (lv_at hl 0 rfl) ?_
  refine lv_iload_n hx hb dL_law_524 rfl (lv_at hl 3 rfl) ?_
  refine lv_iconst (v := 1) hx hb dL_law_525 (by decide) ?_
  refine lv_iadd hx hb dL_law_526 ?_
  refine law_at C hw hi 1 (by decide) rfl dL_law_527 ?_
  refine lv_aload_n hx hb dL_law_528 rfl (lv_at hl 0 rfl) ?_
  refine lv_iload_n hx hb dL_law_529 rfl (lv_at hl 3 rfl) ?_
  refine lv_iconst (v := 2) hx hb dL_law_530 (by decide) ?_
  refine lv_iadd hx hb dL_law_531 ?_
  refine law_at C hw hi 2 (by decide) rfl dL_law_532 ?_
  refine law_M (As := [.int (xs (nI i + 1).toNatClampNeg), .int (xs (nI i + 2).toNatClampNeg)]) (rest := [.int r1]) C hw (mt_X9_steady l D q adM (xs (nI i + 1).toNatClampNeg) (xs (nI i + 2).toNatClampNeg) μ _ h1) ok_X9_steady ml_L_71 ⟨(Nat.le_of_ble_eq_true rfl), (Nat.le_of_ble_eq_true rfl)⟩ ⟨rfl, rfl⟩ rfl hl.1 rfl (Nat.le_of_ble_eq_true rfl) dL_law_533 (fun r2 μ1 H2 locs2 h2 hw => ?_)
  refine lv_icmp_eq (tgt := 1054) hx hb dL_law_536 (by decide) (fun _ => ?_) (fun hc => absurd h2.1.symm hc)
  exact kk σ1 μ1 H2 locs2 hw h2.2
set_option maxHeartbeats 4000000 in
set_option maxRecDepth 100000 in
theorem law_13 (C : LWC p s m meth c b L xs D q adC adM t aK aV) (hw : LWS D q adC adM s H locs σ μ) (hI : Inv σ μ) (hl : lv_has ls 4 [(0, .ref b), (1, .ref (adC 0 0)), (2, .ref (adM 0 0)), (3, .int (nI i))]) (hi : i + 7 ≤ L) (kk : ∀ (σ' μ' : St) (H' : Heap) (locs' : List Loc), LWS D q adC adM s H' locs' σ' μ' → Inv σ' μ' → W p l e room_1 s m #[Value.ref b] below meth c H' locs' 70 3425 Q (F0 m 1054 ls [])) : W p l e room_1 s m #[Value.ref b] below meth c H locs 70 3425 Q (F0 m 541 ls []) := by
  have S := C.1
  have hx := S.1
  have hb := S.2.1
  refine lv_aload_n hx hb dL_law_541 rfl (lv_at hl 1 rfl) ?_
  refine lv_aload_n hx hb dL_law_542 rfl (lv_at hl 0 rfl) ?_
  refine lv_iload_n hx hb dL_law_543 rfl (lv_at hl 3 rfl) ?_
  refine lv_iconst (v := 1) hx hb dL_law_544 (by decide) ?_
  refine lv_iadd hx hb dL_law_545 ?_
  refine law_at C hw hi 1 (by decide) rfl dL_law_546 ?_
  refine law_C (As := [.int (xs (nI i + 1).toNatClampNeg)]) (rest := []) C hw (mt_X8_line l D q adC t aK aV (xs (nI i + 1).toNatClampNeg) σ _ (pub_line hI (xs (nI i + 1).toNatClampNeg))) ok_X8_line ml_L_72 ⟨(Nat.le_of_ble_eq_true rfl), (Nat.le_of_ble_eq_true rfl)⟩ ⟨rfl, rfl⟩ rfl hl.1 rfl (Nat.le_of_ble_eq_true rfl) dL_law_547 (fun r1 σ1 H1 locs1 h1 hw => ?_)
  refine lv_aload_n hx hb dL_law_550 rfl (lv_at hl 2 rfl) ?_
  refine lv_aload_n hx hb dL_law_551 rfl (lv_at hl 0 rfl) ?_
  refine lv_iload_n hx hb dL_law_552 rfl (lv_at hl 3 rfl) ?_
  refine lv_iconst (v := 1) hx hb dL_law_553 (by decide) ?_
  refine lv_iadd hx hb dL_law_554 ?_
  refine law_at C hw hi 1 (by decide) rfl dL_law_555 ?_
  refine law_M (As := [.int (xs (nI i + 1).toNatClampNeg)]) (rest := [.int r1]) C hw (mt_X9_line l D q adM (xs (nI i + 1).toNatClampNeg) μ _ h1) ok_X9_line ml_L_75 ⟨(Nat.le_of_ble_eq_true rfl), (Nat.le_of_ble_eq_true rfl)⟩ ⟨rfl, rfl⟩ rfl hl.1 rfl (Nat.le_of_ble_eq_true rfl) dL_law_556 (fun r2 μ1 H2 locs2 h2 hw => ?_)
  refine lv_icmp_eq (tgt := 1054) hx hb dL_law_559 (by decide) (fun _ => ?_) (fun hc => absurd h2.1.symm hc)
  exact kk σ1 μ1 H2 locs2 hw h2.2
set_option maxHeartbeats 4000000 in
set_option maxRecDepth 100000 in
theorem law_14 (C : LWC p s m meth c b L xs D q adC adM t aK aV) (hw : LWS D q adC adM s H locs σ μ) (hI : Inv σ μ) (hl : lv_has ls 4 [(0, .ref b), (1, .ref (adC 0 0)), (2, .ref (adM 0 0)), (3, .int (nI i))]) (hi : i + 7 ≤ L) (kk : ∀ (σ' μ' : St) (H' : Heap) (locs' : List Loc), LWS D q adC adM s H' locs' σ' μ' → Inv σ' μ' → W p l e room_1 s m #[Value.ref b] below meth c H' locs' 70 3425 Q (F0 m 1054 ls [])) : W p l e room_1 s m #[Value.ref b] below meth c H locs 70 3425 Q (F0 m 564 ls []) := by
  have S := C.1
  have hx := S.1
  have hb := S.2.1
  refine lv_aload_n hx hb dL_law_564 rfl (lv_at hl 1 rfl) ?_
  refine lv_aload_n hx hb dL_law_565 rfl (lv_at hl 0 rfl) ?_
  refine lv_iload_n hx hb dL_law_566 rfl (lv_at hl 3 rfl) ?_
  refine lv_iconst (v := 1) hx hb dL_law_567 (by decide) ?_
  refine lv_iadd hx hb dL_law_568 ?_
  refine law_at C hw hi 1 (by decide) rfl dL_law_569 ?_
  refine lv_aload_n hx hb dL_law_570 rfl (lv_at hl 0 rfl) ?_
  refine lv_iload_n hx hb dL_law_571 rfl (lv_at hl 3 rfl) ?_
  refine lv_iconst (v := 2) hx hb dL_law_572 (by decide) ?_
  refine lv_iadd hx hb dL_law_573 ?_
  refine law_at C hw hi 2 (by decide) rfl dL_law_574 ?_
  refine lv_aload_n hx hb dL_law_575 rfl (lv_at hl 0 rfl) ?_
  refine lv_iload_n hx hb dL_law_576 rfl (lv_at hl 3 rfl) ?_
  refine lv_iconst (v := 3) hx hb dL_law_577 (by decide) ?_
  refine lv_iadd hx hb dL_law_578 ?_
  refine law_at C hw hi 3 (by decide) rfl dL_law_579 ?_
  refine law_C (As := [.int (xs (nI i + 1).toNatClampNeg), .int (xs (nI i + 2).toNatClampNeg), .int (xs (nI i + 3).toNatClampNeg)]) (rest := []) C hw (mt_X8_best l D q adC t aK aV (xs (nI i + 1).toNatClampNeg) (xs (nI i + 2).toNatClampNeg) (xs (nI i + 3).toNatClampNeg) σ _ (pub_best hI (xs (nI i + 1).toNatClampNeg) (xs (nI i + 2).toNatClampNeg) (xs (nI i + 3).toNatClampNeg))) ok_X8_best ml_L_76 ⟨(Nat.le_of_ble_eq_true rfl), (Nat.le_of_ble_eq_true rfl)⟩ ⟨rfl, rfl⟩ rfl hl.1 rfl (Nat.le_of_ble_eq_true rfl) dL_law_580 (fun r1 σ1 H1 locs1 h1 hw => ?_)
  refine lv_aload_n hx hb dL_law_583 rfl (lv_at hl 2 rfl) ?_
  refine lv_aload_n hx hb dL_law_584 rfl (lv_at hl 0 rfl) ?_
  refine lv_iload_n hx hb dL_law_585 rfl (lv_at hl 3 rfl) ?_
  refine lv_iconst (v := 1) hx hb dL_law_586 (by decide) ?_
  refine lv_iadd hx hb dL_law_587 ?_
  refine law_at C hw hi 1 (by decide) rfl dL_law_588 ?_
  refine lv_aload_n hx hb dL_law_589 rfl (lv_at hl 0 rfl) ?_
  refine lv_iload_n hx hb dL_law_590 rfl (lv_at hl 3 rfl) ?_
  refine lv_iconst (v := 2) hx hb dL_law_591 (by decide) ?_
  refine lv_iadd hx hb dL_law_592 ?_
  refine law_at C hw hi 2 (by decide) rfl dL_law_593 ?_
  refine lv_aload_n hx hb dL_law_594 rfl (lv_at hl 0 rfl) ?_
  refine lv_iload_n hx hb dL_law_595 rfl (lv_at hl 3 rfl) ?_
  refine lv_iconst (v := 3) hx hb dL_law_596 (by decide) ?_
  refine lv_iadd hx hb dL_law_597 ?_
  refine law_at C hw hi 3 (by decide) rfl dL_law_598 ?_
  refine law_M (As := [.int (xs (nI i + 1).toNatClampNeg), .int (xs (nI i + 2).toNatClampNeg), .int (xs (nI i + 3).toNatClampNeg)]) (rest := [.int r1]) C hw (mt_X9_best l D q adM (xs (nI i + 1).toNatClampNeg) (xs (nI i + 2).toNatClampNeg) (xs (nI i + 3).toNatClampNeg) μ _ h1) ok_X9_best ml_L_79 ⟨(Nat.le_of_ble_eq_true rfl), (Nat.le_of_ble_eq_true rfl)⟩ ⟨rfl, rfl⟩ rfl hl.1 rfl (Nat.le_of_ble_eq_true rfl) dL_law_599 (fun r2 μ1 H2 locs2 h2 hw => ?_)
  refine lv_icmp_eq (tgt := 1054) hx hb dL_law_602 (by decide) (fun _ => ?_) (fun hc => absurd h2.1.symm hc)
  exact kk σ1 μ1 H2 locs2 hw h2.2
set_option maxHeartbeats 4000000 in
set_option maxRecDepth 100000 in
theorem law_15 (C : LWC p s m meth c b L xs D q adC adM t aK aV) (hw : LWS D q adC adM s H locs σ μ) (hI : Inv σ μ) (hl : lv_has ls 4 [(0, .ref b), (1, .ref (adC 0 0)), (2, .ref (adM 0 0)), (3, .int (nI i))]) (hi : i + 7 ≤ L) (kk : ∀ (σ' μ' : St) (H' : Heap) (locs' : List Loc), LWS D q adC adM s H' locs' σ' μ' → Inv σ' μ' → W p l e room_1 s m #[Value.ref b] below meth c H' locs' 70 3425 Q (F0 m 1054 ls [])) : W p l e room_1 s m #[Value.ref b] below meth c H locs 70 3425 Q (F0 m 607 ls []) := by
  have S := C.1
  have hx := S.1
  have hb := S.2.1
  refine lv_aload_n hx hb dL_law_607 rfl (lv_at hl 1 rfl) ?_
  refine lv_aload_n hx hb dL_law_608 rfl (lv_at hl 0 rfl) ?_
  refine lv_iload_n hx hb dL_law_609 rfl (lv_at hl 3 rfl) ?_
  refine lv_iconst (v := 1) hx hb dL_law_610 (by decide) ?_
  refine lv_iadd hx hb dL_law_611 ?_
  refine law_at C hw hi 1 (by decide) rfl dL_law_612 ?_
  refine lv_aload_n hx hb dL_law_613 rfl (lv_at hl 0 rfl) ?_
  refine lv_iload_n hx hb dL_law_614 rfl (lv_at hl 3 rfl) ?_
  refine lv_iconst (v := 2) hx hb dL_law_615 (by decide) ?_
  refine lv_iadd hx hb dL_law_616 ?_
  refine law_at C hw hi 2 (by decide) rfl dL_law_617 ?_
  refine lv_aload_n hx hb dL_law_618 rfl (lv_at hl 0 rfl) ?_
  refine lv_iload_n hx hb dL_law_619 rfl (lv_at hl 3 rfl) ?_
  refine lv_iconst (v := 3) hx hb dL_law_620 (by decide) ?_
  refine lv_iadd hx hb dL_law_621 ?_
  refine law_at C hw hi 3 (by decide) rfl dL_law_622 ?_
  refine lv_aload_n hx hb dL_law_623 rfl (lv_at hl 0 rfl) ?_
  refine lv_iload_n hx hb dL_law_624 rfl (lv_at hl 3 rfl) ?_
  refine lv_iconst (v := 4) hx hb dL_law_625 (by decide) ?_
  refine lv_iadd hx hb dL_law_626 ?_
  refine law_at C hw hi 4 (by decide) rfl dL_law_627 ?_
  refine lv_aload_n hx hb dL_law_628 rfl (lv_at hl 0 rfl) ?_
  refine lv_iload_n hx hb dL_law_629 rfl (lv_at hl 3 rfl) ?_
  refine lv_iconst (v := 5) hx hb dL_law_630 (by decide) ?_
  refine lv_iadd hx hb dL_law_631 ?_
  refine law_at C hw hi 5 (by decide) rfl dL_law_632 ?_
  refine lv_aload_n hx hb dL_law_633 rfl (lv_at hl 0 rfl) ?_
  refine lv_iload_n hx hb dL_law_634 rfl (lv_at hl 3 rfl) ?_
  refine lv_bipush (v := 6) hx hb dL_law_635 (by decide) ?_
  refine lv_iadd hx hb dL_law_637 ?_
  refine law_at C hw hi 6 (by decide) rfl dL_law_638 ?_
  refine law_C (As := [.int (xs (nI i + 1).toNatClampNeg), .int (xs (nI i + 2).toNatClampNeg), .int (xs (nI i + 3).toNatClampNeg), .int (xs (nI i + 4).toNatClampNeg), .int (xs (nI i + 5).toNatClampNeg), .int (xs (nI i + 6).toNatClampNeg)]) (rest := []) C hw (mt_X8_odds l D q adC t aK aV (xs (nI i + 1).toNatClampNeg) (xs (nI i + 2).toNatClampNeg) (xs (nI i + 3).toNatClampNeg) (xs (nI i + 4).toNatClampNeg) (xs (nI i + 5).toNatClampNeg) (xs (nI i + 6).toNatClampNeg) σ _ (pub_odds hI (xs (nI i + 1).toNatClampNeg) (xs (nI i + 2).toNatClampNeg) (xs (nI i + 3).toNatClampNeg) (xs (nI i + 4).toNatClampNeg) (xs (nI i + 5).toNatClampNeg) (xs (nI i + 6).toNatClampNeg))) ok_X8_odds ml_L_80 ⟨(Nat.le_of_ble_eq_true rfl), (Nat.le_of_ble_eq_true rfl)⟩ ⟨rfl, rfl⟩ rfl hl.1 rfl (Nat.le_of_ble_eq_true rfl) dL_law_639 (fun r1 σ1 H1 locs1 h1 hw => ?_)
  refine lv_aload_n hx hb dL_law_642 rfl (lv_at hl 2 rfl) ?_
  refine lv_aload_n hx hb dL_law_643 rfl (lv_at hl 0 rfl) ?_
  refine lv_iload_n hx hb dL_law_644 rfl (lv_at hl 3 rfl) ?_
  refine lv_iconst (v := 1) hx hb dL_law_645 (by decide) ?_
  refine lv_iadd hx hb dL_law_646 ?_
  refine law_at C hw hi 1 (by decide) rfl dL_law_647 ?_
  refine lv_aload_n hx hb dL_law_648 rfl (lv_at hl 0 rfl) ?_
  refine lv_iload_n hx hb dL_law_649 rfl (lv_at hl 3 rfl) ?_
  refine lv_iconst (v := 2) hx hb dL_law_650 (by decide) ?_
  refine lv_iadd hx hb dL_law_651 ?_
  refine law_at C hw hi 2 (by decide) rfl dL_law_652 ?_
  refine lv_aload_n hx hb dL_law_653 rfl (lv_at hl 0 rfl) ?_
  refine lv_iload_n hx hb dL_law_654 rfl (lv_at hl 3 rfl) ?_
  refine lv_iconst (v := 3) hx hb dL_law_655 (by decide) ?_
  refine lv_iadd hx hb dL_law_656 ?_
  refine law_at C hw hi 3 (by decide) rfl dL_law_657 ?_
  refine lv_aload_n hx hb dL_law_658 rfl (lv_at hl 0 rfl) ?_
  refine lv_iload_n hx hb dL_law_659 rfl (lv_at hl 3 rfl) ?_
  refine lv_iconst (v := 4) hx hb dL_law_660 (by decide) ?_
  refine lv_iadd hx hb dL_law_661 ?_
  refine law_at C hw hi 4 (by decide) rfl dL_law_662 ?_
  refine lv_aload_n hx hb dL_law_663 rfl (lv_at hl 0 rfl) ?_
  refine lv_iload_n hx hb dL_law_664 rfl (lv_at hl 3 rfl) ?_
  refine lv_iconst (v := 5) hx hb dL_law_665 (by decide) ?_
  refine lv_iadd hx hb dL_law_666 ?_
  refine law_at C hw hi 5 (by decide) rfl dL_law_667 ?_
  refine lv_aload_n hx hb dL_law_668 rfl (lv_at hl 0 rfl) ?_
  refine lv_iload_n hx hb dL_law_669 rfl (lv_at hl 3 rfl) ?_
  refine lv_bipush (v := 6) hx hb dL_law_670 (by decide) ?_
  refine lv_iadd hx hb dL_law_672 ?_
  refine law_at C hw hi 6 (by decide) rfl dL_law_673 ?_
  refine law_M (As := [.int (xs (nI i + 1).toNatClampNeg), .int (xs (nI i + 2).toNatClampNeg), .int (xs (nI i + 3).toNatClampNeg), .int (xs (nI i + 4).toNatClampNeg), .int (xs (nI i + 5).toNatClampNeg), .int (xs (nI i + 6).toNatClampNeg)]) (rest := [.int r1]) C hw (mt_X9_odds l D q adM (xs (nI i + 1).toNatClampNeg) (xs (nI i + 2).toNatClampNeg) (xs (nI i + 3).toNatClampNeg) (xs (nI i + 4).toNatClampNeg) (xs (nI i + 5).toNatClampNeg) (xs (nI i + 6).toNatClampNeg) μ _ h1) ok_X9_odds ml_L_84 ⟨(Nat.le_of_ble_eq_true rfl), (Nat.le_of_ble_eq_true rfl)⟩ ⟨rfl, rfl⟩ rfl hl.1 rfl (Nat.le_of_ble_eq_true rfl) dL_law_674 (fun r2 μ1 H2 locs2 h2 hw => ?_)
  refine lv_icmp_eq (tgt := 1054) hx hb dL_law_677 (by decide) (fun _ => ?_) (fun hc => absurd h2.1.symm hc)
  exact kk σ1 μ1 H2 locs2 hw h2.2
set_option maxHeartbeats 4000000 in
set_option maxRecDepth 100000 in
theorem law_16 (C : LWC p s m meth c b L xs D q adC adM t aK aV) (hw : LWS D q adC adM s H locs σ μ) (hI : Inv σ μ) (hl : lv_has ls 4 [(0, .ref b), (1, .ref (adC 0 0)), (2, .ref (adM 0 0)), (3, .int (nI i))]) (hi : i + 7 ≤ L) (kk : ∀ (σ' μ' : St) (H' : Heap) (locs' : List Loc), LWS D q adC adM s H' locs' σ' μ' → Inv σ' μ' → W p l e room_1 s m #[Value.ref b] below meth c H' locs' 70 3425 Q (F0 m 1054 ls [])) : W p l e room_1 s m #[Value.ref b] below meth c H locs 70 3425 Q (F0 m 682 ls []) := by
  have S := C.1
  have hx := S.1
  have hb := S.2.1
  refine lv_aload_n hx hb dL_law_682 rfl (lv_at hl 1 rfl) ?_
  refine lv_aload_n hx hb dL_law_683 rfl (lv_at hl 0 rfl) ?_
  refine lv_iload_n hx hb dL_law_684 rfl (lv_at hl 3 rfl) ?_
  refine lv_iconst (v := 1) hx hb dL_law_685 (by decide) ?_
  refine lv_iadd hx hb dL_law_686 ?_
  refine law_at C hw hi 1 (by decide) rfl dL_law_687 ?_
  refine lv_aload_n hx hb dL_law_688 rfl (lv_at hl 0 rfl) ?_
  refine lv_iload_n hx hb dL_law_689 rfl (lv_at hl 3 rfl) ?_
  refine lv_iconst (v := 2) hx hb dL_law_690 (by decide) ?_
  refine lv_iadd hx hb dL_law_691 ?_
  refine law_at C hw hi 2 (by decide) rfl dL_law_692 ?_
  refine law_C (As := [.int (xs (nI i + 1).toNatClampNeg), .int (xs (nI i + 2).toNatClampNeg)]) (rest := []) C hw (mt_X8_stands l D q adC t aK aV (xs (nI i + 1).toNatClampNeg) (xs (nI i + 2).toNatClampNeg) σ _ (pub_stands hI (xs (nI i + 1).toNatClampNeg) (xs (nI i + 2).toNatClampNeg))) ok_X8_stands ml_L_85 ⟨(Nat.le_of_ble_eq_true rfl), (Nat.le_of_ble_eq_true rfl)⟩ ⟨rfl, rfl⟩ rfl hl.1 rfl (Nat.le_of_ble_eq_true rfl) dL_law_693 (fun r1 σ1 H1 locs1 h1 hw => ?_)
  refine lv_aload_n hx hb dL_law_696 rfl (lv_at hl 2 rfl) ?_
  refine lv_aload_n hx hb dL_law_697 rfl (lv_at hl 0 rfl) ?_
  refine lv_iload_n hx hb dL_law_698 rfl (lv_at hl 3 rfl) ?_
  refine lv_iconst (v := 1) hx hb dL_law_699 (by decide) ?_
  refine lv_iadd hx hb dL_law_700 ?_
  refine law_at C hw hi 1 (by decide) rfl dL_law_701 ?_
  refine lv_aload_n hx hb dL_law_702 rfl (lv_at hl 0 rfl) ?_
  refine lv_iload_n hx hb dL_law_703 rfl (lv_at hl 3 rfl) ?_
  refine lv_iconst (v := 2) hx hb dL_law_704 (by decide) ?_
  refine lv_iadd hx hb dL_law_705 ?_
  refine law_at C hw hi 2 (by decide) rfl dL_law_706 ?_
  refine law_M (As := [.int (xs (nI i + 1).toNatClampNeg), .int (xs (nI i + 2).toNatClampNeg)]) (rest := [.int r1]) C hw (mt_X9_stands l D q adM (xs (nI i + 1).toNatClampNeg) (xs (nI i + 2).toNatClampNeg) μ _ h1) ok_X9_stands ml_L_88 ⟨(Nat.le_of_ble_eq_true rfl), (Nat.le_of_ble_eq_true rfl)⟩ ⟨rfl, rfl⟩ rfl hl.1 rfl (Nat.le_of_ble_eq_true rfl) dL_law_707 (fun r2 μ1 H2 locs2 h2 hw => ?_)
  refine lv_icmp_eq (tgt := 1054) hx hb dL_law_710 (by decide) (fun _ => ?_) (fun hc => absurd h2.1.symm hc)
  exact kk σ1 μ1 H2 locs2 hw h2.2
set_option maxHeartbeats 4000000 in
set_option maxRecDepth 100000 in
theorem law_17 (C : LWC p s m meth c b L xs D q adC adM t aK aV) (hw : LWS D q adC adM s H locs σ μ) (hI : Inv σ μ) (hl : lv_has ls 4 [(0, .ref b), (1, .ref (adC 0 0)), (2, .ref (adM 0 0)), (3, .int (nI i))]) (hi : i + 7 ≤ L) (kk : ∀ (σ' μ' : St) (H' : Heap) (locs' : List Loc), LWS D q adC adM s H' locs' σ' μ' → Inv σ' μ' → W p l e room_1 s m #[Value.ref b] below meth c H' locs' 70 3425 Q (F0 m 1054 ls [])) : W p l e room_1 s m #[Value.ref b] below meth c H locs 70 3425 Q (F0 m 715 ls []) := by
  have S := C.1
  have hx := S.1
  have hb := S.2.1
  refine lv_aload_n hx hb dL_law_715 rfl (lv_at hl 1 rfl) ?_
  refine lv_aload_n hx hb dL_law_716 rfl (lv_at hl 0 rfl) ?_
  refine lv_iload_n hx hb dL_law_717 rfl (lv_at hl 3 rfl) ?_
  refine lv_iconst (v := 1) hx hb dL_law_718 (by decide) ?_
  refine lv_iadd hx hb dL_law_719 ?_
  refine law_at C hw hi 1 (by decide) rfl dL_law_720 ?_
  refine lv_aload_n hx hb dL_law_721 rfl (lv_at hl 0 rfl) ?_
  refine lv_iload_n hx hb dL_law_722 rfl (lv_at hl 3 rfl) ?_
  refine lv_iconst (v := 2) hx hb dL_law_723 (by decide) ?_
  refine lv_iadd hx hb dL_law_724 ?_
  refine law_at C hw hi 2 (by decide) rfl dL_law_725 ?_
  refine lv_aload_n hx hb dL_law_726 rfl (lv_at hl 0 rfl) ?_
  refine lv_iload_n hx hb dL_law_727 rfl (lv_at hl 3 rfl) ?_
  refine lv_iconst (v := 3) hx hb dL_law_728 (by decide) ?_
  refine lv_iadd hx hb dL_law_729 ?_
  refine law_at C hw hi 3 (by decide) rfl dL_law_730 ?_
  refine lv_aload_n hx hb dL_law_731 rfl (lv_at hl 0 rfl) ?_
  refine lv_iload_n hx hb dL_law_732 rfl (lv_at hl 3 rfl) ?_
  refine lv_iconst (v := 4) hx hb dL_law_733 (by decide) ?_
  refine lv_iadd hx hb dL_law_734 ?_
  refine law_at C hw hi 4 (by decide) rfl dL_law_735 ?_
  refine lv_aload_n hx hb dL_law_736 rfl (lv_at hl 0 rfl) ?_
  refine lv_iload_n hx hb dL_law_737 rfl (lv_at hl 3 rfl) ?_
  refine lv_iconst (v := 5) hx hb dL_law_738 (by decide) ?_
  refine lv_iadd hx hb dL_law_739 ?_
  refine law_at C hw hi 5 (by decide) rfl dL_law_740 ?_
  refine lv_aload_n hx hb dL_law_741 rfl (lv_at hl 0 rfl) ?_
  refine lv_iload_n hx hb dL_law_742 rfl (lv_at hl 3 rfl) ?_
  refine lv_bipush (v := 6) hx hb dL_law_743 (by decide) ?_
  refine lv_iadd hx hb dL_law_745 ?_
  refine law_at C hw hi 6 (by decide) rfl dL_law_746 ?_
  refine law_C (As := [.int (xs (nI i + 1).toNatClampNeg), .int (xs (nI i + 2).toNatClampNeg), .int (xs (nI i + 3).toNatClampNeg), .int (xs (nI i + 4).toNatClampNeg), .int (xs (nI i + 5).toNatClampNeg), .int (xs (nI i + 6).toNatClampNeg)]) (rest := []) C hw (mt_X8_two l D q adC t aK aV (xs (nI i + 1).toNatClampNeg) (xs (nI i + 2).toNatClampNeg) (xs (nI i + 3).toNatClampNeg) (xs (nI i + 4).toNatClampNeg) (xs (nI i + 5).toNatClampNeg) (xs (nI i + 6).toNatClampNeg) σ _ (pub_two hI (xs (nI i + 1).toNatClampNeg) (xs (nI i + 2).toNatClampNeg) (xs (nI i + 3).toNatClampNeg) (xs (nI i + 4).toNatClampNeg) (xs (nI i + 5).toNatClampNeg) (xs (nI i + 6).toNatClampNeg))) ok_X8_two ml_L_89 ⟨(Nat.le_of_ble_eq_true rfl), (Nat.le_of_ble_eq_true rfl)⟩ ⟨rfl, rfl⟩ rfl hl.1 rfl (Nat.le_of_ble_eq_true rfl) dL_law_747 (fun r1 σ1 H1 locs1 h1 hw => ?_)
  refine lv_aload_n hx hb dL_law_750 rfl (lv_at hl 2 rfl) ?_
  refine lv_aload_n hx hb dL_law_751 rfl (lv_at hl 0 rfl) ?_
  refine lv_iload_n hx hb dL_law_752 rfl (lv_at hl 3 rfl) ?_
  refine lv_iconst (v := 1) hx hb dL_law_753 (by decide) ?_
  refine lv_iadd hx hb dL_law_754 ?_
  refine law_at C hw hi 1 (by decide) rfl dL_law_755 ?_
  refine lv_aload_n hx hb dL_law_756 rfl (lv_at hl 0 rfl) ?_
  refine lv_iload_n hx hb dL_law_757 rfl (lv_at hl 3 rfl) ?_
  refine lv_iconst (v := 2) hx hb dL_law_758 (by decide) ?_
  refine lv_iadd hx hb dL_law_759 ?_
  refine law_at C hw hi 2 (by decide) rfl dL_law_760 ?_
  refine lv_aload_n hx hb dL_law_761 rfl (lv_at hl 0 rfl) ?_
  refine lv_iload_n hx hb dL_law_762 rfl (lv_at hl 3 rfl) ?_
  refine lv_iconst (v := 3) hx hb dL_law_763 (by decide) ?_
  refine lv_iadd hx hb dL_law_764 ?_
  refine law_at C hw hi 3 (by decide) rfl dL_law_765 ?_
  refine lv_aload_n hx hb dL_law_766 rfl (lv_at hl 0 rfl) ?_
  refine lv_iload_n hx hb dL_law_767 rfl (lv_at hl 3 rfl) ?_
  refine lv_iconst (v := 4) hx hb dL_law_768 (by decide) ?_
  refine lv_iadd hx hb dL_law_769 ?_
  refine law_at C hw hi 4 (by decide) rfl dL_law_770 ?_
  refine lv_aload_n hx hb dL_law_771 rfl (lv_at hl 0 rfl) ?_
  refine lv_iload_n hx hb dL_law_772 rfl (lv_at hl 3 rfl) ?_
  refine lv_iconst (v := 5) hx hb dL_law_773 (by decide) ?_
  refine lv_iadd hx hb dL_law_774 ?_
  refine law_at C hw hi 5 (by decide) rfl dL_law_775 ?_
  refine lv_aload_n hx hb dL_law_776 rfl (lv_at hl 0 rfl) ?_
  refine lv_iload_n hx hb dL_law_777 rfl (lv_at hl 3 rfl) ?_
  refine lv_bipush (v := 6) hx hb dL_law_778 (by decide) ?_
  refine lv_iadd hx hb dL_law_780 ?_
  refine law_at C hw hi 6 (by decide) rfl dL_law_781 ?_
  refine law_M (As := [.int (xs (nI i + 1).toNatClampNeg), .int (xs (nI i + 2).toNatClampNeg), .int (xs (nI i + 3).toNatClampNeg), .int (xs (nI i + 4).toNatClampNeg), .int (xs (nI i + 5).toNatClampNeg), .int (xs (nI i + 6).toNatClampNeg)]) (rest := [.int r1]) C hw (mt_X9_two l D q adM (xs (nI i + 1).toNatClampNeg) (xs (nI i + 2).toNatClampNeg) (xs (nI i + 3).toNatClampNeg) (xs (nI i + 4).toNatClampNeg) (xs (nI i + 5).toNatClampNeg) (xs (nI i + 6).toNatClampNeg) μ _ h1) ok_X9_two ml_L_92 ⟨(Nat.le_of_ble_eq_true rfl), (Nat.le_of_ble_eq_true rfl)⟩ ⟨rfl, rfl⟩ rfl hl.1 rfl (Nat.le_of_ble_eq_true rfl) dL_law_782 (fun r2 μ1 H2 locs2 h2 hw => ?_)
  refine lv_icmp_eq (tgt := 1054) hx hb dL_law_785 (by decide) (fun _ => ?_) (fun hc => absurd h2.1.symm hc)
  exact kk σ1 μ1 H2 locs2 hw h2.2
set_option maxHeartbeats 4000000 in
set_option maxRecDepth 100000 in
theorem law_18 (C : LWC p s m meth c b L xs D q adC adM t aK aV) (hw : LWS D q adC adM s H locs σ μ) (hI : Inv σ μ) (hl : lv_has ls 4 [(0, .ref b), (1, .ref (adC 0 0)), (2, .ref (adM 0 0)), (3, .int (nI i))]) (hi : i + 7 ≤ L) (kk : ∀ (σ' μ' : St) (H' : Heap) (locs' : List Loc), LWS D q adC adM s H' locs' σ' μ' → Inv σ' μ' → W p l e room_1 s m #[Value.ref b] below meth c H' locs' 70 3425 Q (F0 m 1054 ls [])) : W p l e room_1 s m #[Value.ref b] below meth c H locs 70 3425 Q (F0 m 790 ls []) := by
  have S := C.1
  have hx := S.1
  have hb := S.2.1
  refine lv_aload_n hx hb dL_law_790 rfl (lv_at hl 1 rfl) ?_
  refine lv_aload_n hx hb dL_law_791 rfl (lv_at hl 0 rfl) ?_
  refine lv_iload_n hx hb dL_law_792 rfl (lv_at hl 3 rfl) ?_
  refine lv_iconst (v := 1) hx hb dL_law_793 (by decide) ?_
  refine lv_iadd hx hb dL_law_794 ?_
  refine law_at C hw hi 1 (by decide) rfl dL_law_795 ?_
  refine lv_aload_n hx hb dL_law_796 rfl (lv_at hl 0 rfl) ?_
  refine lv_iload_n hx hb dL_law_797 rfl (lv_at hl 3 rfl) ?_
  refine lv_iconst (v := 2) hx hb dL_law_798 (by decide) ?_
  refine lv_iadd hx hb dL_law_799 ?_
  refine law_at C hw hi 2 (by decide) rfl dL_law_800 ?_
  refine law_C (As := [.int (xs (nI i + 1).toNatClampNeg), .int (xs (nI i + 2).toNatClampNeg)]) (rest := []) C hw (mt_X8_film l D q adC t aK aV (xs (nI i + 1).toNatClampNeg) (xs (nI i + 2).toNatClampNeg) σ _ (pub_film hI (xs (nI i + 1).toNatClampNeg) (xs (nI i + 2).toNatClampNeg))) ok_X8_film ml_L_93 ⟨(Nat.le_of_ble_eq_true rfl), (Nat.le_of_ble_eq_true rfl)⟩ ⟨rfl, rfl⟩ rfl hl.1 rfl (Nat.le_of_ble_eq_true rfl) dL_law_801 (fun r1 σ1 H1 locs1 h1 hw => ?_)
  refine lv_aload_n hx hb dL_law_804 rfl (lv_at hl 2 rfl) ?_
  refine lv_aload_n hx hb dL_law_805 rfl (lv_at hl 0 rfl) ?_
  refine lv_iload_n hx hb dL_law_806 rfl (lv_at hl 3 rfl) ?_
  refine lv_iconst (v := 1) hx hb dL_law_807 (by decide) ?_
  refine lv_iadd hx hb dL_law_808 ?_
  refine law_at C hw hi 1 (by decide) rfl dL_law_809 ?_
  refine lv_aload_n hx hb dL_law_810 rfl (lv_at hl 0 rfl) ?_
  refine lv_iload_n hx hb dL_law_811 rfl (lv_at hl 3 rfl) ?_
  refine lv_iconst (v := 2) hx hb dL_law_812 (by decide) ?_
  refine lv_iadd hx hb dL_law_813 ?_
  refine law_at C hw hi 2 (by decide) rfl dL_law_814 ?_
  refine law_M (As := [.int (xs (nI i + 1).toNatClampNeg), .int (xs (nI i + 2).toNatClampNeg)]) (rest := [.int r1]) C hw (mt_X9_film l D q adM (xs (nI i + 1).toNatClampNeg) (xs (nI i + 2).toNatClampNeg) μ _ h1) ok_X9_film ml_L_96 ⟨(Nat.le_of_ble_eq_true rfl), (Nat.le_of_ble_eq_true rfl)⟩ ⟨rfl, rfl⟩ rfl hl.1 rfl (Nat.le_of_ble_eq_true rfl) dL_law_815 (fun r2 μ1 H2 locs2 h2 hw => ?_)
  refine lv_icmp_eq (tgt := 1054) hx hb dL_law_818 (by decide) (fun _ => ?_) (fun hc => absurd h2.1.symm hc)
  exact kk σ1 μ1 H2 locs2 hw h2.2
set_option maxHeartbeats 4000000 in
set_option maxRecDepth 100000 in
theorem law_19 (C : LWC p s m meth c b L xs D q adC adM t aK aV) (hw : LWS D q adC adM s H locs σ μ) (hI : Inv σ μ) (hl : lv_has ls 4 [(0, .ref b), (1, .ref (adC 0 0)), (2, .ref (adM 0 0)), (3, .int (nI i))]) (hi : i + 7 ≤ L) (kk : ∀ (σ' μ' : St) (H' : Heap) (locs' : List Loc), LWS D q adC adM s H' locs' σ' μ' → Inv σ' μ' → W p l e room_1 s m #[Value.ref b] below meth c H' locs' 70 3425 Q (F0 m 1054 ls [])) : W p l e room_1 s m #[Value.ref b] below meth c H locs 70 3425 Q (F0 m 823 ls []) := by
  have S := C.1
  have hx := S.1
  have hb := S.2.1
  refine lv_aload_n hx hb dL_law_823 rfl (lv_at hl 1 rfl) ?_
  refine law_C (As := []) (rest := []) C hw (mt_X8_wind l D q adC t aK aV  σ _ (pub_wind hI )) ok_X8_wind ml_L_97 ⟨(Nat.le_of_ble_eq_true rfl), (Nat.le_of_ble_eq_true rfl)⟩ ⟨rfl, rfl⟩ rfl hl.1 rfl (Nat.le_of_ble_eq_true rfl) dL_law_824 (fun r1 σ1 H1 locs1 h1 hw => ?_)
  refine lv_aload_n hx hb dL_law_827 rfl (lv_at hl 2 rfl) ?_
  refine law_M (As := []) (rest := [.int r1]) C hw (mt_X9_wind l D q adM  μ _ h1) ok_X9_wind ml_L_100 ⟨(Nat.le_of_ble_eq_true rfl), (Nat.le_of_ble_eq_true rfl)⟩ ⟨rfl, rfl⟩ rfl hl.1 rfl (Nat.le_of_ble_eq_true rfl) dL_law_828 (fun r2 μ1 H2 locs2 h2 hw => ?_)
  refine lv_icmp_eq (tgt := 1054) hx hb dL_law_831 (by decide) (fun _ => ?_) (fun hc => absurd h2.1.symm hc)
  exact kk σ1 μ1 H2 locs2 hw h2.2
set_option maxHeartbeats 4000000 in
set_option maxRecDepth 100000 in
theorem law_20 (C : LWC p s m meth c b L xs D q adC adM t aK aV) (hw : LWS D q adC adM s H locs σ μ) (hI : Inv σ μ) (hl : lv_has ls 4 [(0, .ref b), (1, .ref (adC 0 0)), (2, .ref (adM 0 0)), (3, .int (nI i))]) (hi : i + 7 ≤ L) (kk : ∀ (σ' μ' : St) (H' : Heap) (locs' : List Loc), LWS D q adC adM s H' locs' σ' μ' → Inv σ' μ' → W p l e room_1 s m #[Value.ref b] below meth c H' locs' 70 3425 Q (F0 m 1054 ls [])) : W p l e room_1 s m #[Value.ref b] below meth c H locs 70 3425 Q (F0 m 836 ls []) := by
  have S := C.1
  have hx := S.1
  have hb := S.2.1
  refine lv_aload_n hx hb dL_law_836 rfl (lv_at hl 1 rfl) ?_
  refine lv_aload_n hx hb dL_law_837 rfl (lv_at hl 0 rfl) ?_
  refine lv_iload_n hx hb dL_law_838 rfl (lv_at hl 3 rfl) ?_
  refine lv_iconst (v := 1) hx hb dL_law_839 (by decide) ?_
  refine lv_iadd hx hb dL_law_840 ?_
  refine law_at C hw hi 1 (by decide) rfl dL_law_841 ?_
  refine law_C (As := [.int (xs (nI i + 1).toNatClampNeg)]) (rest := []) C hw (mt_X8_fits l D q adC t aK aV (xs (nI i + 1).toNatClampNeg) σ _ (pub_fits hI (xs (nI i + 1).toNatClampNeg))) ok_X8_fits ml_L_101 ⟨(Nat.le_of_ble_eq_true rfl), (Nat.le_of_ble_eq_true rfl)⟩ ⟨rfl, rfl⟩ rfl hl.1 rfl (Nat.le_of_ble_eq_true rfl) dL_law_842 (fun r1 σ1 H1 locs1 h1 hw => ?_)
  refine lv_aload_n hx hb dL_law_845 rfl (lv_at hl 2 rfl) ?_
  refine lv_aload_n hx hb dL_law_846 rfl (lv_at hl 0 rfl) ?_
  refine lv_iload_n hx hb dL_law_847 rfl (lv_at hl 3 rfl) ?_
  refine lv_iconst (v := 1) hx hb dL_law_848 (by decide) ?_
  refine lv_iadd hx hb dL_law_849 ?_
  refine law_at C hw hi 1 (by decide) rfl dL_law_850 ?_
  refine law_M (As := [.int (xs (nI i + 1).toNatClampNeg)]) (rest := [.int r1]) C hw (mt_X9_fits l D q adM (xs (nI i + 1).toNatClampNeg) μ _ h1) ok_X9_fits ml_L_104 ⟨(Nat.le_of_ble_eq_true rfl), (Nat.le_of_ble_eq_true rfl)⟩ ⟨rfl, rfl⟩ rfl hl.1 rfl (Nat.le_of_ble_eq_true rfl) dL_law_851 (fun r2 μ1 H2 locs2 h2 hw => ?_)
  refine lv_icmp_eq (tgt := 1054) hx hb dL_law_854 (by decide) (fun _ => ?_) (fun hc => absurd h2.1.symm hc)
  exact kk σ1 μ1 H2 locs2 hw h2.2
set_option maxHeartbeats 4000000 in
set_option maxRecDepth 100000 in
theorem law_21 (C : LWC p s m meth c b L xs D q adC adM t aK aV) (hw : LWS D q adC adM s H locs σ μ) (hI : Inv σ μ) (hl : lv_has ls 4 [(0, .ref b), (1, .ref (adC 0 0)), (2, .ref (adM 0 0)), (3, .int (nI i))]) (hi : i + 7 ≤ L) (kk : ∀ (σ' μ' : St) (H' : Heap) (locs' : List Loc), LWS D q adC adM s H' locs' σ' μ' → Inv σ' μ' → W p l e room_1 s m #[Value.ref b] below meth c H' locs' 70 3425 Q (F0 m 1054 ls [])) : W p l e room_1 s m #[Value.ref b] below meth c H locs 70 3425 Q (F0 m 859 ls []) := by
  have S := C.1
  have hx := S.1
  have hb := S.2.1
  refine lv_aload_n hx hb dL_law_859 rfl (lv_at hl 1 rfl) ?_
  refine lv_aload_n hx hb dL_law_860 rfl (lv_at hl 0 rfl) ?_
  refine lv_iload_n hx hb dL_law_861 rfl (lv_at hl 3 rfl) ?_
  refine lv_iconst (v := 1) hx hb dL_law_862 (by decide) ?_
  refine lv_iadd hx hb dL_law_863 ?_
  refine law_at C hw hi 1 (by decide) rfl dL_law_864 ?_
  refine lv_aload_n hx hb dL_law_865 rfl (lv_at hl 0 rfl) ?_
  refine lv_iload_n hx hb dL_law_866 rfl (lv_at hl 3 rfl) ?_
  refine lv_iconst (v := 2) hx hb dL_law_867 (by decide) ?_
  refine lv_iadd hx hb dL_law_868 ?_
  refine law_at C hw hi 2 (by decide) rfl dL_law_869 ?_
  refine law_C (As := [.int (xs (nI i + 1).toNatClampNeg), .int (xs (nI i + 2).toNatClampNeg)]) (rest := []) C hw (mt_X8_next l D q adC t aK aV (xs (nI i + 1).toNatClampNeg) (xs (nI i + 2).toNatClampNeg) σ _ (pub_next hI (xs (nI i + 1).toNatClampNeg) (xs (nI i + 2).toNatClampNeg))) ok_X8_next ml_L_105 ⟨(Nat.le_of_ble_eq_true rfl), (Nat.le_of_ble_eq_true rfl)⟩ ⟨rfl, rfl⟩ rfl hl.1 rfl (Nat.le_of_ble_eq_true rfl) dL_law_870 (fun r1 σ1 H1 locs1 h1 hw => ?_)
  refine lv_aload_n hx hb dL_law_873 rfl (lv_at hl 2 rfl) ?_
  refine lv_aload_n hx hb dL_law_874 rfl (lv_at hl 0 rfl) ?_
  refine lv_iload_n hx hb dL_law_875 rfl (lv_at hl 3 rfl) ?_
  refine lv_iconst (v := 1) hx hb dL_law_876 (by decide) ?_
  refine lv_iadd hx hb dL_law_877 ?_
  refine law_at C hw hi 1 (by decide) rfl dL_law_878 ?_
  refine lv_aload_n hx hb dL_law_879 rfl (lv_at hl 0 rfl) ?_
  refine lv_iload_n hx hb dL_law_880 rfl (lv_at hl 3 rfl) ?_
  refine lv_iconst (v := 2) hx hb dL_law_881 (by decide) ?_
  refine lv_iadd hx hb dL_law_882 ?_
  refine law_at C hw hi 2 (by decide) rfl dL_law_883 ?_
  refine law_M (As := [.int (xs (nI i + 1).toNatClampNeg), .int (xs (nI i + 2).toNatClampNeg)]) (rest := [.int r1]) C hw (mt_X9_next l D q adM (xs (nI i + 1).toNatClampNeg) (xs (nI i + 2).toNatClampNeg) μ _ h1) ok_X9_next ml_L_108 ⟨(Nat.le_of_ble_eq_true rfl), (Nat.le_of_ble_eq_true rfl)⟩ ⟨rfl, rfl⟩ rfl hl.1 rfl (Nat.le_of_ble_eq_true rfl) dL_law_884 (fun r2 μ1 H2 locs2 h2 hw => ?_)
  refine lv_icmp_eq (tgt := 1054) hx hb dL_law_887 (by decide) (fun _ => ?_) (fun hc => absurd h2.1.symm hc)
  exact kk σ1 μ1 H2 locs2 hw h2.2
set_option maxHeartbeats 4000000 in
set_option maxRecDepth 100000 in
theorem law_22 (C : LWC p s m meth c b L xs D q adC adM t aK aV) (hw : LWS D q adC adM s H locs σ μ) (hI : Inv σ μ) (hl : lv_has ls 4 [(0, .ref b), (1, .ref (adC 0 0)), (2, .ref (adM 0 0)), (3, .int (nI i))]) (hi : i + 7 ≤ L) (kk : ∀ (σ' μ' : St) (H' : Heap) (locs' : List Loc), LWS D q adC adM s H' locs' σ' μ' → Inv σ' μ' → W p l e room_1 s m #[Value.ref b] below meth c H' locs' 70 3425 Q (F0 m 1054 ls [])) : W p l e room_1 s m #[Value.ref b] below meth c H locs 70 3425 Q (F0 m 892 ls []) := by
  have S := C.1
  have hx := S.1
  have hb := S.2.1
  refine lv_aload_n hx hb dL_law_892 rfl (lv_at hl 1 rfl) ?_
  refine lv_aload_n hx hb dL_law_893 rfl (lv_at hl 0 rfl) ?_
  refine lv_iload_n hx hb dL_law_894 rfl (lv_at hl 3 rfl) ?_
  refine lv_iconst (v := 1) hx hb dL_law_895 (by decide) ?_
  refine lv_iadd hx hb dL_law_896 ?_
  refine law_at C hw hi 1 (by decide) rfl dL_law_897 ?_
  refine lv_aload_n hx hb dL_law_898 rfl (lv_at hl 0 rfl) ?_
  refine lv_iload_n hx hb dL_law_899 rfl (lv_at hl 3 rfl) ?_
  refine lv_iconst (v := 2) hx hb dL_law_900 (by decide) ?_
  refine lv_iadd hx hb dL_law_901 ?_
  refine law_at C hw hi 2 (by decide) rfl dL_law_902 ?_
  refine law_C (As := [.int (xs (nI i + 1).toNatClampNeg), .int (xs (nI i + 2).toNatClampNeg)]) (rest := []) C hw (mt_X8_plan l D q adC t aK aV (xs (nI i + 1).toNatClampNeg) (xs (nI i + 2).toNatClampNeg) σ _ (pub_plan hI (xs (nI i + 1).toNatClampNeg) (xs (nI i + 2).toNatClampNeg))) ok_X8_plan ml_L_109 ⟨(Nat.le_of_ble_eq_true rfl), (Nat.le_of_ble_eq_true rfl)⟩ ⟨rfl, rfl⟩ rfl hl.1 rfl (Nat.le_of_ble_eq_true rfl) dL_law_903 (fun r1 σ1 H1 locs1 h1 hw => ?_)
  refine lv_aload_n hx hb dL_law_906 rfl (lv_at hl 2 rfl) ?_
  refine lv_aload_n hx hb dL_law_907 rfl (lv_at hl 0 rfl) ?_
  refine lv_iload_n hx hb dL_law_908 rfl (lv_at hl 3 rfl) ?_
  refine lv_iconst (v := 1) hx hb dL_law_909 (by decide) ?_
  refine lv_iadd hx hb dL_law_910 ?_
  refine law_at C hw hi 1 (by decide) rfl dL_law_911 ?_
  refine lv_aload_n hx hb dL_law_912 rfl (lv_at hl 0 rfl) ?_
  refine lv_iload_n hx hb dL_law_913 rfl (lv_at hl 3 rfl) ?_
  refine lv_iconst (v := 2) hx hb dL_law_914 (by decide) ?_
  refine lv_iadd hx hb dL_law_915 ?_
  refine law_at C hw hi 2 (by decide) rfl dL_law_916 ?_
  refine law_M (As := [.int (xs (nI i + 1).toNatClampNeg), .int (xs (nI i + 2).toNatClampNeg)]) (rest := [.int r1]) C hw (mt_X9_plan l D q adM (xs (nI i + 1).toNatClampNeg) (xs (nI i + 2).toNatClampNeg) μ _ h1) ok_X9_plan ml_L_112 ⟨(Nat.le_of_ble_eq_true rfl), (Nat.le_of_ble_eq_true rfl)⟩ ⟨rfl, rfl⟩ rfl hl.1 rfl (Nat.le_of_ble_eq_true rfl) dL_law_917 (fun r2 μ1 H2 locs2 h2 hw => ?_)
  refine lv_icmp_eq (tgt := 1054) hx hb dL_law_920 (by decide) (fun _ => ?_) (fun hc => absurd h2.1.symm hc)
  exact kk σ1 μ1 H2 locs2 hw h2.2
set_option maxHeartbeats 4000000 in
set_option maxRecDepth 100000 in
theorem law_23 (C : LWC p s m meth c b L xs D q adC adM t aK aV) (hw : LWS D q adC adM s H locs σ μ) (hI : Inv σ μ) (hl : lv_has ls 4 [(0, .ref b), (1, .ref (adC 0 0)), (2, .ref (adM 0 0)), (3, .int (nI i))]) (hi : i + 7 ≤ L) (kk : ∀ (σ' μ' : St) (H' : Heap) (locs' : List Loc), LWS D q adC adM s H' locs' σ' μ' → Inv σ' μ' → W p l e room_1 s m #[Value.ref b] below meth c H' locs' 70 3425 Q (F0 m 1054 ls [])) : W p l e room_1 s m #[Value.ref b] below meth c H locs 70 3425 Q (F0 m 925 ls []) := by
  have S := C.1
  have hx := S.1
  have hb := S.2.1
  refine lv_aload_n hx hb dL_law_925 rfl (lv_at hl 1 rfl) ?_
  refine lv_aload_n hx hb dL_law_926 rfl (lv_at hl 0 rfl) ?_
  refine lv_iload_n hx hb dL_law_927 rfl (lv_at hl 3 rfl) ?_
  refine lv_iconst (v := 1) hx hb dL_law_928 (by decide) ?_
  refine lv_iadd hx hb dL_law_929 ?_
  refine law_at C hw hi 1 (by decide) rfl dL_law_930 ?_
  refine lv_aload_n hx hb dL_law_931 rfl (lv_at hl 0 rfl) ?_
  refine lv_iload_n hx hb dL_law_932 rfl (lv_at hl 3 rfl) ?_
  refine lv_iconst (v := 2) hx hb dL_law_933 (by decide) ?_
  refine lv_iadd hx hb dL_law_934 ?_
  refine law_at C hw hi 2 (by decide) rfl dL_law_935 ?_
  refine lv_aload_n hx hb dL_law_936 rfl (lv_at hl 0 rfl) ?_
  refine lv_iload_n hx hb dL_law_937 rfl (lv_at hl 3 rfl) ?_
  refine lv_iconst (v := 3) hx hb dL_law_938 (by decide) ?_
  refine lv_iadd hx hb dL_law_939 ?_
  refine law_at C hw hi 3 (by decide) rfl dL_law_940 ?_
  refine law_C (As := [.int (xs (nI i + 1).toNatClampNeg), .int (xs (nI i + 2).toNatClampNeg), .int (xs (nI i + 3).toNatClampNeg)]) (rest := []) C hw (mt_X8_room l D q adC t aK aV (xs (nI i + 1).toNatClampNeg) (xs (nI i + 2).toNatClampNeg) (xs (nI i + 3).toNatClampNeg) σ _ (pub_room hI (xs (nI i + 1).toNatClampNeg) (xs (nI i + 2).toNatClampNeg) (xs (nI i + 3).toNatClampNeg))) ok_X8_room ml_L_113 ⟨(Nat.le_of_ble_eq_true rfl), (Nat.le_of_ble_eq_true rfl)⟩ ⟨rfl, rfl⟩ rfl hl.1 rfl (Nat.le_of_ble_eq_true rfl) dL_law_941 (fun r1 σ1 H1 locs1 h1 hw => ?_)
  refine lv_aload_n hx hb dL_law_944 rfl (lv_at hl 2 rfl) ?_
  refine lv_aload_n hx hb dL_law_945 rfl (lv_at hl 0 rfl) ?_
  refine lv_iload_n hx hb dL_law_946 rfl (lv_at hl 3 rfl) ?_
  refine lv_iconst (v := 1) hx hb dL_law_947 (by decide) ?_
  refine lv_iadd hx hb dL_law_948 ?_
  refine law_at C hw hi 1 (by decide) rfl dL_law_949 ?_
  refine lv_aload_n hx hb dL_law_950 rfl (lv_at hl 0 rfl) ?_
  refine lv_iload_n hx hb dL_law_951 rfl (lv_at hl 3 rfl) ?_
  refine lv_iconst (v := 2) hx hb dL_law_952 (by decide) ?_
  refine lv_iadd hx hb dL_law_953 ?_
  refine law_at C hw hi 2 (by decide) rfl dL_law_954 ?_
  refine lv_aload_n hx hb dL_law_955 rfl (lv_at hl 0 rfl) ?_
  refine lv_iload_n hx hb dL_law_956 rfl (lv_at hl 3 rfl) ?_
  refine lv_iconst (v := 3) hx hb dL_law_957 (by decide) ?_
  refine lv_iadd hx hb dL_law_958 ?_
  refine law_at C hw hi 3 (by decide) rfl dL_law_959 ?_
  refine law_M (As := [.int (xs (nI i + 1).toNatClampNeg), .int (xs (nI i + 2).toNatClampNeg), .int (xs (nI i + 3).toNatClampNeg)]) (rest := [.int r1]) C hw (mt_X9_room l D q adM (xs (nI i + 1).toNatClampNeg) (xs (nI i + 2).toNatClampNeg) (xs (nI i + 3).toNatClampNeg) μ _ h1) ok_X9_room ml_L_116 ⟨(Nat.le_of_ble_eq_true rfl), (Nat.le_of_ble_eq_true rfl)⟩ ⟨rfl, rfl⟩ rfl hl.1 rfl (Nat.le_of_ble_eq_true rfl) dL_law_960 (fun r2 μ1 H2 locs2 h2 hw => ?_)
  refine lv_icmp_eq (tgt := 1054) hx hb dL_law_963 (by decide) (fun _ => ?_) (fun hc => absurd h2.1.symm hc)
  exact kk σ1 μ1 H2 locs2 hw h2.2
set_option maxHeartbeats 4000000 in
set_option maxRecDepth 100000 in
theorem law_24 (C : LWC p s m meth c b L xs D q adC adM t aK aV) (hw : LWS D q adC adM s H locs σ μ) (hI : Inv σ μ) (hl : lv_has ls 4 [(0, .ref b), (1, .ref (adC 0 0)), (2, .ref (adM 0 0)), (3, .int (nI i))]) (hi : i + 7 ≤ L) (kk : ∀ (σ' μ' : St) (H' : Heap) (locs' : List Loc), LWS D q adC adM s H' locs' σ' μ' → Inv σ' μ' → W p l e room_1 s m #[Value.ref b] below meth c H' locs' 70 3425 Q (F0 m 1054 ls [])) : W p l e room_1 s m #[Value.ref b] below meth c H locs 70 3425 Q (F0 m 968 ls []) := by
  have S := C.1
  have hx := S.1
  have hb := S.2.1
  refine lv_aload_n hx hb dL_law_968 rfl (lv_at hl 1 rfl) ?_
  refine lv_aload_n hx hb dL_law_969 rfl (lv_at hl 0 rfl) ?_
  refine lv_iload_n hx hb dL_law_970 rfl (lv_at hl 3 rfl) ?_
  refine lv_iconst (v := 1) hx hb dL_law_971 (by decide) ?_
  refine lv_iadd hx hb dL_law_972 ?_
  refine law_at C hw hi 1 (by decide) rfl dL_law_973 ?_
  refine lv_aload_n hx hb dL_law_974 rfl (lv_at hl 0 rfl) ?_
  refine lv_iload_n hx hb dL_law_975 rfl (lv_at hl 3 rfl) ?_
  refine lv_iconst (v := 2) hx hb dL_law_976 (by decide) ?_
  refine lv_iadd hx hb dL_law_977 ?_
  refine law_at C hw hi 2 (by decide) rfl dL_law_978 ?_
  refine lv_aload_n hx hb dL_law_979 rfl (lv_at hl 0 rfl) ?_
  refine lv_iload_n hx hb dL_law_980 rfl (lv_at hl 3 rfl) ?_
  refine lv_iconst (v := 3) hx hb dL_law_981 (by decide) ?_
  refine lv_iadd hx hb dL_law_982 ?_
  refine law_at C hw hi 3 (by decide) rfl dL_law_983 ?_
  refine lv_aload_n hx hb dL_law_984 rfl (lv_at hl 0 rfl) ?_
  refine lv_iload_n hx hb dL_law_985 rfl (lv_at hl 3 rfl) ?_
  refine lv_iconst (v := 4) hx hb dL_law_986 (by decide) ?_
  refine lv_iadd hx hb dL_law_987 ?_
  refine law_at C hw hi 4 (by decide) rfl dL_law_988 ?_
  refine lv_aload_n hx hb dL_law_989 rfl (lv_at hl 0 rfl) ?_
  refine lv_iload_n hx hb dL_law_990 rfl (lv_at hl 3 rfl) ?_
  refine lv_iconst (v := 5) hx hb dL_law_991 (by decide) ?_
  refine lv_iadd hx hb dL_law_992 ?_
  refine law_at C hw hi 5 (by decide) rfl dL_law_993 ?_
  refine law_C (As := [.int (xs (nI i + 1).toNatClampNeg), .int (xs (nI i + 2).toNatClampNeg), .int (xs (nI i + 3).toNatClampNeg), .int (xs (nI i + 4).toNatClampNeg), .int (xs (nI i + 5).toNatClampNeg)]) (rest := []) C hw (mt_X8_way l D q adC t aK aV (xs (nI i + 1).toNatClampNeg) (xs (nI i + 2).toNatClampNeg) (xs (nI i + 3).toNatClampNeg) (xs (nI i + 4).toNatClampNeg) (xs (nI i + 5).toNatClampNeg) σ _ (pub_way hI (xs (nI i + 1).toNatClampNeg) (xs (nI i + 2).toNatClampNeg) (xs (nI i + 3).toNatClampNeg) (xs (nI i + 4).toNatClampNeg) (xs (nI i + 5).toNatClampNeg))) ok_X8_way ml_L_117 ⟨(Nat.le_of_ble_eq_true rfl), (Nat.le_of_ble_eq_true rfl)⟩ ⟨rfl, rfl⟩ rfl hl.1 rfl (Nat.le_of_ble_eq_true rfl) dL_law_994 (fun r1 σ1 H1 locs1 h1 hw => ?_)
  refine lv_aload_n hx hb dL_law_997 rfl (lv_at hl 2 rfl) ?_
  refine lv_aload_n hx hb dL_law_998 rfl (lv_at hl 0 rfl) ?_
  refine lv_iload_n hx hb dL_law_999 rfl (lv_at hl 3 rfl) ?_
  refine lv_iconst (v := 1) hx hb dL_law_1000 (by decide) ?_
  refine lv_iadd hx hb dL_law_1001 ?_
  refine law_at C hw hi 1 (by decide) rfl dL_law_1002 ?_
  refine lv_aload_n hx hb dL_law_1003 rfl (lv_at hl 0 rfl) ?_
  refine lv_iload_n hx hb dL_law_1004 rfl (lv_at hl 3 rfl) ?_
  refine lv_iconst (v := 2) hx hb dL_law_1005 (by decide) ?_
  refine lv_iadd hx hb dL_law_1006 ?_
  refine law_at C hw hi 2 (by decide) rfl dL_law_1007 ?_
  refine lv_aload_n hx hb dL_law_1008 rfl (lv_at hl 0 rfl) ?_
  refine lv_iload_n hx hb dL_law_1009 rfl (lv_at hl 3 rfl) ?_
  refine lv_iconst (v := 3) hx hb dL_law_1010 (by decide) ?_
  refine lv_iadd hx hb dL_law_1011 ?_
  refine law_at C hw hi 3 (by decide) rfl dL_law_1012 ?_
  refine lv_aload_n hx hb dL_law_1013 rfl (lv_at hl 0 rfl) ?_
  refine lv_iload_n hx hb dL_law_1014 rfl (lv_at hl 3 rfl) ?_
  refine lv_iconst (v := 4) hx hb dL_law_1015 (by decide) ?_
  refine lv_iadd hx hb dL_law_1016 ?_
  refine law_at C hw hi 4 (by decide) rfl dL_law_1017 ?_
  refine lv_aload_n hx hb dL_law_1018 rfl (lv_at hl 0 rfl) ?_
  refine lv_iload_n hx hb dL_law_1019 rfl (lv_at hl 3 rfl) ?_
  refine lv_iconst (v := 5) hx hb dL_law_1020 (by decide) ?_
  refine lv_iadd hx hb dL_law_1021 ?_
  refine law_at C hw hi 5 (by decide) rfl dL_law_1022 ?_
  refine law_M (As := [.int (xs (nI i + 1).toNatClampNeg), .int (xs (nI i + 2).toNatClampNeg), .int (xs (nI i + 3).toNatClampNeg), .int (xs (nI i + 4).toNatClampNeg), .int (xs (nI i + 5).toNatClampNeg)]) (rest := [.int r1]) C hw (mt_X9_way l D q adM (xs (nI i + 1).toNatClampNeg) (xs (nI i + 2).toNatClampNeg) (xs (nI i + 3).toNatClampNeg) (xs (nI i + 4).toNatClampNeg) (xs (nI i + 5).toNatClampNeg) μ _ h1) ok_X9_way ml_L_121 ⟨(Nat.le_of_ble_eq_true rfl), (Nat.le_of_ble_eq_true rfl)⟩ ⟨rfl, rfl⟩ rfl hl.1 rfl (Nat.le_of_ble_eq_true rfl) dL_law_1023 (fun r2 μ1 H2 locs2 h2 hw => ?_)
  refine lv_icmp_eq (tgt := 1054) hx hb dL_law_1026 (by decide) (fun _ => ?_) (fun hc => absurd h2.1.symm hc)
  exact kk σ1 μ1 H2 locs2 hw h2.2
set_option maxHeartbeats 4000000 in
set_option maxRecDepth 100000 in
theorem law_25 (C : LWC p s m meth c b L xs D q adC adM t aK aV) (hw : LWS D q adC adM s H locs σ μ) (hI : Inv σ μ) (hl : lv_has ls 4 [(0, .ref b), (1, .ref (adC 0 0)), (2, .ref (adM 0 0)), (3, .int (nI i))]) (hi : i + 7 ≤ L) (kk : ∀ (σ' μ' : St) (H' : Heap) (locs' : List Loc), LWS D q adC adM s H' locs' σ' μ' → Inv σ' μ' → W p l e room_1 s m #[Value.ref b] below meth c H' locs' 70 3425 Q (F0 m 1054 ls [])) : W p l e room_1 s m #[Value.ref b] below meth c H locs 70 3425 Q (F0 m 1031 ls []) := by
  have S := C.1
  have hx := S.1
  have hb := S.2.1
  refine lv_aload_n hx hb dL_law_1031 rfl (lv_at hl 1 rfl) ?_
  refine lv_aload_n hx hb dL_law_1032 rfl (lv_at hl 0 rfl) ?_
  refine lv_iload_n hx hb dL_law_1033 rfl (lv_at hl 3 rfl) ?_
  refine lv_iconst (v := 1) hx hb dL_law_1034 (by decide) ?_
  refine lv_iadd hx hb dL_law_1035 ?_
  refine law_at C hw hi 1 (by decide) rfl dL_law_1036 ?_
  refine law_C (As := [.int (xs (nI i + 1).toNatClampNeg)]) (rest := []) C hw (mt_X8_count l D q adC t aK aV (xs (nI i + 1).toNatClampNeg) σ _ (pub_count hI (xs (nI i + 1).toNatClampNeg))) ok_X8_count ml_L_122 ⟨(Nat.le_of_ble_eq_true rfl), (Nat.le_of_ble_eq_true rfl)⟩ ⟨rfl, rfl⟩ rfl hl.1 rfl (Nat.le_of_ble_eq_true rfl) dL_law_1037 (fun r1 σ1 H1 locs1 h1 hw => ?_)
  refine lv_aload_n hx hb dL_law_1040 rfl (lv_at hl 2 rfl) ?_
  refine lv_aload_n hx hb dL_law_1041 rfl (lv_at hl 0 rfl) ?_
  refine lv_iload_n hx hb dL_law_1042 rfl (lv_at hl 3 rfl) ?_
  refine lv_iconst (v := 1) hx hb dL_law_1043 (by decide) ?_
  refine lv_iadd hx hb dL_law_1044 ?_
  refine law_at C hw hi 1 (by decide) rfl dL_law_1045 ?_
  refine law_M (As := [.int (xs (nI i + 1).toNatClampNeg)]) (rest := [.int r1]) C hw (mt_X9_count l D q adM (xs (nI i + 1).toNatClampNeg) μ _ h1) ok_X9_count ml_L_125 ⟨(Nat.le_of_ble_eq_true rfl), (Nat.le_of_ble_eq_true rfl)⟩ ⟨rfl, rfl⟩ rfl hl.1 rfl (Nat.le_of_ble_eq_true rfl) dL_law_1046 (fun r2 μ1 H2 locs2 h2 hw => ?_)
  refine lv_icmp_eq (tgt := 1054) hx hb dL_law_1049 (by decide) (fun _ => ?_) (fun hc => absurd h2.1.symm hc)
  exact kk σ1 μ1 H2 locs2 hw h2.2
end LAW
