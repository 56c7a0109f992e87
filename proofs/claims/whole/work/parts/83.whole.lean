/-! THE WALK from the entry -/
set_option maxHeartbeats 4000000 in
set_option maxRecDepth 100000 in
theorem whole_start {p : Program} {e : Env} {s : State} {m : MethodId} {below : List Frame} {meth : Method} {c : Code} (l : Launch) (hflags : l.flags = flags0) {b L : Nat} {xs : Nat → Int32} (hL : L ≤ 3584) (C0 : lw_At p s m meth c b L xs) : W p l e room_1 s m #[Value.ref b] below meth c s.heap [] 0 0 (lw_Z below #[Value.ref b] s) (entryFrame m ([Value.ref b] : List Value).toArray 4) := by
  obtain ⟨hx, hb, hr, hml, hown, hts, hX, hbl, hlocks, hgv⟩ := C0
  have S : CallFix p m c code 4 s #[Value.ref b] GW "OnChinLaw" := ⟨hx, hb, hml, hown, fun w h => hts w (List.mem_filter.mp h).1⟩
  have hA : ∀ x : Nat, s.heap.size ≤ x → (fun x => s.heap.size ≤ x) x := fun _ h => h
  have hN : ∀ x : Nat, x < s.heap.size → ¬ (fun x => s.heap.size ≤ x) x := fun a ha => Nat.not_le.mpr ha
  obtain ⟨D, q, hK, ao1, ao2⟩ := st_K S hts
  obtain ⟨nm, nf⟩ := st_links hts
  obtain ⟨t, tF, ⟨Z1, T1⟩, ⟨Z2, T2⟩, ⟨Z3, Z4⟩, Z5, X5, l5⟩ := st_statics hts hgv
  obtain ⟨aK, aV, K1, K2⟩ := st_texts hts hgv
  have V : EvI D q tF (fun x => s.heap.size ≤ x) s := ⟨hK, nm, nf, ⟨ao1, ao2⟩, Z5, X5, l5, hN tF l5⟩
  have hw : wn D (fun x => s.heap.size ≤ x) s s.heap [] [] := ⟨fun k x h => by simp at h, ⟨fun i j x y h => by simp at h, fun k x h => by simp at h⟩, va_S.rf⟩
  have hl := lv_entry [.ref b] (n := 4) (Nat.le_of_ble_eq_true rfl)
  rw [lg_entry_eq]
  generalize (lg_sl [.ref b] ++ List.replicate (4 - (lg_sl [.ref b]).length) Slot.unset).toArray = ls at hl ⊢
  have hl : lv_has ls 4 [(0, .ref b)] := hl
  refine y_new (ws := []) (fs := [.null, .null, .null, .null, .null, .null, .null, .null]) S V hA (C := RX8) (T := TX8) (N := 8) (ci := 8) rfl ug_X8 tyX8 tyX8_ok ck_L_7 ci_X8 wi_X8 (fun j hj => by rcases (show j = 0 ∨ j = 1 ∨ j = 2 ∨ j = 3 ∨ j = 4 ∨ j = 5 ∨ j = 6 ∨ j = 7 by omega) with rfl | rfl | rfl | rfl | rfl | rfl | rfl | rfl <;> rfl) (Nat.le_of_ble_eq_true rfl) (Nat.le_of_ble_eq_true rfl) dL_law_0 dL_law_3 hw (fun h8 H hw => ?_)
  refine y_callI (ws := []) (rest := [.ref h8]) S V hA (mi_X8 l D q tF) ml_L_9 ic_X8 wi_X8 ii_X8 (by decide +kernel) rfl ⟨(Nat.le_of_ble_eq_true rfl), (Nat.le_of_ble_eq_true rfl)⟩ ⟨rfl, rfl⟩ hl.1 (Nat.le_of_ble_eq_true rfl) dL_law_4 ⟨(Nat.le_of_ble_eq_true rfl), (Nat.le_of_ble_eq_true rfl)⟩ hw (fun u8 H locs hw => ?_)
  refine lv_astore_n (lv' := [(1, .ref h8), (0, .ref b)]) hx hb dL_law_7 rfl hl (by decide) rfl (fun ls hl => ?_)
  refine y_new (ws := [] ++ wX8 q h8 u8) (fs := [.null, .int 0, .null, .int 0, .null, .null, .null, .null, .int 0, .int 0, .int 0, .int 0, .int 0, .int 0, .int 0, .int 0, .int 0, .int 0, .int 0, .int 0, .int 0, .null, .null, .null, .null, .null, .null, .null, .int 0, .int 0, .int 0, .int 0, .int 0, .int 0, .int 0, .null, .null, .int 0, .null, .null, .null, .null]) S V hA (C := RX9) (T := TX9) (N := 42) (ci := 9) rfl ug_X9 tyX9 tyX9_ok ck_L_10 ci_X9 wi_X9 (fun j hj => by rcases (show j = 0 ∨ j = 1 ∨ j = 2 ∨ j = 3 ∨ j = 4 ∨ j = 5 ∨ j = 6 ∨ j = 7 ∨ j = 8 ∨ j = 9 ∨ j = 10 ∨ j = 11 ∨ j = 12 ∨ j = 13 ∨ j = 14 ∨ j = 15 ∨ j = 16 ∨ j = 17 ∨ j = 18 ∨ j = 19 ∨ j = 20 ∨ j = 21 ∨ j = 22 ∨ j = 23 ∨ j = 24 ∨ j = 25 ∨ j = 26 ∨ j = 27 ∨ j = 28 ∨ j = 29 ∨ j = 30 ∨ j = 31 ∨ j = 32 ∨ j = 33 ∨ j = 34 ∨ j = 35 ∨ j = 36 ∨ j = 37 ∨ j = 38 ∨ j = 39 ∨ j = 40 ∨ j = 41 by omega) with rfl | rfl | rfl | rfl | rfl | rfl | rfl | rfl | rfl | rfl | rfl | rfl | rfl | rfl | rfl | rfl | rfl | rfl | rfl | rfl | rfl | rfl | rfl | rfl | rfl | rfl | rfl | rfl | rfl | rfl | rfl | rfl | rfl | rfl | rfl | rfl | rfl | rfl | rfl | rfl | rfl | rfl <;> rfl) (Nat.le_of_ble_eq_true rfl) (Nat.le_of_ble_eq_true rfl) dL_law_8 dL_law_11 hw (fun h9 H hw => ?_)
  refine y_callI (ws := [] ++ wX8 q h8 u8) (rest := [.ref h9]) S V hA (mi_X9 l D q tF) ml_L_12 ic_X9 wi_X9 ii_X9 (by decide +kernel) rfl ⟨(Nat.le_of_ble_eq_true rfl), (Nat.le_of_ble_eq_true rfl)⟩ ⟨rfl, rfl⟩ hl.1 (Nat.le_of_ble_eq_true rfl) dL_law_12 ⟨(Nat.le_of_ble_eq_true rfl), (Nat.le_of_ble_eq_true rfl)⟩ hw (fun u9 H locs hw => ?_)
  refine lv_astore_n (lv' := [(2, .ref h9), (1, .ref h8), (0, .ref b)]) hx hb dL_law_15 rfl hl (by decide) rfl (fun ls hl => ?_)
  refine lv_iconst (v := 0) hx hb dL_law_16 (by decide) ?_
  refine lv_istore_n (lv' := [(3, .int 0), (2, .ref h9), (1, .ref h8), (0, .ref b)]) hx hb dL_law_17 rfl hl (by decide) rfl (fun ls hl => ?_)
  refine W.widen (k := 70) (n := 3425) (Nat.le_of_ble_eq_true rfl) (Nat.le_of_ble_eq_true rfl) ?_
  obtain ⟨hP, hD, hS⟩ := hw
  obtain ⟨PC, PM, DD⟩ := two_worlds hP hD
  have inC : ∀ y ∈ LC, ∃ k : Nat, k < LC.length ∧ ∃ x : va_E, (wz LC (adC0 h8 u8) (fun _ _ => .inr (0, [])) ++ wz LM (adM0 h9 u9) (fun _ _ => .inr (0, [])))[k]? = some (adC0 h8 u8 y.1 y.2, x) := by
    intro y hy
    obtain ⟨k, hk⟩ := List.getElem?_of_mem hy
    have hlt := (List.getElem?_eq_some_iff.mp hk).1
    refine ⟨k, hlt, .inr (0, []), ?_⟩
    rw [List.getElem?_append_left (by unfold wz; rw [List.length_map]; exact hlt)]
    unfold wz
    rw [List.getElem?_map, hk]
    rfl
  have inM : ∀ y ∈ LM, ∃ k : Nat, LC.length ≤ k ∧ ∃ x : va_E, (wz LC (adC0 h8 u8) (fun _ _ => .inr (0, [])) ++ wz LM (adM0 h9 u9) (fun _ _ => .inr (0, [])))[k]? = some (adM0 h9 u9 y.1 y.2, x) := by
    intro y hy
    obtain ⟨k, hk⟩ := List.getElem?_of_mem hy
    refine ⟨LC.length + k, Nat.le_add_right _ _, .inr (0, []), ?_⟩
    rw [List.getElem?_append_right (by unfold wz; rw [List.length_map]; exact Nat.le_add_right _ _)]
    unfold wz
    rw [List.length_map, Nat.add_sub_cancel_left, List.getElem?_map, hk]
    rfl
  have z1 : ∀ x, zA LC (adC0 h8 u8) x → s.heap.size ≤ x := by
    intro x hx
    obtain ⟨y, hy, e⟩ := hx
    obtain ⟨k, -, v, hk⟩ := inC y hy
    rw [e]
    exact DD.2 k _ hk
  have z2 : ∀ x, zA LM (adM0 h9 u9) x → s.heap.size ≤ x := by
    intro x hx
    obtain ⟨y, hy, e⟩ := hx
    obtain ⟨k, -, v, hk⟩ := inM y hy
    rw [e]
    exact DD.2 k _ hk
  have z3 : ∀ x, zA LC (adC0 h8 u8) x → ¬ zA LM (adM0 h9 u9) x := by
    intro x hx hx2
    obtain ⟨y, hy, e⟩ := hx
    obtain ⟨k, k1, v, hk⟩ := inC y hy
    obtain ⟨y2, hy2, e2⟩ := hx2
    obtain ⟨k2, k3, v2, hk2⟩ := inM y2 hy2
    have := DD.1 k k2 _ _ hk hk2 (e.symm.trans e2)
    omega
  have jC : zJ LC (adC0 h8 u8) (zA LC (adC0 h8 u8)) := by
    refine ⟨fun i j x y hx hy hxy => DD.1 i j x y ?_ ?_ hxy, fun k x hx => wz_mem hx⟩
    · rw [List.getElem?_append_left (List.getElem?_eq_some_iff.mp hx).1]
      exact hx
    · rw [List.getElem?_append_left (List.getElem?_eq_some_iff.mp hy).1]
      exact hy
  have jM : zJ LM (adM0 h9 u9) (zA LM (adM0 h9 u9)) := by
    refine ⟨fun i j x y hx hy hxy => ?_, fun k x hx => wz_mem hx⟩
    have right : ∀ (i : Nat) (x : Nat × va_E), (wz LM (adM0 h9 u9) (fun _ _ => .inr (0, [])))[i]? = some x → (wz LC (adC0 h8 u8) (fun _ _ => .inr (0, [])) ++ wz LM (adM0 h9 u9) (fun _ _ => .inr (0, [])))[(wz LC (adC0 h8 u8) (fun _ _ => .inr (0, []))).length + i]? = some x := by
      intro i x hx
      rw [List.getElem?_append_right (Nat.le_add_right _ _), Nat.add_sub_cancel_left]
      exact hx
    have := DD.1 _ _ x y (right i x hx) (right j y hy) hxy
    omega
  have EC1 : EvC D q (adC0 h8 u8) t aK aV s := ⟨hK, jC, nm, nf, ⟨Z1.narrow z1, T1.narrow z1⟩, ⟨Z2.narrow z1, T2.narrow z1⟩, ⟨K1.narrow z1, K2⟩, Z3.narrow z1, Z4.narrow z1⟩
  exact law_loop (adC := adC0 h8 u8) (adM := adM0 h9 u9) (t := t) (aK := aK) (aV := aV) ⟨S, EC1, ⟨hK, jM, trivial⟩, ⟨z1, z2, z3⟩, ⟨hX, hbl, hL⟩, hr, hlocks⟩ L 0 sg0 mu0 H locs ls (by omega) (by omega) ⟨PC, PM, hS⟩ inv0 (lv_sub hl [3, 2, 1, 0] rfl)
set_option maxHeartbeats 4000000 in
theorem lw_walk (l : Launch) (hflags : l.flags = flags0) (b : Addr) (xs : List Int32) : MetFree l x (headSpec (Jvm.Cond.code x code maxLocals ret :: tables_1) room_1) (lw_P b xs) (fun _ _ _ _ _ => True) lw_Q := by
  refine MetFree.of_bodyS (code := code) (maxLocals := maxLocals) (ret := ret) (by decide) ?_ ?_
  · intro args s m h hn
    obtain ⟨meth, c, h1, h2, h3, h4, h5, h6, -, -⟩ := Cond.code_spec hn (atoms_spec (ws := Jvm.Cond.code x code maxLocals ret :: tables_1) h _ List.mem_cons_self)
    exact ⟨meth, c, h1, h2, h3, h4, h5, h6⟩
  · intro p e s m args below meth c s₁ B hml0 hP _
    obtain ⟨rfl, hx, hbd, hgv⟩ := hP
    obtain ⟨scr, harrAt, hlist, hof, hsmall⟩ := hx
    obtain ⟨hcb, hkn, -, -⟩ := State.arrayAt?_spec harrAt
    have hown : s.vm.findClass R_law = some m.cls := findClass_of_methodNamed B.named
    have hts0 : ∀ c ∈ (Jvm.Cond.code x code maxLocals ret :: tables_1), c.before #[Value.ref b] s = true := atoms_spec (ws := Jvm.Cond.code x code maxLocals ret :: tables_1) B.pre
    have hts : ∀ w ∈ lw_tbl, w.before #[Value.ref b] s = true := k2_hts_sels lw_privs (fun w hw => hts0 w (List.mem_cons_of_mem _ hw)) lw_privs_ok
    have hml : c.maxLocals = 4 := B.maxLocals_eq (hts0 _ List.mem_cons_self)
    have X₀ : Stand p l e room_1 s m #[Value.ref b] below meth c s₁ [] 0 0 := Stand.of_body B
    have hh0 : s₁.heap = s.heap := by rw [B.state]; rfl
    have hsz : scr.slots.size = xs.length := by rw [← Array.length_toList, hlist, List.length_map]
    have hval : ∀ j : Nat, j < xs.length → scr.slots[j]? = some (.int (xs.getD j 0)) := fun j hj => by
      rw [← Array.getElem?_toList, hlist]
      simp [hj]
    have hbl : b < s.heap.size := (Array.getElem?_eq_some_iff.mp hcb).1
    have hX : va_X b xs.length (fun j => xs.getD j 0) s s.heap := ⟨scr, hcb, hof, hkn, hsz, hval⟩
    have K : W p l e room_1 s m #[Value.ref b] below meth c s₁.heap [] 0 0 (lw_Z below #[Value.ref b] s) (entryFrame m ([Value.ref b] : List Value).toArray 4) := by
      rw [hh0]
      exact whole_start l hflags hbd ⟨B.exec, B.bytes, B.returns, hml, hown, hts, hX, hbl, B.notSynchronized, hgv⟩
    obtain ⟨t, a1, o, b1, b2, b3⟩ := K s₁ rfl X₀
    exact ⟨t, o, a1, b1, b2, b3⟩
theorem lw_pre_spec {args : Array Value} {s : State} (h : (Jvm.Cond.and given_1 narrow_1).before args s = true) (hr : rest_1_c.before args s = true) : ∃ (b : Addr) (xs : List Int32), lw_P b xs args s := by
  have hs := flat_of_before _ h
  have hq := flat_of_before _ hr
  have hc : (Cond.count 1).before args s = true := hs _ (by decide +kernel)
  have harr : (Cond.arrayOf (.arg 0) .int).before args s = true := hs _ (by decide +kernel)
  have hle : (Cond.le (.length (.arg 0)) (.int 3584)).before args s = true := hs _ (by decide +kernel)
  have hlen : (Cond.isInt (.length (.arg 0))).before args s = true := hq _ (by decide +kernel)
  have hall : (Cond.all (.arg 0) (.isInt (.elem (.arg 0) (.index 0)))).before args s = true := hq _ (by decide +kernel)
  obtain ⟨b, xs, hb, hx⟩ := State.ints_of_pre rfl harr hlen hall
  have hsm : xs.length < 2 ^ 31 := hx.choose_spec.2.2.2
  have hev : (Term.length (.arg 0)).eval args s none [] s = some (.int xs.length.toInt32) := hx.length_eval hb
  have hv := Cond.le_ints hev (show (Term.int 3584).eval args s none [] s = some (.int 3584) from rfl)
  have hd : xs.length.toInt32 ≤ 3584 := by
    simpa [Cond.before, Cond.holds, hv] using hle
  have hN : xs.length ≤ 3584 := (Int32.ofNat_le_ofNat hsm (by decide)).mp (show Int32.ofNat xs.length ≤ Int32.ofNat 3584 from hd)
  exact ⟨b, xs, Cond.one_arg hc (show args[0]? = some (.ref b) from hb), hx, hN, h⟩
theorem lw_comes (l : Launch) (hflags : l.flags = flags0) : Comes l x (Jvm.Cond.code x code maxLocals ret :: tables_1) room_1 (fun tb e args s => Calls_1 tb e args s ∧ rest_1 tb e args s ∧ Pre_1 tb e args s)
    (fun _ _ args s o t => lw_Q args s o t) := by
  intro p e ha hc hk s m args below hf hfit hheap happ hpre
  obtain ⟨b, xs, hP⟩ := lw_pre_spec hpre.2.2 hpre.2.1
  obtain ⟨k, o, h1, h2, h3, hQ⟩ := lw_walk l hflags b xs p e ha hc hk s m args below hf ((Spec.applies_iff_loose hf).mp happ).1 hP trivial
  exact ⟨k, o, h1, h2, h3, hQ⟩
theorem lw_frame {s t : State} {o : Outcome} {args : Array Value} (h : Framed s o t [] 600000 7302250) :
    Framed s o t (fieldLocs frame_1_writes args s ++ arrayLocs frame_1_arrays args s ++ staticLocs frame_1_statics s) 600000 7302250 := h
theorem lw_limb (L : Cond) (hL : ∀ (args : Array Value) (s t : State), L.after args s (.returned (some (.int 1))) t = true) :
    ArmFor flags0 classFile x code maxLocals ret World_1 tables_1 room_1 Calls_1 rest_1 Pre_1
      (fun tb e a s o t => postC L tb e a s o t ∧ Framed s o t (fieldLocs frame_1_writes a s ++ arrayLocs frame_1_arrays a s ++ staticLocs frame_1_statics s) 600000 7302250) := by
  intro l hflags _ _ p e ha hc hk s m args below hf hfit hheap happ hpre
  obtain ⟨k, o, h1, h2, h3, rfl, hF⟩ := lw_comes l hflags p e ha hc hk s m args below hf hfit hheap happ hpre
  exact ⟨k, _, h1, h2, h3, hL args s _, lw_frame hF⟩
theorem i_vc : Claimed_1_1 ∧ Claimed_1_2 := ⟨lw_limb limb_1_1 (fun args s t => by simp [limb_1_1, Cond.after, Cond.holds, Cond.value]), lw_limb limb_1_2 (fun args s t => Cond.after_iff.mpr (by
  first | (rw [show limb_1_2 = Cond.eq .result (.int 1) from rfl, Cond.eq_ints (x := 1) (y := 1) rfl rfl]; simp; done) | (simp [limb_1_2, Cond.value, Term.eval]; done)))⟩
