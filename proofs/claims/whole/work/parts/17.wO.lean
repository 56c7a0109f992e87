def wp_X8_write_34 (x1 : Int64) (x3 : Int32) (post : Int32 → St → Prop) : Nat → Int32 → St → Prop
  | 0 => fun _ _ => False
  | n + 1 => fun x4 σ => ((x3 ≤ x4 → post (σ 7 0 1) σ) ∧ (¬ x3 ≤ x4 → wp_X5_append (Int64.toInt32 ((x1 >>> (Int32.toInt64 (8 * x4) &&& 63)) &&& 255)) (fun σ1 => wp_X8_write_34 x1 x3 post n (x4 + 1) σ1) σ))
set_option maxHeartbeats 4000000 in
set_option maxRecDepth 100000 in
theorem wk_X8_write_34 {p : Program} {l : Launch} {e : Env} {s : State} {m : MethodId} {below : List Frame} {meth : Method} {c : Code} {D : va_G} {q : ClassId × ClassId × ClassId × ClassId} {ad : Nat → Nat → Nat} {t : Nat × Nat} {aK aV : Nat → Nat} {args : Array Value} (S : CallFix p m c cX8_write 5 s args GW "OnChin") (V : EvC D q ad t aK aV s) (hr : meth.sig.returnType = (some .int)) (hlocks : meth.locks = false) (x1 : Int64) (x3 : Int32) (post : Int32 → St → Prop)  : ∀ (n : Nat) (x4 : Int32) (σ : St) (H : Heap) (locs : List Loc) (ls : Array Slot), wp_X8_write_34 x1 x3 post n x4 σ → wo D clA LC ad s.heap H locs (EC q ad σ) → lv_has ls 5 [(0, .ref (ad 0 0)), (1, .long x1), (3, .int x3), (4, .int x4)] → W p l e { frames := 1, cells := 0, slots := 0, locals := 22 } s m args below meth c H locs 0 0 (MQ below (zQi D clA LC ad (EC q ad) post) args s 0 0 (zA LC ad)) (F0 m 34 ls []) := by
  have hx := S.1
  have hb := S.2.1
  intro n
  induction n with
  | zero => intro x4 σ H locs ls h; exact False.elim h
  | succ n ih =>
    intro x4 σ H locs ls h  hw hl
    refine lv_iload hx hb dX8_write_34 (lv_at hl 3 rfl) ?_
    refine lv_iload_n hx hb dX8_write_36 rfl (lv_at hl 2 rfl) ?_
    refine lv_icmp_ge (tgt := 65) hx hb dX8_write_37 (by decide) (fun hc => ?_) (fun hc => ?_)
    · have h := h.1 hc
      refine lv_aload_n hx hb dX8_write_65 rfl (lv_at hl 0 rfl) ?_
      refine gC_0_1 S V hw (Nat.le_of_ble_eq_true rfl) fl_X8_19 dX8_write_66 ?_
      refine gC_7_1 S V hw (Nat.le_of_ble_eq_true rfl) fl_X8_66 rfl dX8_write_69 ?_
      exact ret_i S hr hlocks hw h dX8_write_72
    · have h := h.2 hc
      refine lv_aload_n hx hb dX8_write_40 rfl (lv_at hl 0 rfl) ?_
      refine gC_0_1 S V hw (Nat.le_of_ble_eq_true rfl) fl_X8_19 dX8_write_41 ?_
      refine lv_lload_n hx hb dX8_write_44 rfl (lv_at hl 1 rfl) ?_
      refine lv_bipush (v := 8) hx hb dX8_write_45 (by decide) ?_
      refine lv_iload hx hb dX8_write_47 (lv_at hl 3 rfl) ?_
      refine lv_imul hx hb dX8_write_49 ?_
      refine lv_lshr (v := (x1 >>> (Int32.toInt64 (8 * x4) &&& 63))) hx hb dX8_write_50 rfl ?_
      refine lv_ldc2 (v := 255) hx hb S.2.2.2.1 (gw_S S _ kc_X8_70) dX8_write_51 ?_
      refine lv_land hx hb dX8_write_54 ?_
      refine lv_l2i (v := (Int64.toInt32 ((x1 >>> (Int32.toInt64 (8 * x4) &&& 63)) &&& 255))) hx hb dX8_write_55 rfl ?_
      refine call_Vv (As := [.int (Int64.toInt32 ((x1 >>> (Int32.toInt64 (8 * x4) &&& 63)) &&& 255))]) (rest := []) EvC_ok S V hw (mt_X5_append l D q ad t aK aV (Int64.toInt32 ((x1 >>> (Int32.toInt64 (8 * x4) &&& 63)) &&& 255))  σ _ h) ok_X5_append ml_X8_72 (rC_7 S V hw (Nat.le_of_ble_eq_true rfl)) ⟨(Nat.le_of_ble_eq_true rfl), (Nat.le_of_ble_eq_true rfl)⟩ ⟨rfl, rfl⟩ rfl hl.1 rfl (Nat.le_of_ble_eq_true rfl) dX8_write_56 (fun σ1 H locs h hw => ?_)
      refine lv_iinc (v := (x4 + 1)) (lv' := [(4, .int (x4 + 1)), (0, .ref (ad 0 0)), (1, .long x1), (3, .int x3)]) hx hb dX8_write_59 hl (k := 3) rfl rfl (by decide) rfl (fun ls hl => ?_)
      refine lv_goto (tgt := 34) hx hb dX8_write_62 (by decide) ?_
      exact ih (x4 + 1) _ _ _ _ h  hw (lv_sub hl [1, 2, 3, 0] rfl)
def wp_X8_write (x1 : Int64) (x3 : Int32) (post : Int32 → St → Prop)  (σ : St) : Prop := wp_X8_within x3 1 8 (fun r1 σ1 => ((¬ r1 = 0 → ((((σ1 7 0 1) + x3) ≤ 200 → ∃ nn, wp_X8_write_34 x1 x3 post nn 0 σ1) ∧ (¬ ((σ1 7 0 1) + x3) ≤ 200 → post (-5) σ1))) ∧ (r1 = 0 → post (-3) σ1))) σ
set_option maxHeartbeats 4000000 in
set_option maxRecDepth 100000 in
theorem wk_X8_write_0 {p : Program} {l : Launch} {e : Env} {s : State} {m : MethodId} {below : List Frame} {meth : Method} {c : Code} {D : va_G} {q : ClassId × ClassId × ClassId × ClassId} {ad : Nat → Nat → Nat} {t : Nat × Nat} {aK aV : Nat → Nat} {args : Array Value} (S : CallFix p m c cX8_write 5 s args GW "OnChin") (V : EvC D q ad t aK aV s) (hr : meth.sig.returnType = (some .int)) (hlocks : meth.locks = false) (x1 : Int64) (x3 : Int32) (post : Int32 → St → Prop)  : ∀ (σ : St) (H : Heap) (locs : List Loc) (ls : Array Slot), wp_X8_write x1 x3 post  σ → wo D clA LC ad s.heap H locs (EC q ad σ) → lv_has ls 5 [(0, .ref (ad 0 0)), (1, .long x1), (3, .int x3)] → W p l e { frames := 1, cells := 0, slots := 0, locals := 22 } s m args below meth c H locs 0 0 (MQ below (zQi D clA LC ad (EC q ad) post) args s 0 0 (zA LC ad)) (F0 m 0 ls []) := by
  have hx := S.1
  have hb := S.2.1
  intro  σ H locs ls h  hw hl
  have h : wp_X8_within x3 1 8 (fun r1 σ1 => ((¬ r1 = 0 → ((((σ1 7 0 1) + x3) ≤ 200 → ∃ nn, wp_X8_write_34 x1 x3 post nn 0 σ1) ∧ (¬ ((σ1 7 0 1) + x3) ≤ 200 → post (-5) σ1))) ∧ (r1 = 0 → post (-3) σ1))) σ := h
  refine lv_iload_n hx hb dX8_write_0 rfl (lv_at hl 2 rfl) ?_
  refine lv_iconst (v := 1) hx hb dX8_write_1 (by decide) ?_
  refine lv_bipush (v := 8) hx hb dX8_write_2 (by decide) ?_
  refine call_Si (As := [.int x3, .int 1, .int 8]) (rest := []) EvC_ok S V hw (mt_X8_within l D q ad t aK aV x3 1 8  σ _ h) ok_X8_within ml_X8_62 ⟨(Nat.le_of_ble_eq_true rfl), (Nat.le_of_ble_eq_true rfl)⟩ ⟨rfl, rfl⟩ rfl hl.1 rfl (Nat.le_of_ble_eq_true rfl) dX8_write_4 (fun r1 σ1 H locs h hw => ?_)
  refine lv_if_ne (tgt := 13) hx hb dX8_write_7 (by decide) (fun hc => ?_) (fun hc => ?_)
  · have h := h.1 hc
    refine lv_aload_n hx hb dX8_write_13 rfl (lv_at hl 0 rfl) ?_
    refine gC_0_1 S V hw (Nat.le_of_ble_eq_true rfl) fl_X8_19 dX8_write_14 ?_
    refine gC_7_1 S V hw (Nat.le_of_ble_eq_true rfl) fl_X8_66 rfl dX8_write_17 ?_
    refine lv_iload_n hx hb dX8_write_20 rfl (lv_at hl 2 rfl) ?_
    refine lv_iadd hx hb dX8_write_21 ?_
    refine lv_sipush (v := 200) hx hb dX8_write_22 (by decide) ?_
    refine lv_icmp_le (tgt := 31) hx hb dX8_write_25 (by decide) (fun hc => ?_) (fun hc => ?_)
    · have h := h.1 hc
      refine lv_iconst (v := 0) hx hb dX8_write_31 (by decide) ?_
      refine lv_istore (lv' := [(4, .int 0), (0, .ref (ad 0 0)), (1, .long x1), (3, .int x3)]) hx hb dX8_write_32 hl (by decide) rfl (fun ls hl => ?_)
      obtain ⟨n9, h⟩ := h
      exact wk_X8_write_34 S V hr hlocks x1 x3   post  n9 0 _ _ _ _ h  hw (lv_sub hl [1, 2, 3, 0] rfl)
    · have h := h.2 hc
      refine lv_bipush (v := (-5)) hx hb dX8_write_28 (by decide) ?_
      exact ret_i S hr hlocks hw h dX8_write_30
  · have h := h.2 hc
    refine lv_bipush (v := (-3)) hx hb dX8_write_10 (by decide) ?_
    exact ret_i S hr hlocks hw h dX8_write_12
theorem mt_X8_write (l : Launch) (D : va_G) (q : ClassId × ClassId × ClassId × ClassId) (ad : Nat → Nat → Nat) (t : Nat × Nat) (aK aV : Nat → Nat) (x1 : Int64) (x3 : Int32) (σ : St) (post : Int32 → St → Prop) (h : wp_X8_write x1 x3 post σ) : cI l D clA LC ad (EC q ad) (EvC D q ad t aK aV) yX8_write cX8_write 5 (some .int) { frames := 1, cells := 0, slots := 0, locals := 22 } [.ref (ad 0 0), .long x1, .int x3] σ post :=
  ent_i (by decide) (Nat.le_of_ble_eq_true rfl) (fun p e s m below meth c S V hr hlocks hw ls hl => wk_X8_write_0 S V hr hlocks x1 x3  post   σ _ _ ls h  hw (lv_sub hl [0, 1, 2] rfl))
def wp_X8_erase (post : Int32 → St → Prop)  (σ : St) : Prop := post (σ 7 0 1) (su σ 7 0 1 0)
set_option maxHeartbeats 4000000 in
set_option maxRecDepth 100000 in
theorem wk_X8_erase_0 {p : Program} {l : Launch} {e : Env} {s : State} {m : MethodId} {below : List Frame} {meth : Method} {c : Code} {D : va_G} {q : ClassId × ClassId × ClassId × ClassId} {ad : Nat → Nat → Nat} {t : Nat × Nat} {aK aV : Nat → Nat} {args : Array Value} (S : CallFix p m c cX8_erase 2 s args GW "OnChin") (V : EvC D q ad t aK aV s) (hr : meth.sig.returnType = (some .int)) (hlocks : meth.locks = false) (post : Int32 → St → Prop)  : ∀ (σ : St) (H : Heap) (locs : List Loc) (ls : Array Slot), wp_X8_erase post  σ → wo D clA LC ad s.heap H locs (EC q ad σ) → lv_has ls 2 [(0, .ref (ad 0 0))] → W p l e { frames := 0, cells := 0, slots := 0, locals := 0 } s m args below meth c H locs 0 0 (MQ below (zQi D clA LC ad (EC q ad) post) args s 0 0 (zA LC ad)) (F0 m 0 ls []) := by
  have hx := S.1
  have hb := S.2.1
  intro  σ H locs ls h  hw hl
  refine lv_aload_n hx hb dX8_erase_0 rfl (lv_at hl 0 rfl) ?_
  refine gC_0_1 S V hw (Nat.le_of_ble_eq_true rfl) fl_X8_19 dX8_erase_1 ?_
  refine gC_7_1 S V hw (Nat.le_of_ble_eq_true rfl) fl_X8_66 rfl dX8_erase_4 ?_
  refine lv_istore_n (lv' := [(1, .int (σ 7 0 1)), (0, .ref (ad 0 0))]) hx hb dX8_erase_7 rfl hl (by decide) rfl (fun ls hl => ?_)
  refine lv_aload_n hx hb dX8_erase_8 rfl (lv_at hl 1 rfl) ?_
  refine gC_0_1 S V hw (Nat.le_of_ble_eq_true rfl) fl_X8_19 dX8_erase_9 ?_
  refine lv_iconst (v := 0) hx hb dX8_erase_12 (by decide) ?_
  refine pC_7_1 S V hw (Nat.le_of_ble_eq_true rfl) fl_X8_66 dX8_erase_13 (fun H locs hw => ?_)
  refine lv_iload_n hx hb dX8_erase_16 rfl (lv_at hl 0 rfl) ?_
  exact ret_i S hr hlocks hw h dX8_erase_17
theorem mt_X8_erase (l : Launch) (D : va_G) (q : ClassId × ClassId × ClassId × ClassId) (ad : Nat → Nat → Nat) (t : Nat × Nat) (aK aV : Nat → Nat)  (σ : St) (post : Int32 → St → Prop) (h : wp_X8_erase post σ) : cI l D clA LC ad (EC q ad) (EvC D q ad t aK aV) yX8_erase cX8_erase 2 (some .int) { frames := 0, cells := 0, slots := 0, locals := 0 } [.ref (ad 0 0)] σ post :=
  ent_i (by decide) (Nat.le_of_ble_eq_true rfl) (fun p e s m below meth c S V hr hlocks hw ls hl => wk_X8_erase_0 S V hr hlocks   post   σ _ _ ls h  hw (lv_sub hl [0] rfl))
def wp_X8_fault (post : Int32 → St → Prop)  (σ : St) : Prop := wp_X5_firstFault (fun r1 σ1 => post r1 σ1) σ
set_option maxHeartbeats 4000000 in
set_option maxRecDepth 100000 in
theorem wk_X8_fault_0 {p : Program} {l : Launch} {e : Env} {s : State} {m : MethodId} {below : List Frame} {meth : Method} {c : Code} {D : va_G} {q : ClassId × ClassId × ClassId × ClassId} {ad : Nat → Nat → Nat} {t : Nat × Nat} {aK aV : Nat → Nat} {args : Array Value} (S : CallFix p m c cX8_fault 1 s args GW "OnChin") (V : EvC D q ad t aK aV s) (hr : meth.sig.returnType = (some .int)) (hlocks : meth.locks = false) (post : Int32 → St → Prop)  : ∀ (σ : St) (H : Heap) (locs : List Loc) (ls : Array Slot), wp_X8_fault post  σ → wo D clA LC ad s.heap H locs (EC q ad σ) → lv_has ls 1 [(0, .ref (ad 0 0))] → W p l e { frames := 9, cells := 0, slots := 0, locals := 247 } s m args below meth c H locs 0 0 (MQ below (zQi D clA LC ad (EC q ad) post) args s 0 0 (zA LC ad)) (F0 m 0 ls []) := by
  have hx := S.1
  have hb := S.2.1
  intro  σ H locs ls h  hw hl
  have h : wp_X5_firstFault (fun r1 σ1 => post r1 σ1) σ := h
  refine lv_aload_n hx hb dX8_fault_0 rfl (lv_at hl 0 rfl) ?_
  refine gC_0_1 S V hw (Nat.le_of_ble_eq_true rfl) fl_X8_19 dX8_fault_1 ?_
  refine lv_aload_n hx hb dX8_fault_4 rfl (lv_at hl 0 rfl) ?_
  refine gC_0_0 S V hw (Nat.le_of_ble_eq_true rfl) fl_X8_12 dX8_fault_5 ?_
  refine call_Vi (As := [.ref (ad 1 0)]) (rest := []) EvC_ok S V hw (mt_X5_firstFault l D q ad t aK aV   σ _ h) ok_X5_firstFault ml_X8_76 (rC_7 S V hw (Nat.le_of_ble_eq_true rfl)) ⟨(Nat.le_of_ble_eq_true rfl), (Nat.le_of_ble_eq_true rfl)⟩ ⟨rfl, rfl⟩ rfl hl.1 rfl (Nat.le_of_ble_eq_true rfl) dX8_fault_8 (fun r1 σ1 H locs h hw => ?_)
  exact ret_i S hr hlocks hw h dX8_fault_11
theorem mt_X8_fault (l : Launch) (D : va_G) (q : ClassId × ClassId × ClassId × ClassId) (ad : Nat → Nat → Nat) (t : Nat × Nat) (aK aV : Nat → Nat)  (σ : St) (post : Int32 → St → Prop) (h : wp_X8_fault post σ) : cI l D clA LC ad (EC q ad) (EvC D q ad t aK aV) yX8_fault cX8_fault 1 (some .int) { frames := 9, cells := 0, slots := 0, locals := 247 } [.ref (ad 0 0)] σ post :=
  ent_i (by decide) (Nat.le_of_ble_eq_true rfl) (fun p e s m below meth c S V hr hlocks hw ls hl => wk_X8_fault_0 S V hr hlocks   post   σ _ _ ls h  hw (lv_sub hl [0] rfl))
def wp_X8_chin (post : Int32 → St → Prop)  (σ : St) : Prop := wp_X5_firstFault (fun r1 σ1 => ((r1 = (-1) → wp_X5_tell (fun σ2 => post (σ2 7 0 2) (su σ2 7 0 1 0)) σ1) ∧ (¬ r1 = (-1) → post (-4) σ1))) σ
set_option maxHeartbeats 4000000 in
set_option maxRecDepth 100000 in
theorem wk_X8_chin_0 {p : Program} {l : Launch} {e : Env} {s : State} {m : MethodId} {below : List Frame} {meth : Method} {c : Code} {D : va_G} {q : ClassId × ClassId × ClassId × ClassId} {ad : Nat → Nat → Nat} {t : Nat × Nat} {aK aV : Nat → Nat} {args : Array Value} (S : CallFix p m c cX8_chin 1 s args GW "OnChin") (V : EvC D q ad t aK aV s) (hr : meth.sig.returnType = (some .int)) (hlocks : meth.locks = false) (post : Int32 → St → Prop)  : ∀ (σ : St) (H : Heap) (locs : List Loc) (ls : Array Slot), wp_X8_chin post  σ → wo D clA LC ad s.heap H locs (EC q ad σ) → lv_has ls 1 [(0, .ref (ad 0 0))] → W p l e { frames := 9, cells := 0, slots := 0, locals := 247 } s m args below meth c H locs 0 0 (MQ below (zQi D clA LC ad (EC q ad) post) args s 0 0 (zA LC ad)) (F0 m 0 ls []) := by
  have hx := S.1
  have hb := S.2.1
  intro  σ H locs ls h  hw hl
  have h : wp_X5_firstFault (fun r1 σ1 => ((r1 = (-1) → wp_X5_tell (fun σ2 => post (σ2 7 0 2) (su σ2 7 0 1 0)) σ1) ∧ (¬ r1 = (-1) → post (-4) σ1))) σ := h
  refine lv_aload_n hx hb dX8_chin_0 rfl (lv_at hl 0 rfl) ?_
  refine gC_0_1 S V hw (Nat.le_of_ble_eq_true rfl) fl_X8_19 dX8_chin_1 ?_
  refine lv_aload_n hx hb dX8_chin_4 rfl (lv_at hl 0 rfl) ?_
  refine gC_0_0 S V hw (Nat.le_of_ble_eq_true rfl) fl_X8_12 dX8_chin_5 ?_
  refine call_Vi (As := [.ref (ad 1 0)]) (rest := []) EvC_ok S V hw (mt_X5_firstFault l D q ad t aK aV   σ _ h) ok_X5_firstFault ml_X8_76 (rC_7 S V hw (Nat.le_of_ble_eq_true rfl)) ⟨(Nat.le_of_ble_eq_true rfl), (Nat.le_of_ble_eq_true rfl)⟩ ⟨rfl, rfl⟩ rfl hl.1 rfl (Nat.le_of_ble_eq_true rfl) dX8_chin_8 (fun r1 σ1 H locs h hw => ?_)
  refine lv_iconst (v := (-1)) hx hb dX8_chin_11 (by decide) ?_
  refine lv_icmp_eq (tgt := 18) hx hb dX8_chin_12 (by decide) (fun hc => ?_) (fun hc => ?_)
  · have h := h.1 hc
    refine lv_aload_n hx hb dX8_chin_18 rfl (lv_at hl 0 rfl) ?_
    refine gC_0_1 S V hw (Nat.le_of_ble_eq_true rfl) fl_X8_19 dX8_chin_19 ?_
    refine lv_aload_n hx hb dX8_chin_22 rfl (lv_at hl 0 rfl) ?_
    refine gC_0_0 S V hw (Nat.le_of_ble_eq_true rfl) fl_X8_12 dX8_chin_23 ?_
    refine call_Vv (As := [.ref (ad 1 0)]) (rest := []) EvC_ok S V hw (mt_X5_tell l D q ad t aK aV   σ1 _ h) ok_X5_tell ml_X8_80 (rC_7 S V hw (Nat.le_of_ble_eq_true rfl)) ⟨(Nat.le_of_ble_eq_true rfl), (Nat.le_of_ble_eq_true rfl)⟩ ⟨rfl, rfl⟩ rfl hl.1 rfl (Nat.le_of_ble_eq_true rfl) dX8_chin_26 (fun σ2 H locs h hw => ?_)
    refine lv_aload_n hx hb dX8_chin_29 rfl (lv_at hl 0 rfl) ?_
    refine gC_0_1 S V hw (Nat.le_of_ble_eq_true rfl) fl_X8_19 dX8_chin_30 ?_
    refine lv_iconst (v := 0) hx hb dX8_chin_33 (by decide) ?_
    refine pC_7_1 S V hw (Nat.le_of_ble_eq_true rfl) fl_X8_66 dX8_chin_34 (fun H locs hw => ?_)
    refine lv_aload_n hx hb dX8_chin_37 rfl (lv_at hl 0 rfl) ?_
    refine gC_0_1 S V hw (Nat.le_of_ble_eq_true rfl) fl_X8_19 dX8_chin_38 ?_
    refine gC_7_2 S V hw (Nat.le_of_ble_eq_true rfl) fl_X8_84 (su_nk rfl) dX8_chin_41 ?_
    exact ret_i S hr hlocks hw h dX8_chin_44
  · have h := h.2 hc
    refine lv_bipush (v := (-4)) hx hb dX8_chin_15 (by decide) ?_
    exact ret_i S hr hlocks hw h dX8_chin_17
theorem mt_X8_chin (l : Launch) (D : va_G) (q : ClassId × ClassId × ClassId × ClassId) (ad : Nat → Nat → Nat) (t : Nat × Nat) (aK aV : Nat → Nat)  (σ : St) (post : Int32 → St → Prop) (h : wp_X8_chin post σ) : cI l D clA LC ad (EC q ad) (EvC D q ad t aK aV) yX8_chin cX8_chin 1 (some .int) { frames := 9, cells := 0, slots := 0, locals := 247 } [.ref (ad 0 0)] σ post :=
  ent_i (by decide) (Nat.le_of_ble_eq_true rfl) (fun p e s m below meth c S V hr hlocks hw ls hl => wk_X8_chin_0 S V hr hlocks   post   σ _ _ ls h  hw (lv_sub hl [0] rfl))
def wp_X8_thing (x1 : Int32) (x2 : Int32) (post : Int32 → St → Prop)  (σ : St) : Prop := wp_X8_isThing x1 (fun r1 σ1 => ((¬ r1 = 0 → (vp_in x1 4 ∧ ((x2 = 0 → post (σ1 2 x1.toNatClampNeg 0) σ1) ∧ (¬ x2 = 0 → ((x2 = 1 → post (σ1 2 x1.toNatClampNeg 1) σ1) ∧ (¬ x2 = 1 → ((x2 = 2 → post (σ1 2 x1.toNatClampNeg 2) σ1) ∧ (¬ x2 = 2 → ((x2 = 3 → post (σ1 2 x1.toNatClampNeg 3) σ1) ∧ (¬ x2 = 3 → ((x2 = 4 → post (σ1 2 x1.toNatClampNeg 4) σ1) ∧ (¬ x2 = 4 → post (-3) σ1)))))))))))) ∧ (r1 = 0 → post (-2) σ1))) σ
set_option maxHeartbeats 4000000 in
set_option maxRecDepth 100000 in
theorem wk_X8_thing_0 {p : Program} {l : Launch} {e : Env} {s : State} {m : MethodId} {below : List Frame} {meth : Method} {c : Code} {D : va_G} {q : ClassId × ClassId × ClassId × ClassId} {ad : Nat → Nat → Nat} {t : Nat × Nat} {aK aV : Nat → Nat} {args : Array Value} (S : CallFix p m c cX8_thing 4 s args GW "OnChin") (V : EvC D q ad t aK aV s) (hr : meth.sig.returnType = (some .int)) (hlocks : meth.locks = false) (x1 : Int32) (x2 : Int32) (post : Int32 → St → Prop)  : ∀ (σ : St) (H : Heap) (locs : List Loc) (ls : Array Slot), wp_X8_thing x1 x2 post  σ → wo D clA LC ad s.heap H locs (EC q ad σ) → lv_has ls 4 [(0, .ref (ad 0 0)), (1, .int x1), (2, .int x2)] → W p l e { frames := 2, cells := 0, slots := 0, locals := 42 } s m args below meth c H locs 0 0 (MQ below (zQi D clA LC ad (EC q ad) post) args s 0 0 (zA LC ad)) (F0 m 0 ls []) := by
  have hx := S.1
  have hb := S.2.1
  intro  σ H locs ls h  hw hl
  have h : wp_X8_isThing x1 (fun r1 σ1 => ((¬ r1 = 0 → (vp_in x1 4 ∧ ((x2 = 0 → post (σ1 2 x1.toNatClampNeg 0) σ1) ∧ (¬ x2 = 0 → ((x2 = 1 → post (σ1 2 x1.toNatClampNeg 1) σ1) ∧ (¬ x2 = 1 → ((x2 = 2 → post (σ1 2 x1.toNatClampNeg 2) σ1) ∧ (¬ x2 = 2 → ((x2 = 3 → post (σ1 2 x1.toNatClampNeg 3) σ1) ∧ (¬ x2 = 3 → ((x2 = 4 → post (σ1 2 x1.toNatClampNeg 4) σ1) ∧ (¬ x2 = 4 → post (-3) σ1)))))))))))) ∧ (r1 = 0 → post (-2) σ1))) σ := h
  refine lv_iload_n hx hb dX8_thing_0 rfl (lv_at hl 1 rfl) ?_
  refine call_Si (As := [.int x1]) (rest := []) EvC_ok S V hw (mt_X8_isThing l D q ad t aK aV x1  σ _ h) ok_X8_isThing ml_X8_87 ⟨(Nat.le_of_ble_eq_true rfl), (Nat.le_of_ble_eq_true rfl)⟩ ⟨rfl, rfl⟩ rfl hl.1 rfl (Nat.le_of_ble_eq_true rfl) dX8_thing_1 (fun r1 σ1 H locs h hw => ?_)
  refine lv_if_ne (tgt := 10) hx hb dX8_thing_4 (by decide) (fun hc => ?_) (fun hc => ?_)
  · have h := h.1 hc
    refine lv_aload_n hx hb dX8_thing_10 rfl (lv_at hl 0 rfl) ?_
    refine gC_0_0 S V hw (Nat.le_of_ble_eq_true rfl) fl_X8_12 dX8_thing_11 ?_
    refine gC_1_0 S V hw (Nat.le_of_ble_eq_true rfl) fl_X8_91 dX8_thing_14 ?_
    refine lv_iload_n hx hb dX8_thing_17 rfl (lv_at hl 1 rfl) ?_
    have hv2 := h.1
    have h := h.2
    refine aC_5 S V hw (Nat.le_of_ble_eq_true rfl) hv2 dX8_thing_18 ?_
    refine lv_astore_n (lv' := [(3, .ref (ad 2 x1.toNatClampNeg)), (0, .ref (ad 0 0)), (1, .int x1), (2, .int x2)]) hx hb dX8_thing_19 rfl hl (by decide) rfl (fun ls hl => ?_)
    refine lv_iload_n hx hb dX8_thing_20 rfl (lv_at hl 3 rfl) ?_
    by_cases hc0 : x2 = 0
    · have h := h.1 hc0
      refine lv_tableIn (tgt := 56) hx hb dX8_thing_21 (by rw [hc0]; decide) (by rw [hc0]; decide) (by rw [hc0]; rfl) (by decide) ?_
      refine lv_aload_n hx hb dX8_thing_56 rfl (lv_at hl 0 rfl) ?_
      refine gC_2_0 S V hw (vin_lt hv2 (Nat.le_of_ble_eq_true rfl)) fl_X8_95 rfl dX8_thing_57 ?_
      exact ret_i S hr hlocks hw h dX8_thing_60
    · have h := h.2 hc0
      by_cases hc1 : x2 = 1
      · have h := h.1 hc1
        refine lv_tableIn (tgt := 61) hx hb dX8_thing_21 (by rw [hc1]; decide) (by rw [hc1]; decide) (by rw [hc1]; rfl) (by decide) ?_
        refine lv_aload_n hx hb dX8_thing_61 rfl (lv_at hl 0 rfl) ?_
        refine gC_2_1 S V hw (vin_lt hv2 (Nat.le_of_ble_eq_true rfl)) fl_X8_100 rfl dX8_thing_62 ?_
        exact ret_i S hr hlocks hw h dX8_thing_65
      · have h := h.2 hc1
        by_cases hc2 : x2 = 2
        · have h := h.1 hc2
          refine lv_tableIn (tgt := 66) hx hb dX8_thing_21 (by rw [hc2]; decide) (by rw [hc2]; decide) (by rw [hc2]; rfl) (by decide) ?_
          refine lv_aload_n hx hb dX8_thing_66 rfl (lv_at hl 0 rfl) ?_
          refine gC_2_2 S V hw (vin_lt hv2 (Nat.le_of_ble_eq_true rfl)) fl_X8_103 rfl dX8_thing_67 ?_
          exact ret_i S hr hlocks hw h dX8_thing_70
        · have h := h.2 hc2
          by_cases hc3 : x2 = 3
          · have h := h.1 hc3
            refine lv_tableIn (tgt := 71) hx hb dX8_thing_21 (by rw [hc3]; decide) (by rw [hc3]; decide) (by rw [hc3]; rfl) (by decide) ?_
            refine lv_aload_n hx hb dX8_thing_71 rfl (lv_at hl 0 rfl) ?_
            refine gC_2_3 S V hw (vin_lt hv2 (Nat.le_of_ble_eq_true rfl)) fl_X8_106 rfl dX8_thing_72 ?_
            exact ret_i S hr hlocks hw h dX8_thing_75
          · have h := h.2 hc3
            by_cases hc4 : x2 = 4
            · have h := h.1 hc4
              refine lv_tableIn (tgt := 76) hx hb dX8_thing_21 (by rw [hc4]; decide) (by rw [hc4]; decide) (by rw [hc4]; rfl) (by decide) ?_
              refine lv_aload_n hx hb dX8_thing_76 rfl (lv_at hl 0 rfl) ?_
              refine gC_2_4 S V hw (vin_lt hv2 (Nat.le_of_ble_eq_true rfl)) fl_X8_109 rfl dX8_thing_77 ?_
              exact ret_i S hr hlocks hw h dX8_thing_80
            · have h := h.2 hc4
              refine lv_tableOut (tgt := 81) hx hb dX8_thing_21 (by have e0 := lv_neT (k := 0) (a := 0) hc0 rfl; have e1 := lv_neT (k := 1) (a := 1) hc1 rfl; have e2 := lv_neT (k := 2) (a := 2) hc2 rfl; have e3 := lv_neT (k := 3) (a := 3) hc3 rfl; have e4 := lv_neT (k := 4) (a := 4) hc4 rfl; omega) (by decide) ?_
              refine lv_bipush (v := (-3)) hx hb dX8_thing_81 (by decide) ?_
              exact ret_i S hr hlocks hw h dX8_thing_83
  · have h := h.2 hc
    refine lv_bipush (v := (-2)) hx hb dX8_thing_7 (by decide) ?_
    exact ret_i S hr hlocks hw h dX8_thing_9
theorem mt_X8_thing (l : Launch) (D : va_G) (q : ClassId × ClassId × ClassId × ClassId) (ad : Nat → Nat → Nat) (t : Nat × Nat) (aK aV : Nat → Nat) (x1 : Int32) (x2 : Int32) (σ : St) (post : Int32 → St → Prop) (h : wp_X8_thing x1 x2 post σ) : cI l D clA LC ad (EC q ad) (EvC D q ad t aK aV) yX8_thing cX8_thing 4 (some .int) { frames := 2, cells := 0, slots := 0, locals := 42 } [.ref (ad 0 0), .int x1, .int x2] σ post :=
  ent_i (by decide) (Nat.le_of_ble_eq_true rfl) (fun p e s m below meth c S V hr hlocks hw ls hl => wk_X8_thing_0 S V hr hlocks x1 x2  post   σ _ _ ls h  hw (lv_sub hl [0, 1, 2] rfl))
def wp_X8_lump_29 (x1 : Int32) (x2 : Int32) (x3 : Int32) (post : Int32 → St → Prop)  (σ : St) : Prop := post (-2) σ
set_option maxHeartbeats 4000000 in
set_option maxRecDepth 100000 in
theorem wk_X8_lump_29 {p : Program} {l : Launch} {e : Env} {s : State} {m : MethodId} {below : List Frame} {meth : Method} {c : Code} {D : va_G} {q : ClassId × ClassId × ClassId × ClassId} {ad : Nat → Nat → Nat} {t : Nat × Nat} {aK aV : Nat → Nat} {args : Array Value} (S : CallFix p m c cX8_lump 4 s args GW "OnChin") (V : EvC D q ad t aK aV s) (hr : meth.sig.returnType = (some .int)) (hlocks : meth.locks = false) (x1 : Int32) (x2 : Int32) (x3 : Int32) (post : Int32 → St → Prop)  : ∀ (σ : St) (H : Heap) (locs : List Loc) (ls : Array Slot), wp_X8_lump_29 x1 x2 x3 post  σ → wo D clA LC ad s.heap H locs (EC q ad σ) → lv_has ls 4 [(0, .ref (ad 0 0)), (1, .int x1), (2, .int x2), (3, .int x3)] → W p l e { frames := 2, cells := 0, slots := 0, locals := 42 } s m args below meth c H locs 0 0 (MQ below (zQi D clA LC ad (EC q ad) post) args s 0 0 (zA LC ad)) (F0 m 29 ls []) := by
  have hx := S.1
  have hb := S.2.1
  intro  σ H locs ls h  hw hl
  refine lv_bipush (v := (-2)) hx hb dX8_lump_29 (by decide) ?_
  exact ret_i S hr hlocks hw h dX8_lump_31
def wp_X8_lump (x1 : Int32) (x2 : Int32) (x3 : Int32) (post : Int32 → St → Prop)  (σ : St) : Prop := wp_X8_isThing x1 (fun r1 σ1 => ((r1 = 0 → wp_X8_lump_29 x1 x2 x3 post  σ1) ∧ (¬ r1 = 0 → (vp_in x1 4 ∧ wp_X8_within x2 0 ((σ1 2 x1.toNatClampNeg 2) - 1) (fun r3 σ3 => ((¬ r3 = 0 → ((x3 = 0 → (vp_in x1 4 ∧ (vp_in x2 4 ∧ post (σ3 3 x1.toNatClampNeg x2.toNatClampNeg) σ3))) ∧ (¬ x3 = 0 → ((x3 = 1 → (vp_in x1 4 ∧ (vp_in x2 4 ∧ post (σ3 4 x1.toNatClampNeg x2.toNatClampNeg) σ3))) ∧ (¬ x3 = 1 → post (-3) σ3))))) ∧ (r3 = 0 → wp_X8_lump_29 x1 x2 x3 post  σ3))) σ1)))) σ
set_option maxHeartbeats 4000000 in
set_option maxRecDepth 100000 in
theorem wk_X8_lump_0 {p : Program} {l : Launch} {e : Env} {s : State} {m : MethodId} {below : List Frame} {meth : Method} {c : Code} {D : va_G} {q : ClassId × ClassId × ClassId × ClassId} {ad : Nat → Nat → Nat} {t : Nat × Nat} {aK aV : Nat → Nat} {args : Array Value} (S : CallFix p m c cX8_lump 4 s args GW "OnChin") (V : EvC D q ad t aK aV s) (hr : meth.sig.returnType = (some .int)) (hlocks : meth.locks = false) (x1 : Int32) (x2 : Int32) (x3 : Int32) (post : Int32 → St → Prop)  : ∀ (σ : St) (H : Heap) (locs : List Loc) (ls : Array Slot), wp_X8_lump x1 x2 x3 post  σ → wo D clA LC ad s.heap H locs (EC q ad σ) → lv_has ls 4 [(0, .ref (ad 0 0)), (1, .int x1), (2, .int x2), (3, .int x3)] → W p l e { frames := 2, cells := 0, slots := 0, locals := 42 } s m args below meth c H locs 0 0 (MQ below (zQi D clA LC ad (EC q ad) post) args s 0 0 (zA LC ad)) (F0 m 0 ls []) := by
  have hx := S.1
  have hb := S.2.1
  intro  σ H locs ls h  hw hl
  have h : wp_X8_isThing x1 (fun r1 σ1 => ((r1 = 0 → wp_X8_lump_29 x1 x2 x3 post  σ1) ∧ (¬ r1 = 0 → (vp_in x1 4 ∧ wp_X8_within x2 0 ((σ1 2 x1.toNatClampNeg 2) - 1) (fun r3 σ3 => ((¬ r3 = 0 → ((x3 = 0 → (vp_in x1 4 ∧ (vp_in x2 4 ∧ post (σ3 3 x1.toNatClampNeg x2.toNatClampNeg) σ3))) ∧ (¬ x3 = 0 → ((x3 = 1 → (vp_in x1 4 ∧ (vp_in x2 4 ∧ post (σ3 4 x1.toNatClampNeg x2.toNatClampNeg) σ3))) ∧ (¬ x3 = 1 → post (-3) σ3))))) ∧ (r3 = 0 → wp_X8_lump_29 x1 x2 x3 post  σ3))) σ1)))) σ := h
  refine lv_iload_n hx hb dX8_lump_0 rfl (lv_at hl 1 rfl) ?_
  refine call_Si (As := [.int x1]) (rest := []) EvC_ok S V hw (mt_X8_isThing l D q ad t aK aV x1  σ _ h) ok_X8_isThing ml_X8_87 ⟨(Nat.le_of_ble_eq_true rfl), (Nat.le_of_ble_eq_true rfl)⟩ ⟨rfl, rfl⟩ rfl hl.1 rfl (Nat.le_of_ble_eq_true rfl) dX8_lump_1 (fun r1 σ1 H locs h hw => ?_)
  refine lv_if_eq (tgt := 29) hx hb dX8_lump_4 (by decide) (fun hc => ?_) (fun hc => ?_)
  · have h := h.1 hc
    exact wk_X8_lump_29 S V hr hlocks x1 x2 x3   post   _ _ _ _ h  hw (lv_sub hl [0, 1, 2, 3] rfl)
  · have h := h.2 hc
    refine lv_iload_n hx hb dX8_lump_7 rfl (lv_at hl 2 rfl) ?_
    refine lv_iconst (v := 0) hx hb dX8_lump_8 (by decide) ?_
    refine lv_aload_n hx hb dX8_lump_9 rfl (lv_at hl 0 rfl) ?_
    refine gC_0_0 S V hw (Nat.le_of_ble_eq_true rfl) fl_X8_12 dX8_lump_10 ?_
    refine gC_1_0 S V hw (Nat.le_of_ble_eq_true rfl) fl_X8_91 dX8_lump_13 ?_
    refine lv_iload_n hx hb dX8_lump_16 rfl (lv_at hl 1 rfl) ?_
    have hv2 := h.1
    have h := h.2
    refine aC_5 S V hw (Nat.le_of_ble_eq_true rfl) hv2 dX8_lump_17 ?_
    refine gC_2_2 S V hw (vin_lt hv2 (Nat.le_of_ble_eq_true rfl)) fl_X8_103 rfl dX8_lump_18 ?_
    refine lv_iconst (v := 1) hx hb dX8_lump_21 (by decide) ?_
    refine lv_isub hx hb dX8_lump_22 ?_
    refine call_Si (As := [.int x2, .int 0, .int ((σ1 2 x1.toNatClampNeg 2) - 1)]) (rest := []) EvC_ok S V hw (mt_X8_within l D q ad t aK aV x2 0 ((σ1 2 x1.toNatClampNeg 2) - 1)  σ1 _ h) ok_X8_within ml_X8_62 ⟨(Nat.le_of_ble_eq_true rfl), (Nat.le_of_ble_eq_true rfl)⟩ ⟨rfl, rfl⟩ rfl hl.1 rfl (Nat.le_of_ble_eq_true rfl) dX8_lump_23 (fun r3 σ3 H locs h hw => ?_)
    refine lv_if_ne (tgt := 32) hx hb dX8_lump_26 (by decide) (fun hc => ?_) (fun hc => ?_)
    · have h := h.1 hc
      refine lv_iload_n hx hb dX8_lump_32 rfl (lv_at hl 3 rfl) ?_
      by_cases hc0 : x3 = 0
      · have h := h.1 hc0
        refine lv_lookup (off := 27) (tgt := 60) hx hb dX8_lump_33 (by decide) (by rw [hc0]; try rfl) (by decide) ?_
        refine lv_aload_n hx hb dX8_lump_60 rfl (lv_at hl 0 rfl) ?_
        refine gC_0_0 S V hw (Nat.le_of_ble_eq_true rfl) fl_X8_12 dX8_lump_61 ?_
        refine gC_1_0 S V hw (Nat.le_of_ble_eq_true rfl) fl_X8_91 dX8_lump_64 ?_
        refine lv_iload_n hx hb dX8_lump_67 rfl (lv_at hl 1 rfl) ?_
        have hv4 := h.1
        have h := h.2
        refine aC_5 S V hw (Nat.le_of_ble_eq_true rfl) hv4 dX8_lump_68 ?_
        refine gC_2_5 S V hw (vin_lt hv4 (Nat.le_of_ble_eq_true rfl)) fl_X8_112 dX8_lump_69 ?_
        refine lv_iload_n hx hb dX8_lump_72 rfl (lv_at hl 2 rfl) ?_
        refine aC_3 S V hw (vin_lt hv4 (Nat.le_of_ble_eq_true rfl)) h.1 (z := (σ3 3 x1.toNatClampNeg x2.toNatClampNeg)) rfl dX8_lump_73 ?_
        have h := h.2
        exact ret_i S hr hlocks hw h dX8_lump_74
      · have h := h.2 hc0
        by_cases hc1 : x3 = 1
        · have h := h.1 hc1
          refine lv_lookup (off := 42) (tgt := 75) hx hb dX8_lump_33 (by decide) (by rw [hc1]; try rfl) (by decide) ?_
          refine lv_aload_n hx hb dX8_lump_75 rfl (lv_at hl 0 rfl) ?_
          refine gC_0_0 S V hw (Nat.le_of_ble_eq_true rfl) fl_X8_12 dX8_lump_76 ?_
          refine gC_1_0 S V hw (Nat.le_of_ble_eq_true rfl) fl_X8_91 dX8_lump_79 ?_
          refine lv_iload_n hx hb dX8_lump_82 rfl (lv_at hl 1 rfl) ?_
          have hv5 := h.1
          have h := h.2
          refine aC_5 S V hw (Nat.le_of_ble_eq_true rfl) hv5 dX8_lump_83 ?_
          refine gC_2_6 S V hw (vin_lt hv5 (Nat.le_of_ble_eq_true rfl)) fl_X8_116 dX8_lump_84 ?_
          refine lv_iload_n hx hb dX8_lump_87 rfl (lv_at hl 2 rfl) ?_
          refine aC_4 S V hw (vin_lt hv5 (Nat.le_of_ble_eq_true rfl)) h.1 (z := (σ3 4 x1.toNatClampNeg x2.toNatClampNeg)) rfl dX8_lump_88 ?_
          have h := h.2
          exact ret_i S hr hlocks hw h dX8_lump_89
        · have h := h.2 hc1
          refine lv_lookup (off := 57) (tgt := 90) hx hb dX8_lump_33 (by decide) (by show Op.lookupswitch.offset [(0, 27), (1, 42)] _ _ = _; rw [lv_osw (k := 0) (a := 0) hc0 rfl, lv_osw (k := 1) (a := 1) hc1 rfl]; try rfl) (by decide) ?_
          refine lv_bipush (v := (-3)) hx hb dX8_lump_90 (by decide) ?_
          exact ret_i S hr hlocks hw h dX8_lump_92
    · have h := h.2 hc
      exact wk_X8_lump_29 S V hr hlocks x1 x2 x3   post   _ _ _ _ h  hw (lv_sub hl [0, 1, 2, 3] rfl)
theorem mt_X8_lump (l : Launch) (D : va_G) (q : ClassId × ClassId × ClassId × ClassId) (ad : Nat → Nat → Nat) (t : Nat × Nat) (aK aV : Nat → Nat) (x1 : Int32) (x2 : Int32) (x3 : Int32) (σ : St) (post : Int32 → St → Prop) (h : wp_X8_lump x1 x2 x3 post σ) : cI l D clA LC ad (EC q ad) (EvC D q ad t aK aV) yX8_lump cX8_lump 4 (some .int) { frames := 2, cells := 0, slots := 0, locals := 42 } [.ref (ad 0 0), .int x1, .int x2, .int x3] σ post :=
  ent_i (by decide) (Nat.le_of_ble_eq_true rfl) (fun p e s m below meth c S V hr hlocks hw ls hl => wk_X8_lump_0 S V hr hlocks x1 x2 x3  post   σ _ _ ls h  hw (lv_sub hl [0, 1, 2, 3] rfl))
def wp_X8_hasLumps_20 (x1 : Int32) (post : Int32 → St → Prop) (xs0 : Int32) (σ : St) : Prop := (narrow .boolean (.int xs0) = .int xs0 ∧ post xs0 σ)
set_option maxHeartbeats 4000000 in
set_option maxRecDepth 100000 in
theorem wk_X8_hasLumps_20 {p : Program} {l : Launch} {e : Env} {s : State} {m : MethodId} {below : List Frame} {meth : Method} {c : Code} {D : va_G} {q : ClassId × ClassId × ClassId × ClassId} {ad : Nat → Nat → Nat} {t : Nat × Nat} {aK aV : Nat → Nat} {args : Array Value} (S : CallFix p m c cX8_hasLumps 2 s args GW "OnChin") (V : EvC D q ad t aK aV s) (hr : meth.sig.returnType = (some .boolean)) (hlocks : meth.locks = false) (x1 : Int32) (post : Int32 → St → Prop)  : ∀ (xs0 : Int32) (σ : St) (H : Heap) (locs : List Loc) (ls : Array Slot), wp_X8_hasLumps_20 x1 post xs0 σ → wo D clA LC ad s.heap H locs (EC q ad σ) → lv_has ls 2 [(0, .ref (ad 0 0)), (1, .int x1)] → W p l e { frames := 0, cells := 0, slots := 0, locals := 0 } s m args below meth c H locs 0 0 (MQ below (zQi D clA LC ad (EC q ad) post) args s 0 0 (zA LC ad)) (F0 m 20 ls [.int xs0]) := by
  have hx := S.1
  have hb := S.2.1
  intro xs0 σ H locs ls h  hw hl
  exact ret_z S hr hlocks hw h.1 h.2 dX8_hasLumps_20
def wp_X8_hasLumps (x1 : Int32) (post : Int32 → St → Prop)  (σ : St) : Prop := (vp_in x1 4 ∧ (((σ 2 x1.toNatClampNeg 2) ≤ 0 → wp_X8_hasLumps_20 x1 post 0 σ) ∧ (¬ (σ 2 x1.toNatClampNeg 2) ≤ 0 → wp_X8_hasLumps_20 x1 post 1 σ)))
set_option maxHeartbeats 4000000 in
set_option maxRecDepth 100000 in
theorem wk_X8_hasLumps_0 {p : Program} {l : Launch} {e : Env} {s : State} {m : MethodId} {below : List Frame} {meth : Method} {c : Code} {D : va_G} {q : ClassId × ClassId × ClassId × ClassId} {ad : Nat → Nat → Nat} {t : Nat × Nat} {aK aV : Nat → Nat} {args : Array Value} (S : CallFix p m c cX8_hasLumps 2 s args GW "OnChin") (V : EvC D q ad t aK aV s) (hr : meth.sig.returnType = (some .boolean)) (hlocks : meth.locks = false) (x1 : Int32) (post : Int32 → St → Prop)  : ∀ (σ : St) (H : Heap) (locs : List Loc) (ls : Array Slot), wp_X8_hasLumps x1 post  σ → wo D clA LC ad s.heap H locs (EC q ad σ) → lv_has ls 2 [(0, .ref (ad 0 0)), (1, .int x1)] → W p l e { frames := 0, cells := 0, slots := 0, locals := 0 } s m args below meth c H locs 0 0 (MQ below (zQi D clA LC ad (EC q ad) post) args s 0 0 (zA LC ad)) (F0 m 0 ls []) := by
  have hx := S.1
  have hb := S.2.1
  intro  σ H locs ls h  hw hl
  refine lv_aload_n hx hb dX8_hasLumps_0 rfl (lv_at hl 0 rfl) ?_
  refine gC_0_0 S V hw (Nat.le_of_ble_eq_true rfl) fl_X8_12 dX8_hasLumps_1 ?_
  refine gC_1_0 S V hw (Nat.le_of_ble_eq_true rfl) fl_X8_91 dX8_hasLumps_4 ?_
  refine lv_iload_n hx hb dX8_hasLumps_7 rfl (lv_at hl 1 rfl) ?_
  have hv1 := h.1
  have h := h.2
  refine aC_5 S V hw (Nat.le_of_ble_eq_true rfl) hv1 dX8_hasLumps_8 ?_
  refine gC_2_2 S V hw (vin_lt hv1 (Nat.le_of_ble_eq_true rfl)) fl_X8_103 rfl dX8_hasLumps_9 ?_
  refine lv_if_le (tgt := 19) hx hb dX8_hasLumps_12 (by decide) (fun hc => ?_) (fun hc => ?_)
  · have h := h.1 hc
    refine lv_iconst (v := 0) hx hb dX8_hasLumps_19 (by decide) ?_
    exact wk_X8_hasLumps_20 S V hr hlocks x1   post  0 _ _ _ _ h  hw (lv_sub hl [0, 1] rfl)
  · have h := h.2 hc
    refine lv_iconst (v := 1) hx hb dX8_hasLumps_15 (by decide) ?_
    refine lv_goto (tgt := 20) hx hb dX8_hasLumps_16 (by decide) ?_
    exact wk_X8_hasLumps_20 S V hr hlocks x1   post  1 _ _ _ _ h  hw (lv_sub hl [0, 1] rfl)
theorem mt_X8_hasLumps (l : Launch) (D : va_G) (q : ClassId × ClassId × ClassId × ClassId) (ad : Nat → Nat → Nat) (t : Nat × Nat) (aK aV : Nat → Nat) (x1 : Int32) (σ : St) (post : Int32 → St → Prop) (h : wp_X8_hasLumps x1 post σ) : cI l D clA LC ad (EC q ad) (EvC D q ad t aK aV) yX8_hasLumps cX8_hasLumps 2 (some .boolean) { frames := 0, cells := 0, slots := 0, locals := 0 } [.ref (ad 0 0), .int x1] σ post :=
  ent_i (by decide) (Nat.le_of_ble_eq_true rfl) (fun p e s m below meth c S V hr hlocks hw ls hl => wk_X8_hasLumps_0 S V hr hlocks x1  post   σ _ _ ls h  hw (lv_sub hl [0, 1] rfl))
def wp_X8_refusal_31 (x1 : Int32) (x2 : Int32) (post : Int32 → St → Prop) (xs0 : Int32) (σ : St) : Prop := post xs0 σ
set_option maxHeartbeats 4000000 in
set_option maxRecDepth 100000 in
theorem wk_X8_refusal_31 {p : Program} {l : Launch} {e : Env} {s : State} {m : MethodId} {below : List Frame} {meth : Method} {c : Code} {D : va_G} {q : ClassId × ClassId × ClassId × ClassId} {ad : Nat → Nat → Nat} {t : Nat × Nat} {aK aV : Nat → Nat} {args : Array Value} (S : CallFix p m c cX8_refusal 3 s args GW "OnChin") (V : EvC D q ad t aK aV s) (hr : meth.sig.returnType = (some .int)) (hlocks : meth.locks = false) (x1 : Int32) (x2 : Int32) (post : Int32 → St → Prop)  : ∀ (xs0 : Int32) (σ : St) (H : Heap) (locs : List Loc) (ls : Array Slot), wp_X8_refusal_31 x1 x2 post xs0 σ → wo D clA LC ad s.heap H locs (EC q ad σ) → lv_has ls 3 [(0, .ref (ad 0 0)), (1, .int x1), (2, .int x2)] → W p l e { frames := 2, cells := 0, slots := 0, locals := 42 } s m args below meth c H locs 0 0 (MQ below (zQi D clA LC ad (EC q ad) post) args s 0 0 (zA LC ad)) (F0 m 31 ls [.int xs0]) := by
  have hx := S.1
  have hb := S.2.1
  intro xs0 σ H locs ls h  hw hl
  exact ret_i S hr hlocks hw h dX8_refusal_31
def wp_X8_refusal (x1 : Int32) (x2 : Int32) (post : Int32 → St → Prop)  (σ : St) : Prop := wp_X8_isThing x1 (fun r1 σ1 => ((¬ r1 = 0 → ((¬ x2 = 0 → wp_X8_hasLumps x1 (fun r2 σ2 => ((r2 = 0 → wp_X8_refusal_31 x1 x2 post (-4) σ2) ∧ (¬ r2 = 0 → wp_X8_refusal_31 x1 x2 post 0 σ2))) σ1) ∧ (x2 = 0 → post (-3) σ1))) ∧ (r1 = 0 → post (-2) σ1))) σ
set_option maxHeartbeats 4000000 in
set_option maxRecDepth 100000 in
theorem wk_X8_refusal_0 {p : Program} {l : Launch} {e : Env} {s : State} {m : MethodId} {below : List Frame} {meth : Method} {c : Code} {D : va_G} {q : ClassId × ClassId × ClassId × ClassId} {ad : Nat → Nat → Nat} {t : Nat × Nat} {aK aV : Nat → Nat} {args : Array Value} (S : CallFix p m c cX8_refusal 3 s args GW "OnChin") (V : EvC D q ad t aK aV s) (hr : meth.sig.returnType = (some .int)) (hlocks : meth.locks = false) (x1 : Int32) (x2 : Int32) (post : Int32 → St → Prop)  : ∀ (σ : St) (H : Heap) (locs : List Loc) (ls : Array Slot), wp_X8_refusal x1 x2 post  σ → wo D clA LC ad s.heap H locs (EC q ad σ) → lv_has ls 3 [(0, .ref (ad 0 0)), (1, .int x1), (2, .int x2)] → W p l e { frames := 2, cells := 0, slots := 0, locals := 42 } s m args below meth c H locs 0 0 (MQ below (zQi D clA LC ad (EC q ad) post) args s 0 0 (zA LC ad)) (F0 m 0 ls []) := by
  have hx := S.1
  have hb := S.2.1
  intro  σ H locs ls h  hw hl
  have h : wp_X8_isThing x1 (fun r1 σ1 => ((¬ r1 = 0 → ((¬ x2 = 0 → wp_X8_hasLumps x1 (fun r2 σ2 => ((r2 = 0 → wp_X8_refusal_31 x1 x2 post (-4) σ2) ∧ (¬ r2 = 0 → wp_X8_refusal_31 x1 x2 post 0 σ2))) σ1) ∧ (x2 = 0 → post (-3) σ1))) ∧ (r1 = 0 → post (-2) σ1))) σ := h
  refine lv_iload_n hx hb dX8_refusal_0 rfl (lv_at hl 1 rfl) ?_
  refine call_Si (As := [.int x1]) (rest := []) EvC_ok S V hw (mt_X8_isThing l D q ad t aK aV x1  σ _ h) ok_X8_isThing ml_X8_87 ⟨(Nat.le_of_ble_eq_true rfl), (Nat.le_of_ble_eq_true rfl)⟩ ⟨rfl, rfl⟩ rfl hl.1 rfl (Nat.le_of_ble_eq_true rfl) dX8_refusal_1 (fun r1 σ1 H locs h hw => ?_)
  refine lv_if_ne (tgt := 10) hx hb dX8_refusal_4 (by decide) (fun hc => ?_) (fun hc => ?_)
  · have h := h.1 hc
    refine lv_iload_n hx hb dX8_refusal_10 rfl (lv_at hl 2 rfl) ?_
    refine lv_if_ne (tgt := 17) hx hb dX8_refusal_11 (by decide) (fun hc => ?_) (fun hc => ?_)
    · have h := h.1 hc
      refine lv_aload_n hx hb dX8_refusal_17 rfl (lv_at hl 0 rfl) ?_
      refine lv_iload_n hx hb dX8_refusal_18 rfl (lv_at hl 1 rfl) ?_
      refine call_Vi (As := [.int x1]) (rest := []) EvC_ok S V hw (mt_X8_hasLumps l D q ad t aK aV x1  σ1 _ h) ok_X8_hasLumps ml_X8_137 (rC_0 S V hw (Nat.le_of_ble_eq_true rfl)) ⟨(Nat.le_of_ble_eq_true rfl), (Nat.le_of_ble_eq_true rfl)⟩ ⟨rfl, rfl⟩ rfl hl.1 rfl (Nat.le_of_ble_eq_true rfl) dX8_refusal_19 (fun r2 σ2 H locs h hw => ?_)
      refine lv_if_eq (tgt := 29) hx hb dX8_refusal_22 (by decide) (fun hc => ?_) (fun hc => ?_)
      · have h := h.1 hc
        refine lv_bipush (v := (-4)) hx hb dX8_refusal_29 (by decide) ?_
        exact wk_X8_refusal_31 S V hr hlocks x1 x2   post  (-4) _ _ _ _ h  hw (lv_sub hl [0, 1, 2] rfl)
      · have h := h.2 hc
        refine lv_iconst (v := 0) hx hb dX8_refusal_25 (by decide) ?_
        refine lv_goto (tgt := 31) hx hb dX8_refusal_26 (by decide) ?_
        exact wk_X8_refusal_31 S V hr hlocks x1 x2   post  0 _ _ _ _ h  hw (lv_sub hl [0, 1, 2] rfl)
    · have h := h.2 hc
      refine lv_bipush (v := (-3)) hx hb dX8_refusal_14 (by decide) ?_
      exact ret_i S hr hlocks hw h dX8_refusal_16
  · have h := h.2 hc
    refine lv_bipush (v := (-2)) hx hb dX8_refusal_7 (by decide) ?_
    exact ret_i S hr hlocks hw h dX8_refusal_9
theorem mt_X8_refusal (l : Launch) (D : va_G) (q : ClassId × ClassId × ClassId × ClassId) (ad : Nat → Nat → Nat) (t : Nat × Nat) (aK aV : Nat → Nat) (x1 : Int32) (x2 : Int32) (σ : St) (post : Int32 → St → Prop) (h : wp_X8_refusal x1 x2 post σ) : cI l D clA LC ad (EC q ad) (EvC D q ad t aK aV) yX8_refusal cX8_refusal 3 (some .int) { frames := 2, cells := 0, slots := 0, locals := 42 } [.ref (ad 0 0), .int x1, .int x2] σ post :=
  ent_i (by decide) (Nat.le_of_ble_eq_true rfl) (fun p e s m below meth c S V hr hlocks hw ls hl => wk_X8_refusal_0 S V hr hlocks x1 x2  post   σ _ _ ls h  hw (lv_sub hl [0, 1, 2] rfl))
def wp_X8_begin_31 (x1 : Int32) (x2 : Int32) (x3 : Int32) (post : Int32 → St → Prop) (xs1 : Int32) (xs2 : Int32) (σ : St) : Prop := wp_X8_refusal xs1 xs2 (fun r1 σ1 => ((r1 = 0 → wp_X0_start 0 x1 x2 x3 (fun σ2 => post 1 σ2) σ1) ∧ (¬ r1 = 0 → post r1 σ1))) σ
set_option maxHeartbeats 4000000 in
set_option maxRecDepth 100000 in
theorem wk_X8_begin_31 {p : Program} {l : Launch} {e : Env} {s : State} {m : MethodId} {below : List Frame} {meth : Method} {c : Code} {D : va_G} {q : ClassId × ClassId × ClassId × ClassId} {ad : Nat → Nat → Nat} {t : Nat × Nat} {aK aV : Nat → Nat} {args : Array Value} (S : CallFix p m c cX8_begin 5 s args GW "OnChin") (V : EvC D q ad t aK aV s) (hr : meth.sig.returnType = (some .int)) (hlocks : meth.locks = false) (x1 : Int32) (x2 : Int32) (x3 : Int32) (post : Int32 → St → Prop)  : ∀ (xs1 : Int32) (xs2 : Int32) (σ : St) (H : Heap) (locs : List Loc) (ls : Array Slot), wp_X8_begin_31 x1 x2 x3 post xs1 xs2 σ → wo D clA LC ad s.heap H locs (EC q ad σ) → lv_has ls 5 [(0, .ref (ad 0 0)), (1, .int x1), (2, .int x2), (3, .int x3)] → W p l e { frames := 3, cells := 0, slots := 0, locals := 64 } s m args below meth c H locs 0 0 (MQ below (zQi D clA LC ad (EC q ad) post) args s 0 0 (zA LC ad)) (F0 m 31 ls [.int xs2, .int xs1, .ref (ad 0 0)]) := by
  have hx := S.1
  have hb := S.2.1
  intro xs1 xs2 σ H locs ls h  hw hl
  have h : wp_X8_refusal xs1 xs2 (fun r1 σ1 => ((r1 = 0 → wp_X0_start 0 x1 x2 x3 (fun σ2 => post 1 σ2) σ1) ∧ (¬ r1 = 0 → post r1 σ1))) σ := h
  refine call_Vi (As := [.int xs1, .int xs2]) (rest := []) EvC_ok S V hw (mt_X8_refusal l D q ad t aK aV xs1 xs2  σ _ h) ok_X8_refusal ml_X8_119 (rC_0 S V hw (Nat.le_of_ble_eq_true rfl)) ⟨(Nat.le_of_ble_eq_true rfl), (Nat.le_of_ble_eq_true rfl)⟩ ⟨rfl, rfl⟩ rfl hl.1 rfl (Nat.le_of_ble_eq_true rfl) dX8_begin_31 (fun r1 σ1 H locs h hw => ?_)
  refine lv_istore (lv' := [(4, .int r1), (0, .ref (ad 0 0)), (1, .int x1), (2, .int x2), (3, .int x3)]) hx hb dX8_begin_34 hl (by decide) rfl (fun ls hl => ?_)
  refine lv_iload hx hb dX8_begin_36 (lv_at hl 0 rfl) ?_
  refine lv_if_eq (tgt := 44) hx hb dX8_begin_38 (by decide) (fun hc => ?_) (fun hc => ?_)
  · have h := h.1 hc
    refine lv_aload_n hx hb dX8_begin_44 rfl (lv_at hl 1 rfl) ?_
    refine gC_0_2 S V hw (Nat.le_of_ble_eq_true rfl) fl_X8_26 dX8_begin_45 ?_
    refine lv_iload_n hx hb dX8_begin_48 rfl (lv_at hl 2 rfl) ?_
    refine lv_iload_n hx hb dX8_begin_49 rfl (lv_at hl 3 rfl) ?_
    refine lv_iload_n hx hb dX8_begin_50 rfl (lv_at hl 4 rfl) ?_
    refine call_Vv (As := [.int x1, .int x2, .int x3]) (rest := []) EvC_ok S V hw (mt_X0_start l D q ad t aK aV 0 x1 x2 x3 (Nat.le_of_ble_eq_true rfl) σ1 _ h) ok_X0_start ml_X8_123 (rC_13 S V hw (Nat.le_of_ble_eq_true rfl)) ⟨(Nat.le_of_ble_eq_true rfl), (Nat.le_of_ble_eq_true rfl)⟩ ⟨rfl, rfl⟩ rfl hl.1 rfl (Nat.le_of_ble_eq_true rfl) dX8_begin_51 (fun σ2 H locs h hw => ?_)
    refine lv_iconst (v := 1) hx hb dX8_begin_54 (by decide) ?_
    exact ret_i S hr hlocks hw h dX8_begin_55
  · have h := h.2 hc
    refine lv_iload hx hb dX8_begin_41 (lv_at hl 0 rfl) ?_
    exact ret_i S hr hlocks hw h dX8_begin_43
def wp_X8_begin_30 (x1 : Int32) (x2 : Int32) (x3 : Int32) (post : Int32 → St → Prop) (xs1 : Int32) (σ : St) : Prop := wp_X8_begin_31 x1 x2 x3 post xs1 0 σ
set_option maxHeartbeats 4000000 in
set_option maxRecDepth 100000 in
theorem wk_X8_begin_30 {p : Program} {l : Launch} {e : Env} {s : State} {m : MethodId} {below : List Frame} {meth : Method} {c : Code} {D : va_G} {q : ClassId × ClassId × ClassId × ClassId} {ad : Nat → Nat → Nat} {t : Nat × Nat} {aK aV : Nat → Nat} {args : Array Value} (S : CallFix p m c cX8_begin 5 s args GW "OnChin") (V : EvC D q ad t aK aV s) (hr : meth.sig.returnType = (some .int)) (hlocks : meth.locks = false) (x1 : Int32) (x2 : Int32) (x3 : Int32) (post : Int32 → St → Prop)  : ∀ (xs1 : Int32) (σ : St) (H : Heap) (locs : List Loc) (ls : Array Slot), wp_X8_begin_30 x1 x2 x3 post xs1 σ → wo D clA LC ad s.heap H locs (EC q ad σ) → lv_has ls 5 [(0, .ref (ad 0 0)), (1, .int x1), (2, .int x2), (3, .int x3)] → W p l e { frames := 3, cells := 0, slots := 0, locals := 64 } s m args below meth c H locs 0 0 (MQ below (zQi D clA LC ad (EC q ad) post) args s 0 0 (zA LC ad)) (F0 m 30 ls [.int xs1, .ref (ad 0 0)]) := by
  have hx := S.1
  have hb := S.2.1
  intro xs1 σ H locs ls h  hw hl
  have h : wp_X8_begin_31 x1 x2 x3 post xs1 0 σ := h
  refine lv_iconst (v := 0) hx hb dX8_begin_30 (by decide) ?_
  exact wk_X8_begin_31 S V hr hlocks x1 x2 x3   post  xs1 0 _ _ _ _ h  hw (lv_sub hl [0, 1, 2, 3] rfl)
def wp_X8_begin (x1 : Int32) (x2 : Int32) (x3 : Int32) (post : Int32 → St → Prop)  (σ : St) : Prop := wp_X8_within x2 (-999) 999 (fun r1 σ1 => ((r1 = 0 → wp_X8_begin_30 x1 x2 x3 post x1 σ1) ∧ (¬ r1 = 0 → wp_X8_within x3 (-99) 99 (fun r2 σ2 => ((r2 = 0 → wp_X8_begin_30 x1 x2 x3 post x1 σ2) ∧ (¬ r2 = 0 → wp_X8_begin_31 x1 x2 x3 post x1 1 σ2))) σ1))) σ
set_option maxHeartbeats 4000000 in
set_option maxRecDepth 100000 in
theorem wk_X8_begin_0 {p : Program} {l : Launch} {e : Env} {s : State} {m : MethodId} {below : List Frame} {meth : Method} {c : Code} {D : va_G} {q : ClassId × ClassId × ClassId × ClassId} {ad : Nat → Nat → Nat} {t : Nat × Nat} {aK aV : Nat → Nat} {args : Array Value} (S : CallFix p m c cX8_begin 5 s args GW "OnChin") (V : EvC D q ad t aK aV s) (hr : meth.sig.returnType = (some .int)) (hlocks : meth.locks = false) (x1 : Int32) (x2 : Int32) (x3 : Int32) (post : Int32 → St → Prop)  : ∀ (σ : St) (H : Heap) (locs : List Loc) (ls : Array Slot), wp_X8_begin x1 x2 x3 post  σ → wo D clA LC ad s.heap H locs (EC q ad σ) → lv_has ls 5 [(0, .ref (ad 0 0)), (1, .int x1), (2, .int x2), (3, .int x3)] → W p l e { frames := 3, cells := 0, slots := 0, locals := 64 } s m args below meth c H locs 0 0 (MQ below (zQi D clA LC ad (EC q ad) post) args s 0 0 (zA LC ad)) (F0 m 0 ls []) := by
  have hx := S.1
  have hb := S.2.1
  intro  σ H locs ls h  hw hl
  have h : wp_X8_within x2 (-999) 999 (fun r1 σ1 => ((r1 = 0 → wp_X8_begin_30 x1 x2 x3 post x1 σ1) ∧ (¬ r1 = 0 → wp_X8_within x3 (-99) 99 (fun r2 σ2 => ((r2 = 0 → wp_X8_begin_30 x1 x2 x3 post x1 σ2) ∧ (¬ r2 = 0 → wp_X8_begin_31 x1 x2 x3 post x1 1 σ2))) σ1))) σ := h
  refine lv_aload_n hx hb dX8_begin_0 rfl (lv_at hl 0 rfl) ?_
  refine lv_iload_n hx hb dX8_begin_1 rfl (lv_at hl 1 rfl) ?_
  refine lv_iload_n hx hb dX8_begin_2 rfl (lv_at hl 2 rfl) ?_
  refine lv_sipush (v := (-999)) hx hb dX8_begin_3 (by decide) ?_
  refine lv_sipush (v := 999) hx hb dX8_begin_6 (by decide) ?_
  refine call_Si (As := [.int x2, .int (-999), .int 999]) (rest := [.int x1, .ref (ad 0 0)]) EvC_ok S V hw (mt_X8_within l D q ad t aK aV x2 (-999) 999  σ _ h) ok_X8_within ml_X8_62 ⟨(Nat.le_of_ble_eq_true rfl), (Nat.le_of_ble_eq_true rfl)⟩ ⟨rfl, rfl⟩ rfl hl.1 rfl (Nat.le_of_ble_eq_true rfl) dX8_begin_9 (fun r1 σ1 H locs h hw => ?_)
  refine lv_if_eq (tgt := 30) hx hb dX8_begin_12 (by decide) (fun hc => ?_) (fun hc => ?_)
  · have h := h.1 hc
    exact wk_X8_begin_30 S V hr hlocks x1 x2 x3   post  x1 _ _ _ _ h  hw (lv_sub hl [0, 1, 2, 3] rfl)
  · have h := h.2 hc
    refine lv_iload_n hx hb dX8_begin_15 rfl (lv_at hl 3 rfl) ?_
    refine lv_bipush (v := (-99)) hx hb dX8_begin_16 (by decide) ?_
    refine lv_bipush (v := 99) hx hb dX8_begin_18 (by decide) ?_
    refine call_Si (As := [.int x3, .int (-99), .int 99]) (rest := [.int x1, .ref (ad 0 0)]) EvC_ok S V hw (mt_X8_within l D q ad t aK aV x3 (-99) 99  σ1 _ h) ok_X8_within ml_X8_62 ⟨(Nat.le_of_ble_eq_true rfl), (Nat.le_of_ble_eq_true rfl)⟩ ⟨rfl, rfl⟩ rfl hl.1 rfl (Nat.le_of_ble_eq_true rfl) dX8_begin_20 (fun r2 σ2 H locs h hw => ?_)
    refine lv_if_eq (tgt := 30) hx hb dX8_begin_23 (by decide) (fun hc => ?_) (fun hc => ?_)
    · have h := h.1 hc
      exact wk_X8_begin_30 S V hr hlocks x1 x2 x3   post  x1 _ _ _ _ h  hw (lv_sub hl [0, 1, 2, 3] rfl)
    · have h := h.2 hc
      refine lv_iconst (v := 1) hx hb dX8_begin_26 (by decide) ?_
      refine lv_goto (tgt := 31) hx hb dX8_begin_27 (by decide) ?_
      exact wk_X8_begin_31 S V hr hlocks x1 x2 x3   post  x1 1 _ _ _ _ h  hw (lv_sub hl [0, 1, 2, 3] rfl)
theorem mt_X8_begin (l : Launch) (D : va_G) (q : ClassId × ClassId × ClassId × ClassId) (ad : Nat → Nat → Nat) (t : Nat × Nat) (aK aV : Nat → Nat) (x1 : Int32) (x2 : Int32) (x3 : Int32) (σ : St) (post : Int32 → St → Prop) (h : wp_X8_begin x1 x2 x3 post σ) : cI l D clA LC ad (EC q ad) (EvC D q ad t aK aV) yX8_begin cX8_begin 5 (some .int) { frames := 3, cells := 0, slots := 0, locals := 64 } [.ref (ad 0 0), .int x1, .int x2, .int x3] σ post :=
  ent_i (by decide) (Nat.le_of_ble_eq_true rfl) (fun p e s m below meth c S V hr hlocks hw ls hl => wk_X8_begin_0 S V hr hlocks x1 x2 x3  post   σ _ _ ls h  hw (lv_sub hl [0, 1, 2, 3] rfl))
def wp_X8_ticks_57 (x1 : Int32) (post : Int32 → St → Prop)  (σ : St) : Prop := post (-4) σ
set_option maxHeartbeats 4000000 in
set_option maxRecDepth 100000 in
theorem wk_X8_ticks_57 {p : Program} {l : Launch} {e : Env} {s : State} {m : MethodId} {below : List Frame} {meth : Method} {c : Code} {D : va_G} {q : ClassId × ClassId × ClassId × ClassId} {ad : Nat → Nat → Nat} {t : Nat × Nat} {aK aV : Nat → Nat} {args : Array Value} (S : CallFix p m c cX8_ticks 3 s args GW "OnChin") (V : EvC D q ad t aK aV s) (hr : meth.sig.returnType = (some .int)) (hlocks : meth.locks = false) (x1 : Int32) (post : Int32 → St → Prop)  : ∀ (σ : St) (H : Heap) (locs : List Loc) (ls : Array Slot), wp_X8_ticks_57 x1 post  σ → wo D clA LC ad s.heap H locs (EC q ad σ) → lv_has ls 3 [(0, .ref (ad 0 0)), (1, .int x1)] → W p l e { frames := 4, cells := 0, slots := 0, locals := 92 } s m args below meth c H locs 0 0 (MQ below (zQi D clA LC ad (EC q ad) post) args s 0 0 (zA LC ad)) (F0 m 57 ls []) := by
  have hx := S.1
  have hb := S.2.1
  intro  σ H locs ls h  hw hl
  refine lv_bipush (v := (-4)) hx hb dX8_ticks_57 (by decide) ?_
  exact ret_i S hr hlocks hw h dX8_ticks_59
def wp_X8_ticks_134 (x1 : Int32) (post : Int32 → St → Prop) (x2 : Int32) (σ : St) : Prop := post x2 σ
set_option maxHeartbeats 4000000 in
set_option maxRecDepth 100000 in
theorem wk_X8_ticks_134 {p : Program} {l : Launch} {e : Env} {s : State} {m : MethodId} {below : List Frame} {meth : Method} {c : Code} {D : va_G} {q : ClassId × ClassId × ClassId × ClassId} {ad : Nat → Nat → Nat} {t : Nat × Nat} {aK aV : Nat → Nat} {args : Array Value} (S : CallFix p m c cX8_ticks 3 s args GW "OnChin") (V : EvC D q ad t aK aV s) (hr : meth.sig.returnType = (some .int)) (hlocks : meth.locks = false) (x1 : Int32) (post : Int32 → St → Prop)  : ∀ (x2 : Int32) (σ : St) (H : Heap) (locs : List Loc) (ls : Array Slot), wp_X8_ticks_134 x1 post x2 σ → wo D clA LC ad s.heap H locs (EC q ad σ) → lv_has ls 3 [(0, .ref (ad 0 0)), (1, .int x1), (2, .int x2)] → W p l e { frames := 4, cells := 0, slots := 0, locals := 92 } s m args below meth c H locs 0 0 (MQ below (zQi D clA LC ad (EC q ad) post) args s 0 0 (zA LC ad)) (F0 m 134 ls []) := by
  have hx := S.1
  have hb := S.2.1
  intro x2 σ H locs ls h  hw hl
  refine lv_iload_n hx hb dX8_ticks_134 rfl (lv_at hl 2 rfl) ?_
  exact ret_i S hr hlocks hw h dX8_ticks_135
def wp_X8_ticks_62 (x1 : Int32) (post : Int32 → St → Prop) : Nat → Int32 → St → Prop
  | 0 => fun _ _ => False
  | n + 1 => fun x2 σ => ((x1 ≤ x2 → wp_X8_ticks_134 x1 post x2 σ) ∧ (¬ x1 ≤ x2 → ((400 ≤ (σ 13 0 4) → wp_X8_ticks_134 x1 post x2 σ) ∧ (¬ 400 ≤ (σ 13 0 4) → wp_X0_fell 0 0 (fun r1 σ1 => ((¬ r1 = 0 → wp_X8_ticks_134 x1 post x2 σ1) ∧ (r1 = 0 → (vp_in (σ1 13 0 0) 4 ∧ wp_X0_tick 0 ((σ1 13 0 0).toNatClampNeg) 0 1 0 (fun σ3 => wp_X8_ticks_62 x1 post n (x2 + 1) σ3) σ1)))) σ))))
set_option maxHeartbeats 4000000 in
set_option maxRecDepth 100000 in
theorem wk_X8_ticks_62 {p : Program} {l : Launch} {e : Env} {s : State} {m : MethodId} {below : List Frame} {meth : Method} {c : Code} {D : va_G} {q : ClassId × ClassId × ClassId × ClassId} {ad : Nat → Nat → Nat} {t : Nat × Nat} {aK aV : Nat → Nat} {args : Array Value} (S : CallFix p m c cX8_ticks 3 s args GW "OnChin") (V : EvC D q ad t aK aV s) (hr : meth.sig.returnType = (some .int)) (hlocks : meth.locks = false) (x1 : Int32) (post : Int32 → St → Prop)  : ∀ (n : Nat) (x2 : Int32) (σ : St) (H : Heap) (locs : List Loc) (ls : Array Slot), wp_X8_ticks_62 x1 post n x2 σ → wo D clA LC ad s.heap H locs (EC q ad σ) → lv_has ls 3 [(0, .ref (ad 0 0)), (1, .int x1), (2, .int x2)] → W p l e { frames := 4, cells := 0, slots := 0, locals := 92 } s m args below meth c H locs 0 0 (MQ below (zQi D clA LC ad (EC q ad) post) args s 0 0 (zA LC ad)) (F0 m 62 ls []) := by
  have hx := S.1
  have hb := S.2.1
  intro n
  induction n with
  | zero => intro x2 σ H locs ls h; exact False.elim h
  | succ n ih =>
    intro x2 σ H locs ls h  hw hl
    refine lv_iload_n hx hb dX8_ticks_62 rfl (lv_at hl 2 rfl) ?_
    refine lv_iload_n hx hb dX8_ticks_63 rfl (lv_at hl 1 rfl) ?_
    refine lv_icmp_ge (tgt := 134) hx hb dX8_ticks_64 (by decide) (fun hc => ?_) (fun hc => ?_)
    · have h := h.1 hc
      exact wk_X8_ticks_134 S V hr hlocks x1   post  x2 _ _ _ _ h  hw (lv_sub hl [0, 1, 2] rfl)
    · have h := h.2 hc
      refine lv_aload_n hx hb dX8_ticks_67 rfl (lv_at hl 0 rfl) ?_
      refine gC_0_2 S V hw (Nat.le_of_ble_eq_true rfl) fl_X8_26 dX8_ticks_68 ?_
      refine gC_13_4 S V hw (Nat.le_of_ble_eq_true rfl) fl_X8_140 rfl dX8_ticks_71 ?_
      refine lv_sipush (v := 400) hx hb dX8_ticks_74 (by decide) ?_
      refine lv_icmp_ge (tgt := 134) hx hb dX8_ticks_77 (by decide) (fun hc => ?_) (fun hc => ?_)
      · have h := h.1 hc
        exact wk_X8_ticks_134 S V hr hlocks x1   post  x2 _ _ _ _ h  hw (lv_sub hl [0, 1, 2] rfl)
      · have h := h.2 hc
        refine lv_aload_n hx hb dX8_ticks_80 rfl (lv_at hl 0 rfl) ?_
        refine gC_0_2 S V hw (Nat.le_of_ble_eq_true rfl) fl_X8_26 dX8_ticks_81 ?_
        refine lv_aload_n hx hb dX8_ticks_84 rfl (lv_at hl 0 rfl) ?_
        refine gC_0_0 S V hw (Nat.le_of_ble_eq_true rfl) fl_X8_12 dX8_ticks_85 ?_
        refine gC_1_1 S V hw (Nat.le_of_ble_eq_true rfl) fl_X8_130 dX8_ticks_88 ?_
        refine call_Vi (As := [.ref (ad 6 0)]) (rest := []) EvC_ok S V hw (mt_X0_fell l D q ad t aK aV 0 0 (Nat.le_of_ble_eq_true rfl) (Nat.le_of_ble_eq_true rfl) σ _ h) ok_X0_fell ml_X8_133 (rC_13 S V hw (Nat.le_of_ble_eq_true rfl)) ⟨(Nat.le_of_ble_eq_true rfl), (Nat.le_of_ble_eq_true rfl)⟩ ⟨rfl, rfl⟩ rfl hl.1 rfl (Nat.le_of_ble_eq_true rfl) dX8_ticks_91 (fun r1 σ1 H locs h hw => ?_)
        refine lv_if_ne (tgt := 134) hx hb dX8_ticks_94 (by decide) (fun hc => ?_) (fun hc => ?_)
        · have h := h.1 hc
          exact wk_X8_ticks_134 S V hr hlocks x1   post  x2 _ _ _ _ h  hw (lv_sub hl [0, 1, 2] rfl)
        · have h := h.2 hc
          refine lv_aload_n hx hb dX8_ticks_97 rfl (lv_at hl 0 rfl) ?_
          refine gC_0_2 S V hw (Nat.le_of_ble_eq_true rfl) fl_X8_26 dX8_ticks_98 ?_
          refine lv_aload_n hx hb dX8_ticks_101 rfl (lv_at hl 0 rfl) ?_
          refine gC_0_0 S V hw (Nat.le_of_ble_eq_true rfl) fl_X8_12 dX8_ticks_102 ?_
          refine gC_1_0 S V hw (Nat.le_of_ble_eq_true rfl) fl_X8_91 dX8_ticks_105 ?_
          refine lv_aload_n hx hb dX8_ticks_108 rfl (lv_at hl 0 rfl) ?_
          refine gC_0_2 S V hw (Nat.le_of_ble_eq_true rfl) fl_X8_26 dX8_ticks_109 ?_
          refine gC_13_0 S V hw (Nat.le_of_ble_eq_true rfl) fl_X8_127 rfl dX8_ticks_112 ?_
          have hv2 := h.1
          have h := h.2
          refine aC_5 S V hw (Nat.le_of_ble_eq_true rfl) hv2 dX8_ticks_115 ?_
          refine lv_aload_n hx hb dX8_ticks_116 rfl (lv_at hl 0 rfl) ?_
          refine gC_0_0 S V hw (Nat.le_of_ble_eq_true rfl) fl_X8_12 dX8_ticks_117 ?_
          refine gC_1_1 S V hw (Nat.le_of_ble_eq_true rfl) fl_X8_130 dX8_ticks_120 ?_
          refine lv_iconst (v := 1) hx hb dX8_ticks_123 (by decide) ?_
          refine lv_iconst (v := 0) hx hb dX8_ticks_124 (by decide) ?_
          refine call_Vv (As := [.ref (ad 2 ((σ1 13 0 0).toNatClampNeg)), .ref (ad 6 0), .int 1, .int 0]) (rest := []) EvC_ok S V hw (mt_X0_tick l D q ad t aK aV 0 ((σ1 13 0 0).toNatClampNeg) 0 1 0 (Nat.le_of_ble_eq_true rfl) (vin_lt hv2 (Nat.le_of_ble_eq_true rfl)) (Nat.le_of_ble_eq_true rfl) σ1 _ h) ok_X0_tick ml_X8_143 (rC_13 S V hw (Nat.le_of_ble_eq_true rfl)) ⟨(Nat.le_of_ble_eq_true rfl), (Nat.le_of_ble_eq_true rfl)⟩ ⟨rfl, rfl⟩ rfl hl.1 rfl (Nat.le_of_ble_eq_true rfl) dX8_ticks_125 (fun σ3 H locs h hw => ?_)
          refine lv_iinc (v := (x2 + 1)) (lv' := [(2, .int (x2 + 1)), (0, .ref (ad 0 0)), (1, .int x1)]) hx hb dX8_ticks_128 hl (k := 2) rfl rfl (by decide) rfl (fun ls hl => ?_)
          refine lv_goto (tgt := 62) hx hb dX8_ticks_131 (by decide) ?_
          exact ih (x2 + 1) _ _ _ _ h  hw (lv_sub hl [1, 2, 0] rfl)
def wp_X8_ticks (x1 : Int32) (post : Int32 → St → Prop)  (σ : St) : Prop := wp_X8_within x1 1 100 (fun r1 σ1 => ((¬ r1 = 0 → wp_X8_isThing (σ1 13 0 0) (fun r2 σ2 => ((r2 = 0 → wp_X8_ticks_57 x1 post  σ2) ∧ (¬ r2 = 0 → wp_X0_fell 0 0 (fun r3 σ3 => ((¬ r3 = 0 → wp_X8_ticks_57 x1 post  σ3) ∧ (r3 = 0 → wp_X8_hasLumps (σ3 13 0 0) (fun r4 σ4 => ((¬ r4 = 0 → ∃ nn, wp_X8_ticks_62 x1 post nn 0 σ4) ∧ (r4 = 0 → wp_X8_ticks_57 x1 post  σ4))) σ3))) σ2))) σ1) ∧ (r1 = 0 → post (-3) σ1))) σ
set_option maxHeartbeats 4000000 in
set_option maxRecDepth 100000 in
theorem wk_X8_ticks_0 {p : Program} {l : Launch} {e : Env} {s : State} {m : MethodId} {below : List Frame} {meth : Method} {c : Code} {D : va_G} {q : ClassId × ClassId × ClassId × ClassId} {ad : Nat → Nat → Nat} {t : Nat × Nat} {aK aV : Nat → Nat} {args : Array Value} (S : CallFix p m c cX8_ticks 3 s args GW "OnChin") (V : EvC D q ad t aK aV s) (hr : meth.sig.returnType = (some .int)) (hlocks : meth.locks = false) (x1 : Int32) (post : Int32 → St → Prop)  : ∀ (σ : St) (H : Heap) (locs : List Loc) (ls : Array Slot), wp_X8_ticks x1 post  σ → wo D clA LC ad s.heap H locs (EC q ad σ) → lv_has ls 3 [(0, .ref (ad 0 0)), (1, .int x1)] → W p l e { frames := 4, cells := 0, slots := 0, locals := 92 } s m args below meth c H locs 0 0 (MQ below (zQi D clA LC ad (EC q ad) post) args s 0 0 (zA LC ad)) (F0 m 0 ls []) := by
  have hx := S.1
  have hb := S.2.1
  intro  σ H locs ls h  hw hl
  have h : wp_X8_within x1 1 100 (fun r1 σ1 => ((¬ r1 = 0 → wp_X8_isThing (σ1 13 0 0) (fun r2 σ2 => ((r2 = 0 → wp_X8_ticks_57 x1 post  σ2) ∧ (¬ r2 = 0 → wp_X0_fell 0 0 (fun r3 σ3 => ((¬ r3 = 0 → wp_X8_ticks_57 x1 post  σ3) ∧ (r3 = 0 → wp_X8_hasLumps (σ3 13 0 0) (fun r4 σ4 => ((¬ r4 = 0 → ∃ nn, wp_X8_ticks_62 x1 post nn 0 σ4) ∧ (r4 = 0 → wp_X8_ticks_57 x1 post  σ4))) σ3))) σ2))) σ1) ∧ (r1 = 0 → post (-3) σ1))) σ := h
  refine lv_iload_n hx hb dX8_ticks_0 rfl (lv_at hl 1 rfl) ?_
  refine lv_iconst (v := 1) hx hb dX8_ticks_1 (by decide) ?_
  refine lv_bipush (v := 100) hx hb dX8_ticks_2 (by decide) ?_
  refine call_Si (As := [.int x1, .int 1, .int 100]) (rest := []) EvC_ok S V hw (mt_X8_within l D q ad t aK aV x1 1 100  σ _ h) ok_X8_within ml_X8_62 ⟨(Nat.le_of_ble_eq_true rfl), (Nat.le_of_ble_eq_true rfl)⟩ ⟨rfl, rfl⟩ rfl hl.1 rfl (Nat.le_of_ble_eq_true rfl) dX8_ticks_4 (fun r1 σ1 H locs h hw => ?_)
  refine lv_if_ne (tgt := 13) hx hb dX8_ticks_7 (by decide) (fun hc => ?_) (fun hc => ?_)
  · have h := h.1 hc
    refine lv_aload_n hx hb dX8_ticks_13 rfl (lv_at hl 0 rfl) ?_
    refine gC_0_2 S V hw (Nat.le_of_ble_eq_true rfl) fl_X8_26 dX8_ticks_14 ?_
    refine gC_13_0 S V hw (Nat.le_of_ble_eq_true rfl) fl_X8_127 rfl dX8_ticks_17 ?_
    refine call_Si (As := [.int (σ1 13 0 0)]) (rest := []) EvC_ok S V hw (mt_X8_isThing l D q ad t aK aV (σ1 13 0 0)  σ1 _ h) ok_X8_isThing ml_X8_87 ⟨(Nat.le_of_ble_eq_true rfl), (Nat.le_of_ble_eq_true rfl)⟩ ⟨rfl, rfl⟩ rfl hl.1 rfl (Nat.le_of_ble_eq_true rfl) dX8_ticks_20 (fun r2 σ2 H locs h hw => ?_)
    refine lv_if_eq (tgt := 57) hx hb dX8_ticks_23 (by decide) (fun hc => ?_) (fun hc => ?_)
    · have h := h.1 hc
      exact wk_X8_ticks_57 S V hr hlocks x1   post   _ _ _ _ h  hw (lv_sub hl [0, 1] rfl)
    · have h := h.2 hc
      refine lv_aload_n hx hb dX8_ticks_26 rfl (lv_at hl 0 rfl) ?_
      refine gC_0_2 S V hw (Nat.le_of_ble_eq_true rfl) fl_X8_26 dX8_ticks_27 ?_
      refine lv_aload_n hx hb dX8_ticks_30 rfl (lv_at hl 0 rfl) ?_
      refine gC_0_0 S V hw (Nat.le_of_ble_eq_true rfl) fl_X8_12 dX8_ticks_31 ?_
      refine gC_1_1 S V hw (Nat.le_of_ble_eq_true rfl) fl_X8_130 dX8_ticks_34 ?_
      refine call_Vi (As := [.ref (ad 6 0)]) (rest := []) EvC_ok S V hw (mt_X0_fell l D q ad t aK aV 0 0 (Nat.le_of_ble_eq_true rfl) (Nat.le_of_ble_eq_true rfl) σ2 _ h) ok_X0_fell ml_X8_133 (rC_13 S V hw (Nat.le_of_ble_eq_true rfl)) ⟨(Nat.le_of_ble_eq_true rfl), (Nat.le_of_ble_eq_true rfl)⟩ ⟨rfl, rfl⟩ rfl hl.1 rfl (Nat.le_of_ble_eq_true rfl) dX8_ticks_37 (fun r3 σ3 H locs h hw => ?_)
      refine lv_if_ne (tgt := 57) hx hb dX8_ticks_40 (by decide) (fun hc => ?_) (fun hc => ?_)
      · have h := h.1 hc
        exact wk_X8_ticks_57 S V hr hlocks x1   post   _ _ _ _ h  hw (lv_sub hl [0, 1] rfl)
      · have h := h.2 hc
        refine lv_aload_n hx hb dX8_ticks_43 rfl (lv_at hl 0 rfl) ?_
        refine lv_aload_n hx hb dX8_ticks_44 rfl (lv_at hl 0 rfl) ?_
        refine gC_0_2 S V hw (Nat.le_of_ble_eq_true rfl) fl_X8_26 dX8_ticks_45 ?_
        refine gC_13_0 S V hw (Nat.le_of_ble_eq_true rfl) fl_X8_127 rfl dX8_ticks_48 ?_
        refine call_Vi (As := [.int (σ3 13 0 0)]) (rest := []) EvC_ok S V hw (mt_X8_hasLumps l D q ad t aK aV (σ3 13 0 0)  σ3 _ h) ok_X8_hasLumps ml_X8_137 (rC_0 S V hw (Nat.le_of_ble_eq_true rfl)) ⟨(Nat.le_of_ble_eq_true rfl), (Nat.le_of_ble_eq_true rfl)⟩ ⟨rfl, rfl⟩ rfl hl.1 rfl (Nat.le_of_ble_eq_true rfl) dX8_ticks_51 (fun r4 σ4 H locs h hw => ?_)
        refine lv_if_ne (tgt := 60) hx hb dX8_ticks_54 (by decide) (fun hc => ?_) (fun hc => ?_)
        · have h := h.1 hc
          refine lv_iconst (v := 0) hx hb dX8_ticks_60 (by decide) ?_
          refine lv_istore_n (lv' := [(2, .int 0), (0, .ref (ad 0 0)), (1, .int x1)]) hx hb dX8_ticks_61 rfl hl (by decide) rfl (fun ls hl => ?_)
          obtain ⟨n9, h⟩ := h
          exact wk_X8_ticks_62 S V hr hlocks x1   post  n9 0 _ _ _ _ h  hw (lv_sub hl [1, 2, 0] rfl)
        · have h := h.2 hc
          exact wk_X8_ticks_57 S V hr hlocks x1   post   _ _ _ _ h  hw (lv_sub hl [0, 1] rfl)
  · have h := h.2 hc
    refine lv_bipush (v := (-3)) hx hb dX8_ticks_10 (by decide) ?_
    exact ret_i S hr hlocks hw h dX8_ticks_12
theorem mt_X8_ticks (l : Launch) (D : va_G) (q : ClassId × ClassId × ClassId × ClassId) (ad : Nat → Nat → Nat) (t : Nat × Nat) (aK aV : Nat → Nat) (x1 : Int32) (σ : St) (post : Int32 → St → Prop) (h : wp_X8_ticks x1 post σ) : cI l D clA LC ad (EC q ad) (EvC D q ad t aK aV) yX8_ticks cX8_ticks 3 (some .int) { frames := 4, cells := 0, slots := 0, locals := 92 } [.ref (ad 0 0), .int x1] σ post :=
  ent_i (by decide) (Nat.le_of_ble_eq_true rfl) (fun p e s m below meth c S V hr hlocks hw ls hl => wk_X8_ticks_0 S V hr hlocks x1  post   σ _ _ ls h  hw (lv_sub hl [0, 1] rfl))
def wp_X8_now_144 (x1 : Int32) (post : Int32 → St → Prop) (xs0 : Int32) (σ : St) : Prop := post xs0 σ
set_option maxHeartbeats 4000000 in
set_option maxRecDepth 100000 in
theorem wk_X8_now_144 {p : Program} {l : Launch} {e : Env} {s : State} {m : MethodId} {below : List Frame} {meth : Method} {c : Code} {D : va_G} {q : ClassId × ClassId × ClassId × ClassId} {ad : Nat → Nat → Nat} {t : Nat × Nat} {aK aV : Nat → Nat} {args : Array Value} (S : CallFix p m c cX8_now 2 s args GW "OnChin") (V : EvC D q ad t aK aV s) (hr : meth.sig.returnType = (some .int)) (hlocks : meth.locks = false) (x1 : Int32) (post : Int32 → St → Prop)  : ∀ (xs0 : Int32) (σ : St) (H : Heap) (locs : List Loc) (ls : Array Slot), wp_X8_now_144 x1 post xs0 σ → wo D clA LC ad s.heap H locs (EC q ad σ) → lv_has ls 2 [(0, .ref (ad 0 0)), (1, .int x1)] → W p l e { frames := 2, cells := 0, slots := 0, locals := 42 } s m args below meth c H locs 0 0 (MQ below (zQi D clA LC ad (EC q ad) post) args s 0 0 (zA LC ad)) (F0 m 144 ls [.int xs0]) := by
  have hx := S.1
  have hb := S.2.1
  intro xs0 σ H locs ls h  hw hl
  exact ret_i S hr hlocks hw h dX8_now_144
def wp_X8_now (x1 : Int32) (post : Int32 → St → Prop)  (σ : St) : Prop := wp_X8_within x1 0 6 (fun r1 σ1 => ((¬ r1 = 0 → wp_X8_isThing (σ1 13 0 0) (fun r2 σ2 => ((¬ r2 = 0 → ((x1 = 0 → post ((σ2 13 0 1) + 1000000) σ2) ∧ (¬ x1 = 0 → ((x1 = 1 → post ((σ2 13 0 2) + 1000000) σ2) ∧ (¬ x1 = 1 → ((x1 = 2 → post ((σ2 13 0 3) + 1000) σ2) ∧ (¬ x1 = 2 → ((x1 = 3 → post (σ2 13 0 4) σ2) ∧ (¬ x1 = 3 → ((x1 = 4 → post ((σ2 13 0 5) + 1000) σ2) ∧ (¬ x1 = 4 → ((x1 = 5 → wp_X0_fell 0 0 (fun r3 σ3 => ((r3 = 0 → wp_X8_now_144 x1 post 0 σ3) ∧ (¬ r3 = 0 → wp_X8_now_144 x1 post 1 σ3))) σ2) ∧ (¬ x1 = 5 → post (σ2 13 0 0) σ2))))))))))))) ∧ (r2 = 0 → post (-4) σ2))) σ1) ∧ (r1 = 0 → post (-3) σ1))) σ
set_option maxHeartbeats 4000000 in
set_option maxRecDepth 100000 in
theorem wk_X8_now_0 {p : Program} {l : Launch} {e : Env} {s : State} {m : MethodId} {below : List Frame} {meth : Method} {c : Code} {D : va_G} {q : ClassId × ClassId × ClassId × ClassId} {ad : Nat → Nat → Nat} {t : Nat × Nat} {aK aV : Nat → Nat} {args : Array Value} (S : CallFix p m c cX8_now 2 s args GW "OnChin") (V : EvC D q ad t aK aV s) (hr : meth.sig.returnType = (some .int)) (hlocks : meth.locks = false) (x1 : Int32) (post : Int32 → St → Prop)  : ∀ (σ : St) (H : Heap) (locs : List Loc) (ls : Array Slot), wp_X8_now x1 post  σ → wo D clA LC ad s.heap H locs (EC q ad σ) → lv_has ls 2 [(0, .ref (ad 0 0)), (1, .int x1)] → W p l e { frames := 2, cells := 0, slots := 0, locals := 42 } s m args below meth c H locs 0 0 (MQ below (zQi D clA LC ad (EC q ad) post) args s 0 0 (zA LC ad)) (F0 m 0 ls []) := by
  have hx := S.1
  have hb := S.2.1
  intro  σ H locs ls h  hw hl
  have h : wp_X8_within x1 0 6 (fun r1 σ1 => ((¬ r1 = 0 → wp_X8_isThing (σ1 13 0 0) (fun r2 σ2 => ((¬ r2 = 0 → ((x1 = 0 → post ((σ2 13 0 1) + 1000000) σ2) ∧ (¬ x1 = 0 → ((x1 = 1 → post ((σ2 13 0 2) + 1000000) σ2) ∧ (¬ x1 = 1 → ((x1 = 2 → post ((σ2 13 0 3) + 1000) σ2) ∧ (¬ x1 = 2 → ((x1 = 3 → post (σ2 13 0 4) σ2) ∧ (¬ x1 = 3 → ((x1 = 4 → post ((σ2 13 0 5) + 1000) σ2) ∧ (¬ x1 = 4 → ((x1 = 5 → wp_X0_fell 0 0 (fun r3 σ3 => ((r3 = 0 → wp_X8_now_144 x1 post 0 σ3) ∧ (¬ r3 = 0 → wp_X8_now_144 x1 post 1 σ3))) σ2) ∧ (¬ x1 = 5 → post (σ2 13 0 0) σ2))))))))))))) ∧ (r2 = 0 → post (-4) σ2))) σ1) ∧ (r1 = 0 → post (-3) σ1))) σ := h
  refine lv_iload_n hx hb dX8_now_0 rfl (lv_at hl 1 rfl) ?_
  refine lv_iconst (v := 0) hx hb dX8_now_1 (by decide) ?_
  refine lv_bipush (v := 6) hx hb dX8_now_2 (by decide) ?_
  refine call_Si (As := [.int x1, .int 0, .int 6]) (rest := []) EvC_ok S V hw (mt_X8_within l D q ad t aK aV x1 0 6  σ _ h) ok_X8_within ml_X8_62 ⟨(Nat.le_of_ble_eq_true rfl), (Nat.le_of_ble_eq_true rfl)⟩ ⟨rfl, rfl⟩ rfl hl.1 rfl (Nat.le_of_ble_eq_true rfl) dX8_now_4 (fun r1 σ1 H locs h hw => ?_)
  refine lv_if_ne (tgt := 13) hx hb dX8_now_7 (by decide) (fun hc => ?_) (fun hc => ?_)
  · have h := h.1 hc
    refine lv_aload_n hx hb dX8_now_13 rfl (lv_at hl 0 rfl) ?_
    refine gC_0_2 S V hw (Nat.le_of_ble_eq_true rfl) fl_X8_26 dX8_now_14 ?_
    refine gC_13_0 S V hw (Nat.le_of_ble_eq_true rfl) fl_X8_127 rfl dX8_now_17 ?_
    refine call_Si (As := [.int (σ1 13 0 0)]) (rest := []) EvC_ok S V hw (mt_X8_isThing l D q ad t aK aV (σ1 13 0 0)  σ1 _ h) ok_X8_isThing ml_X8_87 ⟨(Nat.le_of_ble_eq_true rfl), (Nat.le_of_ble_eq_true rfl)⟩ ⟨rfl, rfl⟩ rfl hl.1 rfl (Nat.le_of_ble_eq_true rfl) dX8_now_20 (fun r2 σ2 H locs h hw => ?_)
    refine lv_if_ne (tgt := 29) hx hb dX8_now_23 (by decide) (fun hc => ?_) (fun hc => ?_)
    · have h := h.1 hc
      refine lv_iload_n hx hb dX8_now_29 rfl (lv_at hl 1 rfl) ?_
      by_cases hc0 : x1 = 0
      · have h := h.1 hc0
        refine lv_tableIn (tgt := 68) hx hb dX8_now_30 (by rw [hc0]; decide) (by rw [hc0]; decide) (by rw [hc0]; rfl) (by decide) ?_
        refine lv_aload_n hx hb dX8_now_68 rfl (lv_at hl 0 rfl) ?_
        refine gC_0_2 S V hw (Nat.le_of_ble_eq_true rfl) fl_X8_26 dX8_now_69 ?_
        refine gC_13_1 S V hw (Nat.le_of_ble_eq_true rfl) fl_X8_147 rfl dX8_now_72 ?_
        refine lv_ldc (v := 1000000) hx hb S.2.2.2.1 (gw_S S _ kc_X8_150) dX8_now_75 ?_
        refine lv_iadd hx hb dX8_now_77 ?_
        exact ret_i S hr hlocks hw h dX8_now_78
      · have h := h.2 hc0
        by_cases hc1 : x1 = 1
        · have h := h.1 hc1
          refine lv_tableIn (tgt := 79) hx hb dX8_now_30 (by rw [hc1]; decide) (by rw [hc1]; decide) (by rw [hc1]; rfl) (by decide) ?_
          refine lv_aload_n hx hb dX8_now_79 rfl (lv_at hl 0 rfl) ?_
          refine gC_0_2 S V hw (Nat.le_of_ble_eq_true rfl) fl_X8_26 dX8_now_80 ?_
          refine gC_13_2 S V hw (Nat.le_of_ble_eq_true rfl) fl_X8_151 rfl dX8_now_83 ?_
          refine lv_ldc (v := 1000000) hx hb S.2.2.2.1 (gw_S S _ kc_X8_150) dX8_now_86 ?_
          refine lv_iadd hx hb dX8_now_88 ?_
          exact ret_i S hr hlocks hw h dX8_now_89
        · have h := h.2 hc1
          by_cases hc2 : x1 = 2
          · have h := h.1 hc2
            refine lv_tableIn (tgt := 90) hx hb dX8_now_30 (by rw [hc2]; decide) (by rw [hc2]; decide) (by rw [hc2]; rfl) (by decide) ?_
            refine lv_aload_n hx hb dX8_now_90 rfl (lv_at hl 0 rfl) ?_
            refine gC_0_2 S V hw (Nat.le_of_ble_eq_true rfl) fl_X8_26 dX8_now_91 ?_
            refine gC_13_3 S V hw (Nat.le_of_ble_eq_true rfl) fl_X8_154 rfl dX8_now_94 ?_
            refine lv_sipush (v := 1000) hx hb dX8_now_97 (by decide) ?_
            refine lv_iadd hx hb dX8_now_100 ?_
            exact ret_i S hr hlocks hw h dX8_now_101
          · have h := h.2 hc2
            by_cases hc3 : x1 = 3
            · have h := h.1 hc3
              refine lv_tableIn (tgt := 102) hx hb dX8_now_30 (by rw [hc3]; decide) (by rw [hc3]; decide) (by rw [hc3]; rfl) (by decide) ?_
              refine lv_aload_n hx hb dX8_now_102 rfl (lv_at hl 0 rfl) ?_
              refine gC_0_2 S V hw (Nat.le_of_ble_eq_true rfl) fl_X8_26 dX8_now_103 ?_
              refine gC_13_4 S V hw (Nat.le_of_ble_eq_true rfl) fl_X8_140 rfl dX8_now_106 ?_
              exact ret_i S hr hlocks hw h dX8_now_109
            · have h := h.2 hc3
              by_cases hc4 : x1 = 4
              · have h := h.1 hc4
                refine lv_tableIn (tgt := 110) hx hb dX8_now_30 (by rw [hc4]; decide) (by rw [hc4]; decide) (by rw [hc4]; rfl) (by decide) ?_
                refine lv_aload_n hx hb dX8_now_110 rfl (lv_at hl 0 rfl) ?_
                refine gC_0_2 S V hw (Nat.le_of_ble_eq_true rfl) fl_X8_26 dX8_now_111 ?_
                refine gC_13_5 S V hw (Nat.le_of_ble_eq_true rfl) fl_X8_157 rfl dX8_now_114 ?_
                refine lv_sipush (v := 1000) hx hb dX8_now_117 (by decide) ?_
                refine lv_iadd hx hb dX8_now_120 ?_
                exact ret_i S hr hlocks hw h dX8_now_121
              · have h := h.2 hc4
                by_cases hc5 : x1 = 5
                · have h := h.1 hc5
                  refine lv_tableIn (tgt := 122) hx hb dX8_now_30 (by rw [hc5]; decide) (by rw [hc5]; decide) (by rw [hc5]; rfl) (by decide) ?_
                  refine lv_aload_n hx hb dX8_now_122 rfl (lv_at hl 0 rfl) ?_
                  refine gC_0_2 S V hw (Nat.le_of_ble_eq_true rfl) fl_X8_26 dX8_now_123 ?_
                  refine lv_aload_n hx hb dX8_now_126 rfl (lv_at hl 0 rfl) ?_
                  refine gC_0_0 S V hw (Nat.le_of_ble_eq_true rfl) fl_X8_12 dX8_now_127 ?_
                  refine gC_1_1 S V hw (Nat.le_of_ble_eq_true rfl) fl_X8_130 dX8_now_130 ?_
                  refine call_Vi (As := [.ref (ad 6 0)]) (rest := []) EvC_ok S V hw (mt_X0_fell l D q ad t aK aV 0 0 (Nat.le_of_ble_eq_true rfl) (Nat.le_of_ble_eq_true rfl) σ2 _ h) ok_X0_fell ml_X8_133 (rC_13 S V hw (Nat.le_of_ble_eq_true rfl)) ⟨(Nat.le_of_ble_eq_true rfl), (Nat.le_of_ble_eq_true rfl)⟩ ⟨rfl, rfl⟩ rfl hl.1 rfl (Nat.le_of_ble_eq_true rfl) dX8_now_133 (fun r3 σ3 H locs h hw => ?_)
                  refine lv_if_eq (tgt := 143) hx hb dX8_now_136 (by decide) (fun hc => ?_) (fun hc => ?_)
                  · have h := h.1 hc
                    refine lv_iconst (v := 0) hx hb dX8_now_143 (by decide) ?_
                    exact wk_X8_now_144 S V hr hlocks x1   post  0 _ _ _ _ h  hw (lv_sub hl [0, 1] rfl)
                  · have h := h.2 hc
                    refine lv_iconst (v := 1) hx hb dX8_now_139 (by decide) ?_
                    refine lv_goto (tgt := 144) hx hb dX8_now_140 (by decide) ?_
                    exact wk_X8_now_144 S V hr hlocks x1   post  1 _ _ _ _ h  hw (lv_sub hl [0, 1] rfl)
                · have h := h.2 hc5
                  refine lv_tableOut (tgt := 145) hx hb dX8_now_30 (by have e0 := lv_neT (k := 0) (a := 0) hc0 rfl; have e1 := lv_neT (k := 1) (a := 1) hc1 rfl; have e2 := lv_neT (k := 2) (a := 2) hc2 rfl; have e3 := lv_neT (k := 3) (a := 3) hc3 rfl; have e4 := lv_neT (k := 4) (a := 4) hc4 rfl; have e5 := lv_neT (k := 5) (a := 5) hc5 rfl; omega) (by decide) ?_
                  refine lv_aload_n hx hb dX8_now_145 rfl (lv_at hl 0 rfl) ?_
                  refine gC_0_2 S V hw (Nat.le_of_ble_eq_true rfl) fl_X8_26 dX8_now_146 ?_
                  refine gC_13_0 S V hw (Nat.le_of_ble_eq_true rfl) fl_X8_127 rfl dX8_now_149 ?_
                  exact ret_i S hr hlocks hw h dX8_now_152
    · have h := h.2 hc
      refine lv_bipush (v := (-4)) hx hb dX8_now_26 (by decide) ?_
      exact ret_i S hr hlocks hw h dX8_now_28
  · have h := h.2 hc
    refine lv_bipush (v := (-3)) hx hb dX8_now_10 (by decide) ?_
    exact ret_i S hr hlocks hw h dX8_now_12
theorem mt_X8_now (l : Launch) (D : va_G) (q : ClassId × ClassId × ClassId × ClassId) (ad : Nat → Nat → Nat) (t : Nat × Nat) (aK aV : Nat → Nat) (x1 : Int32) (σ : St) (post : Int32 → St → Prop) (h : wp_X8_now x1 post σ) : cI l D clA LC ad (EC q ad) (EvC D q ad t aK aV) yX8_now cX8_now 2 (some .int) { frames := 2, cells := 0, slots := 0, locals := 42 } [.ref (ad 0 0), .int x1] σ post :=
  ent_i (by decide) (Nat.le_of_ble_eq_true rfl) (fun p e s m below meth c S V hr hlocks hw ls hl => wk_X8_now_0 S V hr hlocks x1  post   σ _ _ ls h  hw (lv_sub hl [0, 1] rfl))
def wp_X8_keep (x1 : Int32) (post : Int32 → St → Prop)  (σ : St) : Prop := wp_X8_within x1 0 1 (fun r1 σ1 => ((¬ r1 = 0 → wp_X8_isThing (σ1 13 0 0) (fun r2 σ2 => ((¬ r2 = 0 → (vp_in x1 2 ∧ wp_X0_copy (1 + x1.toNatClampNeg) 0 (fun σ4 => post 1 σ4) σ2)) ∧ (r2 = 0 → post (-4) σ2))) σ1) ∧ (r1 = 0 → post (-2) σ1))) σ
set_option maxHeartbeats 4000000 in
set_option maxRecDepth 100000 in
theorem wk_X8_keep_0 {p : Program} {l : Launch} {e : Env} {s : State} {m : MethodId} {below : List Frame} {meth : Method} {c : Code} {D : va_G} {q : ClassId × ClassId × ClassId × ClassId} {ad : Nat → Nat → Nat} {t : Nat × Nat} {aK aV : Nat → Nat} {args : Array Value} (S : CallFix p m c cX8_keep 2 s args GW "OnChin") (V : EvC D q ad t aK aV s) (hr : meth.sig.returnType = (some .int)) (hlocks : meth.locks = false) (x1 : Int32) (post : Int32 → St → Prop)  : ∀ (σ : St) (H : Heap) (locs : List Loc) (ls : Array Slot), wp_X8_keep x1 post  σ → wo D clA LC ad s.heap H locs (EC q ad σ) → lv_has ls 2 [(0, .ref (ad 0 0)), (1, .int x1)] → W p l e { frames := 2, cells := 0, slots := 0, locals := 47 } s m args below meth c H locs 0 0 (MQ below (zQi D clA LC ad (EC q ad) post) args s 0 0 (zA LC ad)) (F0 m 0 ls []) := by
  have hx := S.1
  have hb := S.2.1
  intro  σ H locs ls h  hw hl
  have h : wp_X8_within x1 0 1 (fun r1 σ1 => ((¬ r1 = 0 → wp_X8_isThing (σ1 13 0 0) (fun r2 σ2 => ((¬ r2 = 0 → (vp_in x1 2 ∧ wp_X0_copy (1 + x1.toNatClampNeg) 0 (fun σ4 => post 1 σ4) σ2)) ∧ (r2 = 0 → post (-4) σ2))) σ1) ∧ (r1 = 0 → post (-2) σ1))) σ := h
  refine lv_iload_n hx hb dX8_keep_0 rfl (lv_at hl 1 rfl) ?_
  refine lv_iconst (v := 0) hx hb dX8_keep_1 (by decide) ?_
  refine lv_iconst (v := 1) hx hb dX8_keep_2 (by decide) ?_
  refine call_Si (As := [.int x1, .int 0, .int 1]) (rest := []) EvC_ok S V hw (mt_X8_within l D q ad t aK aV x1 0 1  σ _ h) ok_X8_within ml_X8_62 ⟨(Nat.le_of_ble_eq_true rfl), (Nat.le_of_ble_eq_true rfl)⟩ ⟨rfl, rfl⟩ rfl hl.1 rfl (Nat.le_of_ble_eq_true rfl) dX8_keep_3 (fun r1 σ1 H locs h hw => ?_)
  refine lv_if_ne (tgt := 12) hx hb dX8_keep_6 (by decide) (fun hc => ?_) (fun hc => ?_)
  · have h := h.1 hc
    refine lv_aload_n hx hb dX8_keep_12 rfl (lv_at hl 0 rfl) ?_
    refine gC_0_2 S V hw (Nat.le_of_ble_eq_true rfl) fl_X8_26 dX8_keep_13 ?_
    refine gC_13_0 S V hw (Nat.le_of_ble_eq_true rfl) fl_X8_127 rfl dX8_keep_16 ?_
    refine call_Si (As := [.int (σ1 13 0 0)]) (rest := []) EvC_ok S V hw (mt_X8_isThing l D q ad t aK aV (σ1 13 0 0)  σ1 _ h) ok_X8_isThing ml_X8_87 ⟨(Nat.le_of_ble_eq_true rfl), (Nat.le_of_ble_eq_true rfl)⟩ ⟨rfl, rfl⟩ rfl hl.1 rfl (Nat.le_of_ble_eq_true rfl) dX8_keep_19 (fun r2 σ2 H locs h hw => ?_)
    refine lv_if_ne (tgt := 28) hx hb dX8_keep_22 (by decide) (fun hc => ?_) (fun hc => ?_)
    · have h := h.1 hc
      refine lv_aload_n hx hb dX8_keep_28 rfl (lv_at hl 0 rfl) ?_
      refine gC_0_3 S V hw (Nat.le_of_ble_eq_true rfl) fl_X8_30 dX8_keep_29 ?_
      refine lv_iload_n hx hb dX8_keep_32 rfl (lv_at hl 1 rfl) ?_
      have hv3 := h.1
      have h := h.2
      refine aC_15 S V hw (Nat.le_of_ble_eq_true rfl) hv3 dX8_keep_33 ?_
      refine lv_aload_n hx hb dX8_keep_34 rfl (lv_at hl 0 rfl) ?_
      refine gC_0_2 S V hw (Nat.le_of_ble_eq_true rfl) fl_X8_26 dX8_keep_35 ?_
      refine call_Vv (As := [.ref (ad 13 0)]) (rest := []) EvC_ok S V hw (mt_X0_copy l D q ad t aK aV (1 + x1.toNatClampNeg) 0 (vin_lt1 hv3 (Nat.le_of_ble_eq_true rfl)) (Nat.le_of_ble_eq_true rfl) σ2 _ h) ok_X0_copy ml_X8_160 (rC_13 S V hw (vin_lt1 hv3 (Nat.le_of_ble_eq_true rfl))) ⟨(Nat.le_of_ble_eq_true rfl), (Nat.le_of_ble_eq_true rfl)⟩ ⟨rfl, rfl⟩ rfl hl.1 rfl (Nat.le_of_ble_eq_true rfl) dX8_keep_38 (fun σ4 H locs h hw => ?_)
      refine lv_iconst (v := 1) hx hb dX8_keep_41 (by decide) ?_
      exact ret_i S hr hlocks hw h dX8_keep_42
    · have h := h.2 hc
      refine lv_bipush (v := (-4)) hx hb dX8_keep_25 (by decide) ?_
      exact ret_i S hr hlocks hw h dX8_keep_27
  · have h := h.2 hc
    refine lv_bipush (v := (-2)) hx hb dX8_keep_9 (by decide) ?_
    exact ret_i S hr hlocks hw h dX8_keep_11
theorem mt_X8_keep (l : Launch) (D : va_G) (q : ClassId × ClassId × ClassId × ClassId) (ad : Nat → Nat → Nat) (t : Nat × Nat) (aK aV : Nat → Nat) (x1 : Int32) (σ : St) (post : Int32 → St → Prop) (h : wp_X8_keep x1 post σ) : cI l D clA LC ad (EC q ad) (EvC D q ad t aK aV) yX8_keep cX8_keep 2 (some .int) { frames := 2, cells := 0, slots := 0, locals := 47 } [.ref (ad 0 0), .int x1] σ post :=
  ent_i (by decide) (Nat.le_of_ble_eq_true rfl) (fun p e s m below meth c S V hr hlocks hw ls hl => wk_X8_keep_0 S V hr hlocks x1  post   σ _ _ ls h  hw (lv_sub hl [0, 1] rfl))
def wp_X8_back (x1 : Int32) (post : Int32 → St → Prop)  (σ : St) : Prop := wp_X8_within x1 0 1 (fun r1 σ1 => ((¬ r1 = 0 → (vp_in x1 2 ∧ wp_X8_isThing (σ1 13 (1 + x1.toNatClampNeg) 0) (fun r3 σ3 => ((¬ r3 = 0 → (vp_in x1 2 ∧ wp_X0_copy 0 (1 + x1.toNatClampNeg) (fun σ5 => post (σ5 13 0 4) σ5) σ3)) ∧ (r3 = 0 → post (-4) σ3))) σ1)) ∧ (r1 = 0 → post (-2) σ1))) σ
set_option maxHeartbeats 4000000 in
set_option maxRecDepth 100000 in
theorem wk_X8_back_0 {p : Program} {l : Launch} {e : Env} {s : State} {m : MethodId} {below : List Frame} {meth : Method} {c : Code} {D : va_G} {q : ClassId × ClassId × ClassId × ClassId} {ad : Nat → Nat → Nat} {t : Nat × Nat} {aK aV : Nat → Nat} {args : Array Value} (S : CallFix p m c cX8_back 2 s args GW "OnChin") (V : EvC D q ad t aK aV s) (hr : meth.sig.returnType = (some .int)) (hlocks : meth.locks = false) (x1 : Int32) (post : Int32 → St → Prop)  : ∀ (σ : St) (H : Heap) (locs : List Loc) (ls : Array Slot), wp_X8_back x1 post  σ → wo D clA LC ad s.heap H locs (EC q ad σ) → lv_has ls 2 [(0, .ref (ad 0 0)), (1, .int x1)] → W p l e { frames := 2, cells := 0, slots := 0, locals := 47 } s m args below meth c H locs 0 0 (MQ below (zQi D clA LC ad (EC q ad) post) args s 0 0 (zA LC ad)) (F0 m 0 ls []) := by
  have hx := S.1
  have hb := S.2.1
  intro  σ H locs ls h  hw hl
  have h : wp_X8_within x1 0 1 (fun r1 σ1 => ((¬ r1 = 0 → (vp_in x1 2 ∧ wp_X8_isThing (σ1 13 (1 + x1.toNatClampNeg) 0) (fun r3 σ3 => ((¬ r3 = 0 → (vp_in x1 2 ∧ wp_X0_copy 0 (1 + x1.toNatClampNeg) (fun σ5 => post (σ5 13 0 4) σ5) σ3)) ∧ (r3 = 0 → post (-4) σ3))) σ1)) ∧ (r1 = 0 → post (-2) σ1))) σ := h
  refine lv_iload_n hx hb dX8_back_0 rfl (lv_at hl 1 rfl) ?_
  refine lv_iconst (v := 0) hx hb dX8_back_1 (by decide) ?_
  refine lv_iconst (v := 1) hx hb dX8_back_2 (by decide) ?_
  refine call_Si (As := [.int x1, .int 0, .int 1]) (rest := []) EvC_ok S V hw (mt_X8_within l D q ad t aK aV x1 0 1  σ _ h) ok_X8_within ml_X8_62 ⟨(Nat.le_of_ble_eq_true rfl), (Nat.le_of_ble_eq_true rfl)⟩ ⟨rfl, rfl⟩ rfl hl.1 rfl (Nat.le_of_ble_eq_true rfl) dX8_back_3 (fun r1 σ1 H locs h hw => ?_)
  refine lv_if_ne (tgt := 12) hx hb dX8_back_6 (by decide) (fun hc => ?_) (fun hc => ?_)
  · have h := h.1 hc
    refine lv_aload_n hx hb dX8_back_12 rfl (lv_at hl 0 rfl) ?_
    refine gC_0_3 S V hw (Nat.le_of_ble_eq_true rfl) fl_X8_30 dX8_back_13 ?_
    refine lv_iload_n hx hb dX8_back_16 rfl (lv_at hl 1 rfl) ?_
    have hv2 := h.1
    have h := h.2
    refine aC_15 S V hw (Nat.le_of_ble_eq_true rfl) hv2 dX8_back_17 ?_
    refine gC_13_0 S V hw (vin_lt1 hv2 (Nat.le_of_ble_eq_true rfl)) fl_X8_127 rfl dX8_back_18 ?_
    refine call_Si (As := [.int (σ1 13 (1 + x1.toNatClampNeg) 0)]) (rest := []) EvC_ok S V hw (mt_X8_isThing l D q ad t aK aV (σ1 13 (1 + x1.toNatClampNeg) 0)  σ1 _ h) ok_X8_isThing ml_X8_87 ⟨(Nat.le_of_ble_eq_true rfl), (Nat.le_of_ble_eq_true rfl)⟩ ⟨rfl, rfl⟩ rfl hl.1 rfl (Nat.le_of_ble_eq_true rfl) dX8_back_21 (fun r3 σ3 H locs h hw => ?_)
    refine lv_if_ne (tgt := 30) hx hb dX8_back_24 (by decide) (fun hc => ?_) (fun hc => ?_)
    · have h := h.1 hc
      refine lv_aload_n hx hb dX8_back_30 rfl (lv_at hl 0 rfl) ?_
      refine gC_0_2 S V hw (Nat.le_of_ble_eq_true rfl) fl_X8_26 dX8_back_31 ?_
      refine lv_aload_n hx hb dX8_back_34 rfl (lv_at hl 0 rfl) ?_
      refine gC_0_3 S V hw (Nat.le_of_ble_eq_true rfl) fl_X8_30 dX8_back_35 ?_
      refine lv_iload_n hx hb dX8_back_38 rfl (lv_at hl 1 rfl) ?_
      have hv4 := h.1
      have h := h.2
      refine aC_15 S V hw (Nat.le_of_ble_eq_true rfl) hv4 dX8_back_39 ?_
      refine call_Vv (As := [.ref (ad 13 (1 + x1.toNatClampNeg))]) (rest := []) EvC_ok S V hw (mt_X0_copy l D q ad t aK aV 0 (1 + x1.toNatClampNeg) (Nat.le_of_ble_eq_true rfl) (vin_lt1 hv4 (Nat.le_of_ble_eq_true rfl)) σ3 _ h) ok_X0_copy ml_X8_160 (rC_13 S V hw (Nat.le_of_ble_eq_true rfl)) ⟨(Nat.le_of_ble_eq_true rfl), (Nat.le_of_ble_eq_true rfl)⟩ ⟨rfl, rfl⟩ rfl hl.1 rfl (Nat.le_of_ble_eq_true rfl) dX8_back_40 (fun σ5 H locs h hw => ?_)
      refine lv_aload_n hx hb dX8_back_43 rfl (lv_at hl 0 rfl) ?_
      refine gC_0_2 S V hw (Nat.le_of_ble_eq_true rfl) fl_X8_26 dX8_back_44 ?_
      refine gC_13_4 S V hw (Nat.le_of_ble_eq_true rfl) fl_X8_140 rfl dX8_back_47 ?_
      exact ret_i S hr hlocks hw h dX8_back_50
    · have h := h.2 hc
      refine lv_bipush (v := (-4)) hx hb dX8_back_27 (by decide) ?_
      exact ret_i S hr hlocks hw h dX8_back_29
  · have h := h.2 hc
    refine lv_bipush (v := (-2)) hx hb dX8_back_9 (by decide) ?_
    exact ret_i S hr hlocks hw h dX8_back_11
theorem mt_X8_back (l : Launch) (D : va_G) (q : ClassId × ClassId × ClassId × ClassId) (ad : Nat → Nat → Nat) (t : Nat × Nat) (aK aV : Nat → Nat) (x1 : Int32) (σ : St) (post : Int32 → St → Prop) (h : wp_X8_back x1 post σ) : cI l D clA LC ad (EC q ad) (EvC D q ad t aK aV) yX8_back cX8_back 2 (some .int) { frames := 2, cells := 0, slots := 0, locals := 47 } [.ref (ad 0 0), .int x1] σ post :=
  ent_i (by decide) (Nat.le_of_ble_eq_true rfl) (fun p e s m below meth c S V hr hlocks hw ls hl => wk_X8_back_0 S V hr hlocks x1  post   σ _ _ ls h  hw (lv_sub hl [0, 1] rfl))
def wp_X8_kept_31 (x1 : Int32) (x2 : Int32) (x3 : Int32) (post : Int32 → St → Prop) (xs1 : Int32) (xs2 : Int32) (σ : St) : Prop := wp_X8_refusal xs1 xs2 (fun r1 σ1 => ((r1 = 0 → wp_X4_takeRule 0 (fun σ2 => (vp_in x1 4 ∧ wp_X4_lasts x1.toNatClampNeg x2 x3 400 (fun r4 σ4 => post r4 σ4) σ2)) σ1) ∧ (¬ r1 = 0 → post r1 σ1))) σ
set_option maxHeartbeats 4000000 in
set_option maxRecDepth 100000 in
theorem wk_X8_kept_31 {p : Program} {l : Launch} {e : Env} {s : State} {m : MethodId} {below : List Frame} {meth : Method} {c : Code} {D : va_G} {q : ClassId × ClassId × ClassId × ClassId} {ad : Nat → Nat → Nat} {t : Nat × Nat} {aK aV : Nat → Nat} {args : Array Value} (S : CallFix p m c cX8_kept 5 s args GW "OnChin") (V : EvC D q ad t aK aV s) (hr : meth.sig.returnType = (some .int)) (hlocks : meth.locks = false) (x1 : Int32) (x2 : Int32) (x3 : Int32) (post : Int32 → St → Prop)  : ∀ (xs1 : Int32) (xs2 : Int32) (σ : St) (H : Heap) (locs : List Loc) (ls : Array Slot), wp_X8_kept_31 x1 x2 x3 post xs1 xs2 σ → wo D clA LC ad s.heap H locs (EC q ad σ) → lv_has ls 5 [(0, .ref (ad 0 0)), (1, .int x1), (2, .int x2), (3, .int x3)] → W p l e { frames := 5, cells := 0, slots := 0, locals := 119 } s m args below meth c H locs 0 0 (MQ below (zQi D clA LC ad (EC q ad) post) args s 0 0 (zA LC ad)) (F0 m 31 ls [.int xs2, .int xs1, .ref (ad 0 0)]) := by
  have hx := S.1
  have hb := S.2.1
  intro xs1 xs2 σ H locs ls h  hw hl
  have h : wp_X8_refusal xs1 xs2 (fun r1 σ1 => ((r1 = 0 → wp_X4_takeRule 0 (fun σ2 => (vp_in x1 4 ∧ wp_X4_lasts x1.toNatClampNeg x2 x3 400 (fun r4 σ4 => post r4 σ4) σ2)) σ1) ∧ (¬ r1 = 0 → post r1 σ1))) σ := h
  refine call_Vi (As := [.int xs1, .int xs2]) (rest := []) EvC_ok S V hw (mt_X8_refusal l D q ad t aK aV xs1 xs2  σ _ h) ok_X8_refusal ml_X8_119 (rC_0 S V hw (Nat.le_of_ble_eq_true rfl)) ⟨(Nat.le_of_ble_eq_true rfl), (Nat.le_of_ble_eq_true rfl)⟩ ⟨rfl, rfl⟩ rfl hl.1 rfl (Nat.le_of_ble_eq_true rfl) dX8_kept_31 (fun r1 σ1 H locs h hw => ?_)
  refine lv_istore (lv' := [(4, .int r1), (0, .ref (ad 0 0)), (1, .int x1), (2, .int x2), (3, .int x3)]) hx hb dX8_kept_34 hl (by decide) rfl (fun ls hl => ?_)
  refine lv_iload hx hb dX8_kept_36 (lv_at hl 0 rfl) ?_
  refine lv_if_eq (tgt := 44) hx hb dX8_kept_38 (by decide) (fun hc => ?_) (fun hc => ?_)
  · have h := h.1 hc
    refine lv_aload_n hx hb dX8_kept_44 rfl (lv_at hl 1 rfl) ?_
    refine gC_0_4 S V hw (Nat.le_of_ble_eq_true rfl) fl_X8_37 dX8_kept_45 ?_
    refine lv_aload_n hx hb dX8_kept_48 rfl (lv_at hl 1 rfl) ?_
    refine gC_0_0 S V hw (Nat.le_of_ble_eq_true rfl) fl_X8_12 dX8_kept_49 ?_
    refine gC_1_1 S V hw (Nat.le_of_ble_eq_true rfl) fl_X8_130 dX8_kept_52 ?_
    refine call_Vv (As := [.ref (ad 6 0)]) (rest := []) EvC_ok S V hw (mt_X4_takeRule l D q ad t aK aV 0 (Nat.le_of_ble_eq_true rfl) σ1 _ h) ok_X4_takeRule ml_X8_164 (rC_16 S V hw (Nat.le_of_ble_eq_true rfl)) ⟨(Nat.le_of_ble_eq_true rfl), (Nat.le_of_ble_eq_true rfl)⟩ ⟨rfl, rfl⟩ rfl hl.1 rfl (Nat.le_of_ble_eq_true rfl) dX8_kept_55 (fun σ2 H locs h hw => ?_)
    refine lv_aload_n hx hb dX8_kept_58 rfl (lv_at hl 1 rfl) ?_
    refine gC_0_4 S V hw (Nat.le_of_ble_eq_true rfl) fl_X8_37 dX8_kept_59 ?_
    refine lv_aload_n hx hb dX8_kept_62 rfl (lv_at hl 1 rfl) ?_
    refine gC_0_0 S V hw (Nat.le_of_ble_eq_true rfl) fl_X8_12 dX8_kept_63 ?_
    refine gC_1_0 S V hw (Nat.le_of_ble_eq_true rfl) fl_X8_91 dX8_kept_66 ?_
    refine lv_iload_n hx hb dX8_kept_69 rfl (lv_at hl 2 rfl) ?_
    have hv3 := h.1
    have h := h.2
    refine aC_5 S V hw (Nat.le_of_ble_eq_true rfl) hv3 dX8_kept_70 ?_
    refine lv_iload_n hx hb dX8_kept_71 rfl (lv_at hl 3 rfl) ?_
    refine lv_iload_n hx hb dX8_kept_72 rfl (lv_at hl 4 rfl) ?_
    refine lv_sipush (v := 400) hx hb dX8_kept_73 (by decide) ?_
    refine call_Vi (As := [.ref (ad 2 x1.toNatClampNeg), .int x2, .int x3, .int 400]) (rest := []) EvC_ok S V hw (mt_X4_lasts l D q ad t aK aV x1.toNatClampNeg x2 x3 400 (vin_lt hv3 (Nat.le_of_ble_eq_true rfl)) σ2 _ h) ok_X4_lasts ml_X8_168 (rC_16 S V hw (Nat.le_of_ble_eq_true rfl)) ⟨(Nat.le_of_ble_eq_true rfl), (Nat.le_of_ble_eq_true rfl)⟩ ⟨rfl, rfl⟩ rfl hl.1 rfl (Nat.le_of_ble_eq_true rfl) dX8_kept_76 (fun r4 σ4 H locs h hw => ?_)
    exact ret_i S hr hlocks hw h dX8_kept_79
  · have h := h.2 hc
    refine lv_iload hx hb dX8_kept_41 (lv_at hl 0 rfl) ?_
    exact ret_i S hr hlocks hw h dX8_kept_43
def wp_X8_kept_30 (x1 : Int32) (x2 : Int32) (x3 : Int32) (post : Int32 → St → Prop) (xs1 : Int32) (σ : St) : Prop := wp_X8_kept_31 x1 x2 x3 post xs1 0 σ
set_option maxHeartbeats 4000000 in
set_option maxRecDepth 100000 in
theorem wk_X8_kept_30 {p : Program} {l : Launch} {e : Env} {s : State} {m : MethodId} {below : List Frame} {meth : Method} {c : Code} {D : va_G} {q : ClassId × ClassId × ClassId × ClassId} {ad : Nat → Nat → Nat} {t : Nat × Nat} {aK aV : Nat → Nat} {args : Array Value} (S : CallFix p m c cX8_kept 5 s args GW "OnChin") (V : EvC D q ad t aK aV s) (hr : meth.sig.returnType = (some .int)) (hlocks : meth.locks = false) (x1 : Int32) (x2 : Int32) (x3 : Int32) (post : Int32 → St → Prop)  : ∀ (xs1 : Int32) (σ : St) (H : Heap) (locs : List Loc) (ls : Array Slot), wp_X8_kept_30 x1 x2 x3 post xs1 σ → wo D clA LC ad s.heap H locs (EC q ad σ) → lv_has ls 5 [(0, .ref (ad 0 0)), (1, .int x1), (2, .int x2), (3, .int x3)] → W p l e { frames := 5, cells := 0, slots := 0, locals := 119 } s m args below meth c H locs 0 0 (MQ below (zQi D clA LC ad (EC q ad) post) args s 0 0 (zA LC ad)) (F0 m 30 ls [.int xs1, .ref (ad 0 0)]) := by
  have hx := S.1
  have hb := S.2.1
  intro xs1 σ H locs ls h  hw hl
  have h : wp_X8_kept_31 x1 x2 x3 post xs1 0 σ := h
  refine lv_iconst (v := 0) hx hb dX8_kept_30 (by decide) ?_
  exact wk_X8_kept_31 S V hr hlocks x1 x2 x3   post  xs1 0 _ _ _ _ h  hw (lv_sub hl [0, 1, 2, 3] rfl)
def wp_X8_kept (x1 : Int32) (x2 : Int32) (x3 : Int32) (post : Int32 → St → Prop)  (σ : St) : Prop := wp_X8_within x2 (-999) 999 (fun r1 σ1 => ((r1 = 0 → wp_X8_kept_30 x1 x2 x3 post x1 σ1) ∧ (¬ r1 = 0 → wp_X8_within x3 (-99) 99 (fun r2 σ2 => ((r2 = 0 → wp_X8_kept_30 x1 x2 x3 post x1 σ2) ∧ (¬ r2 = 0 → wp_X8_kept_31 x1 x2 x3 post x1 1 σ2))) σ1))) σ
set_option maxHeartbeats 4000000 in
set_option maxRecDepth 100000 in
theorem wk_X8_kept_0 {p : Program} {l : Launch} {e : Env} {s : State} {m : MethodId} {below : List Frame} {meth : Method} {c : Code} {D : va_G} {q : ClassId × ClassId × ClassId × ClassId} {ad : Nat → Nat → Nat} {t : Nat × Nat} {aK aV : Nat → Nat} {args : Array Value} (S : CallFix p m c cX8_kept 5 s args GW "OnChin") (V : EvC D q ad t aK aV s) (hr : meth.sig.returnType = (some .int)) (hlocks : meth.locks = false) (x1 : Int32) (x2 : Int32) (x3 : Int32) (post : Int32 → St → Prop)  : ∀ (σ : St) (H : Heap) (locs : List Loc) (ls : Array Slot), wp_X8_kept x1 x2 x3 post  σ → wo D clA LC ad s.heap H locs (EC q ad σ) → lv_has ls 5 [(0, .ref (ad 0 0)), (1, .int x1), (2, .int x2), (3, .int x3)] → W p l e { frames := 5, cells := 0, slots := 0, locals := 119 } s m args below meth c H locs 0 0 (MQ below (zQi D clA LC ad (EC q ad) post) args s 0 0 (zA LC ad)) (F0 m 0 ls []) := by
  have hx := S.1
  have hb := S.2.1
  intro  σ H locs ls h  hw hl
  have h : wp_X8_within x2 (-999) 999 (fun r1 σ1 => ((r1 = 0 → wp_X8_kept_30 x1 x2 x3 post x1 σ1) ∧ (¬ r1 = 0 → wp_X8_within x3 (-99) 99 (fun r2 σ2 => ((r2 = 0 → wp_X8_kept_30 x1 x2 x3 post x1 σ2) ∧ (¬ r2 = 0 → wp_X8_kept_31 x1 x2 x3 post x1 1 σ2))) σ1))) σ := h
  refine lv_aload_n hx hb dX8_kept_0 rfl (lv_at hl 0 rfl) ?_
  refine lv_iload_n hx hb dX8_kept_1 rfl (lv_at hl 1 rfl) ?_
  refine lv_iload_n hx hb dX8_kept_2 rfl (lv_at hl 2 rfl) ?_
  refine lv_sipush (v := (-999)) hx hb dX8_kept_3 (by decide) ?_
  refine lv_sipush (v := 999) hx hb dX8_kept_6 (by decide) ?_
  refine call_Si (As := [.int x2, .int (-999), .int 999]) (rest := [.int x1, .ref (ad 0 0)]) EvC_ok S V hw (mt_X8_within l D q ad t aK aV x2 (-999) 999  σ _ h) ok_X8_within ml_X8_62 ⟨(Nat.le_of_ble_eq_true rfl), (Nat.le_of_ble_eq_true rfl)⟩ ⟨rfl, rfl⟩ rfl hl.1 rfl (Nat.le_of_ble_eq_true rfl) dX8_kept_9 (fun r1 σ1 H locs h hw => ?_)
  refine lv_if_eq (tgt := 30) hx hb dX8_kept_12 (by decide) (fun hc => ?_) (fun hc => ?_)
  · have h := h.1 hc
    exact wk_X8_kept_30 S V hr hlocks x1 x2 x3   post  x1 _ _ _ _ h  hw (lv_sub hl [0, 1, 2, 3] rfl)
  · have h := h.2 hc
    refine lv_iload_n hx hb dX8_kept_15 rfl (lv_at hl 3 rfl) ?_
    refine lv_bipush (v := (-99)) hx hb dX8_kept_16 (by decide) ?_
    refine lv_bipush (v := 99) hx hb dX8_kept_18 (by decide) ?_
    refine call_Si (As := [.int x3, .int (-99), .int 99]) (rest := [.int x1, .ref (ad 0 0)]) EvC_ok S V hw (mt_X8_within l D q ad t aK aV x3 (-99) 99  σ1 _ h) ok_X8_within ml_X8_62 ⟨(Nat.le_of_ble_eq_true rfl), (Nat.le_of_ble_eq_true rfl)⟩ ⟨rfl, rfl⟩ rfl hl.1 rfl (Nat.le_of_ble_eq_true rfl) dX8_kept_20 (fun r2 σ2 H locs h hw => ?_)
    refine lv_if_eq (tgt := 30) hx hb dX8_kept_23 (by decide) (fun hc => ?_) (fun hc => ?_)
    · have h := h.1 hc
      exact wk_X8_kept_30 S V hr hlocks x1 x2 x3   post  x1 _ _ _ _ h  hw (lv_sub hl [0, 1, 2, 3] rfl)
    · have h := h.2 hc
      refine lv_iconst (v := 1) hx hb dX8_kept_26 (by decide) ?_
      refine lv_goto (tgt := 31) hx hb dX8_kept_27 (by decide) ?_
      exact wk_X8_kept_31 S V hr hlocks x1 x2 x3   post  x1 1 _ _ _ _ h  hw (lv_sub hl [0, 1, 2, 3] rfl)
theorem mt_X8_kept (l : Launch) (D : va_G) (q : ClassId × ClassId × ClassId × ClassId) (ad : Nat → Nat → Nat) (t : Nat × Nat) (aK aV : Nat → Nat) (x1 : Int32) (x2 : Int32) (x3 : Int32) (σ : St) (post : Int32 → St → Prop) (h : wp_X8_kept x1 x2 x3 post σ) : cI l D clA LC ad (EC q ad) (EvC D q ad t aK aV) yX8_kept cX8_kept 5 (some .int) { frames := 5, cells := 0, slots := 0, locals := 119 } [.ref (ad 0 0), .int x1, .int x2, .int x3] σ post :=
  ent_i (by decide) (Nat.le_of_ble_eq_true rfl) (fun p e s m below meth c S V hr hlocks hw ls hl => wk_X8_kept_0 S V hr hlocks x1 x2 x3  post   σ _ _ ls h  hw (lv_sub hl [0, 1, 2, 3] rfl))
def wp_X8_steady (x1 : Int32) (x2 : Int32) (post : Int32 → St → Prop)  (σ : St) : Prop := wp_X8_within x2 0 20 (fun r1 σ1 => wp_X8_refusal x1 r1 (fun r2 σ2 => ((r2 = 0 → wp_X4_takeRule 0 (fun σ3 => (vp_in x1 4 ∧ wp_X4_leastFrom x1.toNatClampNeg x2 (fun r5 σ5 => post r5 σ5) σ3)) σ2) ∧ (¬ r2 = 0 → post r2 σ2))) σ1) σ
set_option maxHeartbeats 4000000 in
set_option maxRecDepth 100000 in
theorem wk_X8_steady_0 {p : Program} {l : Launch} {e : Env} {s : State} {m : MethodId} {below : List Frame} {meth : Method} {c : Code} {D : va_G} {q : ClassId × ClassId × ClassId × ClassId} {ad : Nat → Nat → Nat} {t : Nat × Nat} {aK aV : Nat → Nat} {args : Array Value} (S : CallFix p m c cX8_steady 4 s args GW "OnChin") (V : EvC D q ad t aK aV s) (hr : meth.sig.returnType = (some .int)) (hlocks : meth.locks = false) (x1 : Int32) (x2 : Int32) (post : Int32 → St → Prop)  : ∀ (σ : St) (H : Heap) (locs : List Loc) (ls : Array Slot), wp_X8_steady x1 x2 post  σ → wo D clA LC ad s.heap H locs (EC q ad σ) → lv_has ls 4 [(0, .ref (ad 0 0)), (1, .int x1), (2, .int x2)] → W p l e { frames := 6, cells := 0, slots := 0, locals := 143 } s m args below meth c H locs 0 0 (MQ below (zQi D clA LC ad (EC q ad) post) args s 0 0 (zA LC ad)) (F0 m 0 ls []) := by
  have hx := S.1
  have hb := S.2.1
  intro  σ H locs ls h  hw hl
  have h : wp_X8_within x2 0 20 (fun r1 σ1 => wp_X8_refusal x1 r1 (fun r2 σ2 => ((r2 = 0 → wp_X4_takeRule 0 (fun σ3 => (vp_in x1 4 ∧ wp_X4_leastFrom x1.toNatClampNeg x2 (fun r5 σ5 => post r5 σ5) σ3)) σ2) ∧ (¬ r2 = 0 → post r2 σ2))) σ1) σ := h
  refine lv_aload_n hx hb dX8_steady_0 rfl (lv_at hl 0 rfl) ?_
  refine lv_iload_n hx hb dX8_steady_1 rfl (lv_at hl 1 rfl) ?_
  refine lv_iload_n hx hb dX8_steady_2 rfl (lv_at hl 2 rfl) ?_
  refine lv_iconst (v := 0) hx hb dX8_steady_3 (by decide) ?_
  refine lv_bipush (v := 20) hx hb dX8_steady_4 (by decide) ?_
  refine call_Si (As := [.int x2, .int 0, .int 20]) (rest := [.int x1, .ref (ad 0 0)]) EvC_ok S V hw (mt_X8_within l D q ad t aK aV x2 0 20  σ _ h) ok_X8_within ml_X8_62 ⟨(Nat.le_of_ble_eq_true rfl), (Nat.le_of_ble_eq_true rfl)⟩ ⟨rfl, rfl⟩ rfl hl.1 rfl (Nat.le_of_ble_eq_true rfl) dX8_steady_6 (fun r1 σ1 H locs h hw => ?_)
  refine call_Vi (As := [.int x1, .int r1]) (rest := []) EvC_ok S V hw (mt_X8_refusal l D q ad t aK aV x1 r1  σ1 _ h) ok_X8_refusal ml_X8_119 (rC_0 S V hw (Nat.le_of_ble_eq_true rfl)) ⟨(Nat.le_of_ble_eq_true rfl), (Nat.le_of_ble_eq_true rfl)⟩ ⟨rfl, rfl⟩ rfl hl.1 rfl (Nat.le_of_ble_eq_true rfl) dX8_steady_9 (fun r2 σ2 H locs h hw => ?_)
  refine lv_istore_n (lv' := [(3, .int r2), (0, .ref (ad 0 0)), (1, .int x1), (2, .int x2)]) hx hb dX8_steady_12 rfl hl (by decide) rfl (fun ls hl => ?_)
  refine lv_iload_n hx hb dX8_steady_13 rfl (lv_at hl 0 rfl) ?_
  refine lv_if_eq (tgt := 19) hx hb dX8_steady_14 (by decide) (fun hc => ?_) (fun hc => ?_)
  · have h := h.1 hc
    refine lv_aload_n hx hb dX8_steady_19 rfl (lv_at hl 1 rfl) ?_
    refine gC_0_4 S V hw (Nat.le_of_ble_eq_true rfl) fl_X8_37 dX8_steady_20 ?_
    refine lv_aload_n hx hb dX8_steady_23 rfl (lv_at hl 1 rfl) ?_
    refine gC_0_0 S V hw (Nat.le_of_ble_eq_true rfl) fl_X8_12 dX8_steady_24 ?_
    refine gC_1_1 S V hw (Nat.le_of_ble_eq_true rfl) fl_X8_130 dX8_steady_27 ?_
    refine call_Vv (As := [.ref (ad 6 0)]) (rest := []) EvC_ok S V hw (mt_X4_takeRule l D q ad t aK aV 0 (Nat.le_of_ble_eq_true rfl) σ2 _ h) ok_X4_takeRule ml_X8_164 (rC_16 S V hw (Nat.le_of_ble_eq_true rfl)) ⟨(Nat.le_of_ble_eq_true rfl), (Nat.le_of_ble_eq_true rfl)⟩ ⟨rfl, rfl⟩ rfl hl.1 rfl (Nat.le_of_ble_eq_true rfl) dX8_steady_30 (fun σ3 H locs h hw => ?_)
    refine lv_aload_n hx hb dX8_steady_33 rfl (lv_at hl 1 rfl) ?_
    refine gC_0_4 S V hw (Nat.le_of_ble_eq_true rfl) fl_X8_37 dX8_steady_34 ?_
    refine lv_aload_n hx hb dX8_steady_37 rfl (lv_at hl 1 rfl) ?_
    refine gC_0_0 S V hw (Nat.le_of_ble_eq_true rfl) fl_X8_12 dX8_steady_38 ?_
    refine gC_1_0 S V hw (Nat.le_of_ble_eq_true rfl) fl_X8_91 dX8_steady_41 ?_
    refine lv_iload_n hx hb dX8_steady_44 rfl (lv_at hl 2 rfl) ?_
    have hv4 := h.1
    have h := h.2
    refine aC_5 S V hw (Nat.le_of_ble_eq_true rfl) hv4 dX8_steady_45 ?_
    refine lv_iload_n hx hb dX8_steady_46 rfl (lv_at hl 3 rfl) ?_
    refine call_Vi (As := [.ref (ad 2 x1.toNatClampNeg), .int x2]) (rest := []) EvC_ok S V hw (mt_X4_leastFrom l D q ad t aK aV x1.toNatClampNeg x2 (vin_lt hv4 (Nat.le_of_ble_eq_true rfl)) σ3 _ h) ok_X4_leastFrom ml_X8_172 (rC_16 S V hw (Nat.le_of_ble_eq_true rfl)) ⟨(Nat.le_of_ble_eq_true rfl), (Nat.le_of_ble_eq_true rfl)⟩ ⟨rfl, rfl⟩ rfl hl.1 rfl (Nat.le_of_ble_eq_true rfl) dX8_steady_47 (fun r5 σ5 H locs h hw => ?_)
    exact ret_i S hr hlocks hw h dX8_steady_50
  · have h := h.2 hc
    refine lv_iload_n hx hb dX8_steady_17 rfl (lv_at hl 0 rfl) ?_
    exact ret_i S hr hlocks hw h dX8_steady_18
theorem mt_X8_steady (l : Launch) (D : va_G) (q : ClassId × ClassId × ClassId × ClassId) (ad : Nat → Nat → Nat) (t : Nat × Nat) (aK aV : Nat → Nat) (x1 : Int32) (x2 : Int32) (σ : St) (post : Int32 → St → Prop) (h : wp_X8_steady x1 x2 post σ) : cI l D clA LC ad (EC q ad) (EvC D q ad t aK aV) yX8_steady cX8_steady 4 (some .int) { frames := 6, cells := 0, slots := 0, locals := 143 } [.ref (ad 0 0), .int x1, .int x2] σ post :=
  ent_i (by decide) (Nat.le_of_ble_eq_true rfl) (fun p e s m below meth c S V hr hlocks hw ls hl => wk_X8_steady_0 S V hr hlocks x1 x2  post   σ _ _ ls h  hw (lv_sub hl [0, 1, 2] rfl))
def wp_X8_line (x1 : Int32) (post : Int32 → St → Prop)  (σ : St) : Prop := wp_X8_within x1 0 20 (fun r1 σ1 => ((¬ r1 = 0 → wp_X4_takeRule 0 (fun σ2 => wp_X4_shortestSteady x1 (fun r3 σ3 => post r3 σ3) σ2) σ1) ∧ (r1 = 0 → post (-3) σ1))) σ
set_option maxHeartbeats 4000000 in
set_option maxRecDepth 100000 in
theorem wk_X8_line_0 {p : Program} {l : Launch} {e : Env} {s : State} {m : MethodId} {below : List Frame} {meth : Method} {c : Code} {D : va_G} {q : ClassId × ClassId × ClassId × ClassId} {ad : Nat → Nat → Nat} {t : Nat × Nat} {aK aV : Nat → Nat} {args : Array Value} (S : CallFix p m c cX8_line 2 s args GW "OnChin") (V : EvC D q ad t aK aV s) (hr : meth.sig.returnType = (some .int)) (hlocks : meth.locks = false) (x1 : Int32) (post : Int32 → St → Prop)  : ∀ (σ : St) (H : Heap) (locs : List Loc) (ls : Array Slot), wp_X8_line x1 post  σ → wo D clA LC ad s.heap H locs (EC q ad σ) → lv_has ls 2 [(0, .ref (ad 0 0)), (1, .int x1)] → W p l e { frames := 7, cells := 0, slots := 0, locals := 166 } s m args below meth c H locs 0 0 (MQ below (zQi D clA LC ad (EC q ad) post) args s 0 0 (zA LC ad)) (F0 m 0 ls []) := by
  have hx := S.1
  have hb := S.2.1
  intro  σ H locs ls h  hw hl
  have h : wp_X8_within x1 0 20 (fun r1 σ1 => ((¬ r1 = 0 → wp_X4_takeRule 0 (fun σ2 => wp_X4_shortestSteady x1 (fun r3 σ3 => post r3 σ3) σ2) σ1) ∧ (r1 = 0 → post (-3) σ1))) σ := h
  refine lv_iload_n hx hb dX8_line_0 rfl (lv_at hl 1 rfl) ?_
  refine lv_iconst (v := 0) hx hb dX8_line_1 (by decide) ?_
  refine lv_bipush (v := 20) hx hb dX8_line_2 (by decide) ?_
  refine call_Si (As := [.int x1, .int 0, .int 20]) (rest := []) EvC_ok S V hw (mt_X8_within l D q ad t aK aV x1 0 20  σ _ h) ok_X8_within ml_X8_62 ⟨(Nat.le_of_ble_eq_true rfl), (Nat.le_of_ble_eq_true rfl)⟩ ⟨rfl, rfl⟩ rfl hl.1 rfl (Nat.le_of_ble_eq_true rfl) dX8_line_4 (fun r1 σ1 H locs h hw => ?_)
  refine lv_if_ne (tgt := 13) hx hb dX8_line_7 (by decide) (fun hc => ?_) (fun hc => ?_)
  · have h := h.1 hc
    refine lv_aload_n hx hb dX8_line_13 rfl (lv_at hl 0 rfl) ?_
    refine gC_0_4 S V hw (Nat.le_of_ble_eq_true rfl) fl_X8_37 dX8_line_14 ?_
    refine lv_aload_n hx hb dX8_line_17 rfl (lv_at hl 0 rfl) ?_
    refine gC_0_0 S V hw (Nat.le_of_ble_eq_true rfl) fl_X8_12 dX8_line_18 ?_
    refine gC_1_1 S V hw (Nat.le_of_ble_eq_true rfl) fl_X8_130 dX8_line_21 ?_
    refine call_Vv (As := [.ref (ad 6 0)]) (rest := []) EvC_ok S V hw (mt_X4_takeRule l D q ad t aK aV 0 (Nat.le_of_ble_eq_true rfl) σ1 _ h) ok_X4_takeRule ml_X8_164 (rC_16 S V hw (Nat.le_of_ble_eq_true rfl)) ⟨(Nat.le_of_ble_eq_true rfl), (Nat.le_of_ble_eq_true rfl)⟩ ⟨rfl, rfl⟩ rfl hl.1 rfl (Nat.le_of_ble_eq_true rfl) dX8_line_24 (fun σ2 H locs h hw => ?_)
    refine lv_aload_n hx hb dX8_line_27 rfl (lv_at hl 0 rfl) ?_
    refine gC_0_4 S V hw (Nat.le_of_ble_eq_true rfl) fl_X8_37 dX8_line_28 ?_
    refine lv_iload_n hx hb dX8_line_31 rfl (lv_at hl 1 rfl) ?_
    refine call_Vi (As := [.int x1]) (rest := []) EvC_ok S V hw (mt_X4_shortestSteady l D q ad t aK aV x1  σ2 _ h) ok_X4_shortestSteady ml_X8_176 (rC_16 S V hw (Nat.le_of_ble_eq_true rfl)) ⟨(Nat.le_of_ble_eq_true rfl), (Nat.le_of_ble_eq_true rfl)⟩ ⟨rfl, rfl⟩ rfl hl.1 rfl (Nat.le_of_ble_eq_true rfl) dX8_line_32 (fun r3 σ3 H locs h hw => ?_)
    exact ret_i S hr hlocks hw h dX8_line_35
  · have h := h.2 hc
    refine lv_bipush (v := (-3)) hx hb dX8_line_10 (by decide) ?_
    exact ret_i S hr hlocks hw h dX8_line_12
theorem mt_X8_line (l : Launch) (D : va_G) (q : ClassId × ClassId × ClassId × ClassId) (ad : Nat → Nat → Nat) (t : Nat × Nat) (aK aV : Nat → Nat) (x1 : Int32) (σ : St) (post : Int32 → St → Prop) (h : wp_X8_line x1 post σ) : cI l D clA LC ad (EC q ad) (EvC D q ad t aK aV) yX8_line cX8_line 2 (some .int) { frames := 7, cells := 0, slots := 0, locals := 166 } [.ref (ad 0 0), .int x1] σ post :=
  ent_i (by decide) (Nat.le_of_ble_eq_true rfl) (fun p e s m below meth c S V hr hlocks hw ls hl => wk_X8_line_0 S V hr hlocks x1  post   σ _ _ ls h  hw (lv_sub hl [0, 1] rfl))
def wp_X8_best_25 (x1 : Int32) (x2 : Int32) (x3 : Int32) (post : Int32 → St → Prop) (xs1 : Int32) (xs2 : Int32) (σ : St) : Prop := wp_X8_refusal xs1 xs2 (fun r1 σ1 => ((r1 = 0 → wp_X4_takeRule 0 (fun σ2 => (vp_in x1 4 ∧ wp_X4_bestRule x1.toNatClampNeg x2 x3 (fun r4 σ4 => post r4 σ4) σ2)) σ1) ∧ (¬ r1 = 0 → post r1 σ1))) σ
set_option maxHeartbeats 4000000 in
set_option maxRecDepth 100000 in
theorem wk_X8_best_25 {p : Program} {l : Launch} {e : Env} {s : State} {m : MethodId} {below : List Frame} {meth : Method} {c : Code} {D : va_G} {q : ClassId × ClassId × ClassId × ClassId} {ad : Nat → Nat → Nat} {t : Nat × Nat} {aK aV : Nat → Nat} {args : Array Value} (S : CallFix p m c cX8_best 5 s args GW "OnChin") (V : EvC D q ad t aK aV s) (hr : meth.sig.returnType = (some .int)) (hlocks : meth.locks = false) (x1 : Int32) (x2 : Int32) (x3 : Int32) (post : Int32 → St → Prop)  : ∀ (xs1 : Int32) (xs2 : Int32) (σ : St) (H : Heap) (locs : List Loc) (ls : Array Slot), wp_X8_best_25 x1 x2 x3 post xs1 xs2 σ → wo D clA LC ad s.heap H locs (EC q ad σ) → lv_has ls 5 [(0, .ref (ad 0 0)), (1, .int x1), (2, .int x2), (3, .int x3)] → W p l e { frames := 7, cells := 0, slots := 0, locals := 174 } s m args below meth c H locs 0 0 (MQ below (zQi D clA LC ad (EC q ad) post) args s 0 0 (zA LC ad)) (F0 m 25 ls [.int xs2, .int xs1, .ref (ad 0 0)]) := by
  have hx := S.1
  have hb := S.2.1
  intro xs1 xs2 σ H locs ls h  hw hl
  have h : wp_X8_refusal xs1 xs2 (fun r1 σ1 => ((r1 = 0 → wp_X4_takeRule 0 (fun σ2 => (vp_in x1 4 ∧ wp_X4_bestRule x1.toNatClampNeg x2 x3 (fun r4 σ4 => post r4 σ4) σ2)) σ1) ∧ (¬ r1 = 0 → post r1 σ1))) σ := h
  refine call_Vi (As := [.int xs1, .int xs2]) (rest := []) EvC_ok S V hw (mt_X8_refusal l D q ad t aK aV xs1 xs2  σ _ h) ok_X8_refusal ml_X8_119 (rC_0 S V hw (Nat.le_of_ble_eq_true rfl)) ⟨(Nat.le_of_ble_eq_true rfl), (Nat.le_of_ble_eq_true rfl)⟩ ⟨rfl, rfl⟩ rfl hl.1 rfl (Nat.le_of_ble_eq_true rfl) dX8_best_25 (fun r1 σ1 H locs h hw => ?_)
  refine lv_istore (lv' := [(4, .int r1), (0, .ref (ad 0 0)), (1, .int x1), (2, .int x2), (3, .int x3)]) hx hb dX8_best_28 hl (by decide) rfl (fun ls hl => ?_)
  refine lv_iload hx hb dX8_best_30 (lv_at hl 0 rfl) ?_
  refine lv_if_eq (tgt := 38) hx hb dX8_best_32 (by decide) (fun hc => ?_) (fun hc => ?_)
  · have h := h.1 hc
    refine lv_aload_n hx hb dX8_best_38 rfl (lv_at hl 1 rfl) ?_
    refine gC_0_4 S V hw (Nat.le_of_ble_eq_true rfl) fl_X8_37 dX8_best_39 ?_
    refine lv_aload_n hx hb dX8_best_42 rfl (lv_at hl 1 rfl) ?_
    refine gC_0_0 S V hw (Nat.le_of_ble_eq_true rfl) fl_X8_12 dX8_best_43 ?_
    refine gC_1_1 S V hw (Nat.le_of_ble_eq_true rfl) fl_X8_130 dX8_best_46 ?_
    refine call_Vv (As := [.ref (ad 6 0)]) (rest := []) EvC_ok S V hw (mt_X4_takeRule l D q ad t aK aV 0 (Nat.le_of_ble_eq_true rfl) σ1 _ h) ok_X4_takeRule ml_X8_164 (rC_16 S V hw (Nat.le_of_ble_eq_true rfl)) ⟨(Nat.le_of_ble_eq_true rfl), (Nat.le_of_ble_eq_true rfl)⟩ ⟨rfl, rfl⟩ rfl hl.1 rfl (Nat.le_of_ble_eq_true rfl) dX8_best_49 (fun σ2 H locs h hw => ?_)
    refine lv_aload_n hx hb dX8_best_52 rfl (lv_at hl 1 rfl) ?_
    refine gC_0_4 S V hw (Nat.le_of_ble_eq_true rfl) fl_X8_37 dX8_best_53 ?_
    refine lv_aload_n hx hb dX8_best_56 rfl (lv_at hl 1 rfl) ?_
    refine gC_0_0 S V hw (Nat.le_of_ble_eq_true rfl) fl_X8_12 dX8_best_57 ?_
    refine gC_1_0 S V hw (Nat.le_of_ble_eq_true rfl) fl_X8_91 dX8_best_60 ?_
    refine lv_iload_n hx hb dX8_best_63 rfl (lv_at hl 2 rfl) ?_
    have hv3 := h.1
    have h := h.2
    refine aC_5 S V hw (Nat.le_of_ble_eq_true rfl) hv3 dX8_best_64 ?_
    refine lv_iload_n hx hb dX8_best_65 rfl (lv_at hl 3 rfl) ?_
    refine lv_iload_n hx hb dX8_best_66 rfl (lv_at hl 4 rfl) ?_
    refine call_Vi (As := [.ref (ad 2 x1.toNatClampNeg), .int x2, .int x3]) (rest := []) EvC_ok S V hw (mt_X4_bestRule l D q ad t aK aV x1.toNatClampNeg x2 x3 (vin_lt hv3 (Nat.le_of_ble_eq_true rfl)) σ2 _ h) ok_X4_bestRule ml_X8_180 (rC_16 S V hw (Nat.le_of_ble_eq_true rfl)) ⟨(Nat.le_of_ble_eq_true rfl), (Nat.le_of_ble_eq_true rfl)⟩ ⟨rfl, rfl⟩ rfl hl.1 rfl (Nat.le_of_ble_eq_true rfl) dX8_best_67 (fun r4 σ4 H locs h hw => ?_)
    exact ret_i S hr hlocks hw h dX8_best_70
  · have h := h.2 hc
    refine lv_iload hx hb dX8_best_35 (lv_at hl 0 rfl) ?_
    exact ret_i S hr hlocks hw h dX8_best_37
def wp_X8_best_24 (x1 : Int32) (x2 : Int32) (x3 : Int32) (post : Int32 → St → Prop) (xs1 : Int32) (σ : St) : Prop := wp_X8_best_25 x1 x2 x3 post xs1 0 σ
set_option maxHeartbeats 4000000 in
set_option maxRecDepth 100000 in
theorem wk_X8_best_24 {p : Program} {l : Launch} {e : Env} {s : State} {m : MethodId} {below : List Frame} {meth : Method} {c : Code} {D : va_G} {q : ClassId × ClassId × ClassId × ClassId} {ad : Nat → Nat → Nat} {t : Nat × Nat} {aK aV : Nat → Nat} {args : Array Value} (S : CallFix p m c cX8_best 5 s args GW "OnChin") (V : EvC D q ad t aK aV s) (hr : meth.sig.returnType = (some .int)) (hlocks : meth.locks = false) (x1 : Int32) (x2 : Int32) (x3 : Int32) (post : Int32 → St → Prop)  : ∀ (xs1 : Int32) (σ : St) (H : Heap) (locs : List Loc) (ls : Array Slot), wp_X8_best_24 x1 x2 x3 post xs1 σ → wo D clA LC ad s.heap H locs (EC q ad σ) → lv_has ls 5 [(0, .ref (ad 0 0)), (1, .int x1), (2, .int x2), (3, .int x3)] → W p l e { frames := 7, cells := 0, slots := 0, locals := 174 } s m args below meth c H locs 0 0 (MQ below (zQi D clA LC ad (EC q ad) post) args s 0 0 (zA LC ad)) (F0 m 24 ls [.int xs1, .ref (ad 0 0)]) := by
  have hx := S.1
  have hb := S.2.1
  intro xs1 σ H locs ls h  hw hl
  have h : wp_X8_best_25 x1 x2 x3 post xs1 0 σ := h
  refine lv_iconst (v := 0) hx hb dX8_best_24 (by decide) ?_
  exact wk_X8_best_25 S V hr hlocks x1 x2 x3   post  xs1 0 _ _ _ _ h  hw (lv_sub hl [0, 1, 2, 3] rfl)
def wp_X8_best (x1 : Int32) (x2 : Int32) (x3 : Int32) (post : Int32 → St → Prop)  (σ : St) : Prop := wp_X8_within x2 0 4 (fun r1 σ1 => ((r1 = 0 → wp_X8_best_24 x1 x2 x3 post x1 σ1) ∧ (¬ r1 = 0 → wp_X8_within x3 0 2 (fun r2 σ2 => ((r2 = 0 → wp_X8_best_24 x1 x2 x3 post x1 σ2) ∧ (¬ r2 = 0 → wp_X8_best_25 x1 x2 x3 post x1 1 σ2))) σ1))) σ
set_option maxHeartbeats 4000000 in
set_option maxRecDepth 100000 in
theorem wk_X8_best_0 {p : Program} {l : Launch} {e : Env} {s : State} {m : MethodId} {below : List Frame} {meth : Method} {c : Code} {D : va_G} {q : ClassId × ClassId × ClassId × ClassId} {ad : Nat → Nat → Nat} {t : Nat × Nat} {aK aV : Nat → Nat} {args : Array Value} (S : CallFix p m c cX8_best 5 s args GW "OnChin") (V : EvC D q ad t aK aV s) (hr : meth.sig.returnType = (some .int)) (hlocks : meth.locks = false) (x1 : Int32) (x2 : Int32) (x3 : Int32) (post : Int32 → St → Prop)  : ∀ (σ : St) (H : Heap) (locs : List Loc) (ls : Array Slot), wp_X8_best x1 x2 x3 post  σ → wo D clA LC ad s.heap H locs (EC q ad σ) → lv_has ls 5 [(0, .ref (ad 0 0)), (1, .int x1), (2, .int x2), (3, .int x3)] → W p l e { frames := 7, cells := 0, slots := 0, locals := 174 } s m args below meth c H locs 0 0 (MQ below (zQi D clA LC ad (EC q ad) post) args s 0 0 (zA LC ad)) (F0 m 0 ls []) := by
  have hx := S.1
  have hb := S.2.1
  intro  σ H locs ls h  hw hl
  have h : wp_X8_within x2 0 4 (fun r1 σ1 => ((r1 = 0 → wp_X8_best_24 x1 x2 x3 post x1 σ1) ∧ (¬ r1 = 0 → wp_X8_within x3 0 2 (fun r2 σ2 => ((r2 = 0 → wp_X8_best_24 x1 x2 x3 post x1 σ2) ∧ (¬ r2 = 0 → wp_X8_best_25 x1 x2 x3 post x1 1 σ2))) σ1))) σ := h
  refine lv_aload_n hx hb dX8_best_0 rfl (lv_at hl 0 rfl) ?_
  refine lv_iload_n hx hb dX8_best_1 rfl (lv_at hl 1 rfl) ?_
  refine lv_iload_n hx hb dX8_best_2 rfl (lv_at hl 2 rfl) ?_
  refine lv_iconst (v := 0) hx hb dX8_best_3 (by decide) ?_
  refine lv_iconst (v := 4) hx hb dX8_best_4 (by decide) ?_
  refine call_Si (As := [.int x2, .int 0, .int 4]) (rest := [.int x1, .ref (ad 0 0)]) EvC_ok S V hw (mt_X8_within l D q ad t aK aV x2 0 4  σ _ h) ok_X8_within ml_X8_62 ⟨(Nat.le_of_ble_eq_true rfl), (Nat.le_of_ble_eq_true rfl)⟩ ⟨rfl, rfl⟩ rfl hl.1 rfl (Nat.le_of_ble_eq_true rfl) dX8_best_5 (fun r1 σ1 H locs h hw => ?_)
  refine lv_if_eq (tgt := 24) hx hb dX8_best_8 (by decide) (fun hc => ?_) (fun hc => ?_)
  · have h := h.1 hc
    exact wk_X8_best_24 S V hr hlocks x1 x2 x3   post  x1 _ _ _ _ h  hw (lv_sub hl [0, 1, 2, 3] rfl)
  · have h := h.2 hc
    refine lv_iload_n hx hb dX8_best_11 rfl (lv_at hl 3 rfl) ?_
    refine lv_iconst (v := 0) hx hb dX8_best_12 (by decide) ?_
    refine lv_iconst (v := 2) hx hb dX8_best_13 (by decide) ?_
    refine call_Si (As := [.int x3, .int 0, .int 2]) (rest := [.int x1, .ref (ad 0 0)]) EvC_ok S V hw (mt_X8_within l D q ad t aK aV x3 0 2  σ1 _ h) ok_X8_within ml_X8_62 ⟨(Nat.le_of_ble_eq_true rfl), (Nat.le_of_ble_eq_true rfl)⟩ ⟨rfl, rfl⟩ rfl hl.1 rfl (Nat.le_of_ble_eq_true rfl) dX8_best_14 (fun r2 σ2 H locs h hw => ?_)
    refine lv_if_eq (tgt := 24) hx hb dX8_best_17 (by decide) (fun hc => ?_) (fun hc => ?_)
    · have h := h.1 hc
      exact wk_X8_best_24 S V hr hlocks x1 x2 x3   post  x1 _ _ _ _ h  hw (lv_sub hl [0, 1, 2, 3] rfl)
    · have h := h.2 hc
      refine lv_iconst (v := 1) hx hb dX8_best_20 (by decide) ?_
      refine lv_goto (tgt := 25) hx hb dX8_best_21 (by decide) ?_
      exact wk_X8_best_25 S V hr hlocks x1 x2 x3   post  x1 1 _ _ _ _ h  hw (lv_sub hl [0, 1, 2, 3] rfl)
theorem mt_X8_best (l : Launch) (D : va_G) (q : ClassId × ClassId × ClassId × ClassId) (ad : Nat → Nat → Nat) (t : Nat × Nat) (aK aV : Nat → Nat) (x1 : Int32) (x2 : Int32) (x3 : Int32) (σ : St) (post : Int32 → St → Prop) (h : wp_X8_best x1 x2 x3 post σ) : cI l D clA LC ad (EC q ad) (EvC D q ad t aK aV) yX8_best cX8_best 5 (some .int) { frames := 7, cells := 0, slots := 0, locals := 174 } [.ref (ad 0 0), .int x1, .int x2, .int x3] σ post :=
  ent_i (by decide) (Nat.le_of_ble_eq_true rfl) (fun p e s m below meth c S V hr hlocks hw ls hl => wk_X8_best_0 S V hr hlocks x1 x2 x3  post   σ _ _ ls h  hw (lv_sub hl [0, 1, 2, 3] rfl))
def wp_X8_odds_59 (x1 : Int32) (x2 : Int32) (x3 : Int32) (x4 : Int32) (x5 : Int32) (x6 : Int32) (post : Int32 → St → Prop) (xs0 : Int32) (σ : St) : Prop := wp_X8_refusal x1 xs0 (fun r1 σ1 => ((r1 = 0 → wp_X4_takeRule 0 (fun σ2 => (vp_in x1 4 ∧ wp_X4_chances x1.toNatClampNeg x2 x3 x4 x5 (fun r4 σ4 => wp_X8_lowestTerms r4 x3 x6 (fun r5 σ5 => post r5 σ5) σ4) σ2)) σ1) ∧ (¬ r1 = 0 → post r1 σ1))) σ
set_option maxHeartbeats 4000000 in
set_option maxRecDepth 100000 in
theorem wk_X8_odds_59 {p : Program} {l : Launch} {e : Env} {s : State} {m : MethodId} {below : List Frame} {meth : Method} {c : Code} {D : va_G} {q : ClassId × ClassId × ClassId × ClassId} {ad : Nat → Nat → Nat} {t : Nat × Nat} {aK aV : Nat → Nat} {args : Array Value} (S : CallFix p m c cX8_odds 9 s args GW "OnChin") (V : EvC D q ad t aK aV s) (hr : meth.sig.returnType = (some .int)) (hlocks : meth.locks = false) (x1 : Int32) (x2 : Int32) (x3 : Int32) (x4 : Int32) (x5 : Int32) (x6 : Int32) (post : Int32 → St → Prop)  : ∀ (xs0 : Int32) (σ : St) (H : Heap) (locs : List Loc) (ls : Array Slot), wp_X8_odds_59 x1 x2 x3 x4 x5 x6 post xs0 σ → wo D clA LC ad s.heap H locs (EC q ad σ) → lv_has ls 9 [(0, .ref (ad 0 0)), (1, .int x1), (2, .int x2), (3, .int x3), (4, .int x4), (5, .int x5), (6, .int x6)] → W p l e { frames := 5, cells := 0, slots := 0, locals := 124 } s m args below meth c H locs 0 0 (MQ below (zQi D clA LC ad (EC q ad) post) args s 0 0 (zA LC ad)) (F0 m 59 ls [.int xs0]) := by
  have hx := S.1
  have hb := S.2.1
  intro xs0 σ H locs ls h  hw hl
  have h : wp_X8_refusal x1 xs0 (fun r1 σ1 => ((r1 = 0 → wp_X4_takeRule 0 (fun σ2 => (vp_in x1 4 ∧ wp_X4_chances x1.toNatClampNeg x2 x3 x4 x5 (fun r4 σ4 => wp_X8_lowestTerms r4 x3 x6 (fun r5 σ5 => post r5 σ5) σ4) σ2)) σ1) ∧ (¬ r1 = 0 → post r1 σ1))) σ := h
  refine lv_istore (lv' := [(7, .int xs0), (0, .ref (ad 0 0)), (1, .int x1), (2, .int x2), (3, .int x3), (4, .int x4), (5, .int x5), (6, .int x6)]) hx hb dX8_odds_59 hl (by decide) rfl (fun ls hl => ?_)
  refine lv_aload_n hx hb dX8_odds_61 rfl (lv_at hl 1 rfl) ?_
  refine lv_iload_n hx hb dX8_odds_62 rfl (lv_at hl 2 rfl) ?_
  refine lv_iload hx hb dX8_odds_63 (lv_at hl 0 rfl) ?_
  refine call_Vi (As := [.int x1, .int xs0]) (rest := []) EvC_ok S V hw (mt_X8_refusal l D q ad t aK aV x1 xs0  σ _ h) ok_X8_refusal ml_X8_119 (rC_0 S V hw (Nat.le_of_ble_eq_true rfl)) ⟨(Nat.le_of_ble_eq_true rfl), (Nat.le_of_ble_eq_true rfl)⟩ ⟨rfl, rfl⟩ rfl hl.1 rfl (Nat.le_of_ble_eq_true rfl) dX8_odds_65 (fun r1 σ1 H locs h hw => ?_)
  refine lv_istore (lv' := [(8, .int r1), (7, .int xs0), (0, .ref (ad 0 0)), (1, .int x1), (2, .int x2), (3, .int x3), (4, .int x4), (5, .int x5), (6, .int x6)]) hx hb dX8_odds_68 hl (by decide) rfl (fun ls hl => ?_)
  refine lv_iload hx hb dX8_odds_70 (lv_at hl 0 rfl) ?_
  refine lv_if_eq (tgt := 78) hx hb dX8_odds_72 (by decide) (fun hc => ?_) (fun hc => ?_)
  · have h := h.1 hc
    refine lv_aload_n hx hb dX8_odds_78 rfl (lv_at hl 2 rfl) ?_
    refine gC_0_4 S V hw (Nat.le_of_ble_eq_true rfl) fl_X8_37 dX8_odds_79 ?_
    refine lv_aload_n hx hb dX8_odds_82 rfl (lv_at hl 2 rfl) ?_
    refine gC_0_0 S V hw (Nat.le_of_ble_eq_true rfl) fl_X8_12 dX8_odds_83 ?_
    refine gC_1_1 S V hw (Nat.le_of_ble_eq_true rfl) fl_X8_130 dX8_odds_86 ?_
    refine call_Vv (As := [.ref (ad 6 0)]) (rest := []) EvC_ok S V hw (mt_X4_takeRule l D q ad t aK aV 0 (Nat.le_of_ble_eq_true rfl) σ1 _ h) ok_X4_takeRule ml_X8_164 (rC_16 S V hw (Nat.le_of_ble_eq_true rfl)) ⟨(Nat.le_of_ble_eq_true rfl), (Nat.le_of_ble_eq_true rfl)⟩ ⟨rfl, rfl⟩ rfl hl.1 rfl (Nat.le_of_ble_eq_true rfl) dX8_odds_89 (fun σ2 H locs h hw => ?_)
    refine lv_aload_n hx hb dX8_odds_92 rfl (lv_at hl 2 rfl) ?_
    refine gC_0_4 S V hw (Nat.le_of_ble_eq_true rfl) fl_X8_37 dX8_odds_93 ?_
    refine lv_aload_n hx hb dX8_odds_96 rfl (lv_at hl 2 rfl) ?_
    refine gC_0_0 S V hw (Nat.le_of_ble_eq_true rfl) fl_X8_12 dX8_odds_97 ?_
    refine gC_1_0 S V hw (Nat.le_of_ble_eq_true rfl) fl_X8_91 dX8_odds_100 ?_
    refine lv_iload_n hx hb dX8_odds_103 rfl (lv_at hl 3 rfl) ?_
    have hv3 := h.1
    have h := h.2
    refine aC_5 S V hw (Nat.le_of_ble_eq_true rfl) hv3 dX8_odds_104 ?_
    refine lv_iload_n hx hb dX8_odds_105 rfl (lv_at hl 4 rfl) ?_
    refine lv_iload_n hx hb dX8_odds_106 rfl (lv_at hl 5 rfl) ?_
    refine lv_iload hx hb dX8_odds_107 (lv_at hl 6 rfl) ?_
    refine lv_iload hx hb dX8_odds_109 (lv_at hl 7 rfl) ?_
    refine call_Vi (As := [.ref (ad 2 x1.toNatClampNeg), .int x2, .int x3, .int x4, .int x5]) (rest := []) EvC_ok S V hw (mt_X4_chances l D q ad t aK aV x1.toNatClampNeg x2 x3 x4 x5 (vin_lt hv3 (Nat.le_of_ble_eq_true rfl)) σ2 _ h) ok_X4_chances ml_X8_184 (rC_16 S V hw (Nat.le_of_ble_eq_true rfl)) ⟨(Nat.le_of_ble_eq_true rfl), (Nat.le_of_ble_eq_true rfl)⟩ ⟨rfl, rfl⟩ rfl hl.1 rfl (Nat.le_of_ble_eq_true rfl) dX8_odds_111 (fun r4 σ4 H locs h hw => ?_)
    refine lv_iload_n hx hb dX8_odds_114 rfl (lv_at hl 5 rfl) ?_
    refine lv_iload hx hb dX8_odds_115 (lv_at hl 8 rfl) ?_
    refine call_Si (As := [.int r4, .int x3, .int x6]) (rest := []) EvC_ok S V hw (mt_X8_lowestTerms l D q ad t aK aV r4 x3 x6  σ4 _ h) ok_X8_lowestTerms ml_X8_188 ⟨(Nat.le_of_ble_eq_true rfl), (Nat.le_of_ble_eq_true rfl)⟩ ⟨rfl, rfl⟩ rfl hl.1 rfl (Nat.le_of_ble_eq_true rfl) dX8_odds_117 (fun r5 σ5 H locs h hw => ?_)
    exact ret_i S hr hlocks hw h dX8_odds_120
  · have h := h.2 hc
    refine lv_iload hx hb dX8_odds_75 (lv_at hl 0 rfl) ?_
    exact ret_i S hr hlocks hw h dX8_odds_77
def wp_X8_odds_58 (x1 : Int32) (x2 : Int32) (x3 : Int32) (x4 : Int32) (x5 : Int32) (x6 : Int32) (post : Int32 → St → Prop)  (σ : St) : Prop := wp_X8_odds_59 x1 x2 x3 x4 x5 x6 post 0 σ
set_option maxHeartbeats 4000000 in
set_option maxRecDepth 100000 in
theorem wk_X8_odds_58 {p : Program} {l : Launch} {e : Env} {s : State} {m : MethodId} {below : List Frame} {meth : Method} {c : Code} {D : va_G} {q : ClassId × ClassId × ClassId × ClassId} {ad : Nat → Nat → Nat} {t : Nat × Nat} {aK aV : Nat → Nat} {args : Array Value} (S : CallFix p m c cX8_odds 9 s args GW "OnChin") (V : EvC D q ad t aK aV s) (hr : meth.sig.returnType = (some .int)) (hlocks : meth.locks = false) (x1 : Int32) (x2 : Int32) (x3 : Int32) (x4 : Int32) (x5 : Int32) (x6 : Int32) (post : Int32 → St → Prop)  : ∀ (σ : St) (H : Heap) (locs : List Loc) (ls : Array Slot), wp_X8_odds_58 x1 x2 x3 x4 x5 x6 post  σ → wo D clA LC ad s.heap H locs (EC q ad σ) → lv_has ls 9 [(0, .ref (ad 0 0)), (1, .int x1), (2, .int x2), (3, .int x3), (4, .int x4), (5, .int x5), (6, .int x6)] → W p l e { frames := 5, cells := 0, slots := 0, locals := 124 } s m args below meth c H locs 0 0 (MQ below (zQi D clA LC ad (EC q ad) post) args s 0 0 (zA LC ad)) (F0 m 58 ls []) := by
  have hx := S.1
  have hb := S.2.1
  intro  σ H locs ls h  hw hl
  have h : wp_X8_odds_59 x1 x2 x3 x4 x5 x6 post 0 σ := h
  refine lv_iconst (v := 0) hx hb dX8_odds_58 (by decide) ?_
  exact wk_X8_odds_59 S V hr hlocks x1 x2 x3 x4 x5 x6   post  0 _ _ _ _ h  hw (lv_sub hl [0, 1, 2, 3, 4, 5, 6] rfl)
def wp_X8_odds (x1 : Int32) (x2 : Int32) (x3 : Int32) (x4 : Int32) (x5 : Int32) (x6 : Int32) (post : Int32 → St → Prop)  (σ : St) : Prop := wp_X8_within x2 (-999) 999 (fun r1 σ1 => ((r1 = 0 → wp_X8_odds_58 x1 x2 x3 x4 x5 x6 post  σ1) ∧ (¬ r1 = 0 → wp_X8_within x3 0 6 (fun r2 σ2 => ((r2 = 0 → wp_X8_odds_58 x1 x2 x3 x4 x5 x6 post  σ2) ∧ (¬ r2 = 0 → wp_X8_within x4 0 99 (fun r3 σ3 => ((r3 = 0 → wp_X8_odds_58 x1 x2 x3 x4 x5 x6 post  σ3) ∧ (¬ r3 = 0 → wp_X8_within x5 0 5 (fun r4 σ4 => ((r4 = 0 → wp_X8_odds_58 x1 x2 x3 x4 x5 x6 post  σ4) ∧ (¬ r4 = 0 → wp_X8_within x6 0 1 (fun r5 σ5 => ((r5 = 0 → wp_X8_odds_58 x1 x2 x3 x4 x5 x6 post  σ5) ∧ (¬ r5 = 0 → wp_X8_odds_59 x1 x2 x3 x4 x5 x6 post 1 σ5))) σ4))) σ3))) σ2))) σ1))) σ
set_option maxHeartbeats 4000000 in
set_option maxRecDepth 100000 in
theorem wk_X8_odds_0 {p : Program} {l : Launch} {e : Env} {s : State} {m : MethodId} {below : List Frame} {meth : Method} {c : Code} {D : va_G} {q : ClassId × ClassId × ClassId × ClassId} {ad : Nat → Nat → Nat} {t : Nat × Nat} {aK aV : Nat → Nat} {args : Array Value} (S : CallFix p m c cX8_odds 9 s args GW "OnChin") (V : EvC D q ad t aK aV s) (hr : meth.sig.returnType = (some .int)) (hlocks : meth.locks = false) (x1 : Int32) (x2 : Int32) (x3 : Int32) (x4 : Int32) (x5 : Int32) (x6 : Int32) (post : Int32 → St → Prop)  : ∀ (σ : St) (H : Heap) (locs : List Loc) (ls : Array Slot), wp_X8_odds x1 x2 x3 x4 x5 x6 post  σ → wo D clA LC ad s.heap H locs (EC q ad σ) → lv_has ls 9 [(0, .ref (ad 0 0)), (1, .int x1), (2, .int x2), (3, .int x3), (4, .int x4), (5, .int x5), (6, .int x6)] → W p l e { frames := 5, cells := 0, slots := 0, locals := 124 } s m args below meth c H locs 0 0 (MQ below (zQi D clA LC ad (EC q ad) post) args s 0 0 (zA LC ad)) (F0 m 0 ls []) := by
  have hx := S.1
  have hb := S.2.1
  intro  σ H locs ls h  hw hl
  have h : wp_X8_within x2 (-999) 999 (fun r1 σ1 => ((r1 = 0 → wp_X8_odds_58 x1 x2 x3 x4 x5 x6 post  σ1) ∧ (¬ r1 = 0 → wp_X8_within x3 0 6 (fun r2 σ2 => ((r2 = 0 → wp_X8_odds_58 x1 x2 x3 x4 x5 x6 post  σ2) ∧ (¬ r2 = 0 → wp_X8_within x4 0 99 (fun r3 σ3 => ((r3 = 0 → wp_X8_odds_58 x1 x2 x3 x4 x5 x6 post  σ3) ∧ (¬ r3 = 0 → wp_X8_within x5 0 5 (fun r4 σ4 => ((r4 = 0 → wp_X8_odds_58 x1 x2 x3 x4 x5 x6 post  σ4) ∧ (¬ r4 = 0 → wp_X8_within x6 0 1 (fun r5 σ5 => ((r5 = 0 → wp_X8_odds_58 x1 x2 x3 x4 x5 x6 post  σ5) ∧ (¬ r5 = 0 → wp_X8_odds_59 x1 x2 x3 x4 x5 x6 post 1 σ5))) σ4))) σ3))) σ2))) σ1))) σ := h
  refine lv_iload_n hx hb dX8_odds_0 rfl (lv_at hl 2 rfl) ?_
  refine lv_sipush (v := (-999)) hx hb dX8_odds_1 (by decide) ?_
  refine lv_sipush (v := 999) hx hb dX8_odds_4 (by decide) ?_
  refine call_Si (As := [.int x2, .int (-999), .int 999]) (rest := []) EvC_ok S V hw (mt_X8_within l D q ad t aK aV x2 (-999) 999  σ _ h) ok_X8_within ml_X8_62 ⟨(Nat.le_of_ble_eq_true rfl), (Nat.le_of_ble_eq_true rfl)⟩ ⟨rfl, rfl⟩ rfl hl.1 rfl (Nat.le_of_ble_eq_true rfl) dX8_odds_7 (fun r1 σ1 H locs h hw => ?_)
  refine lv_if_eq (tgt := 58) hx hb dX8_odds_10 (by decide) (fun hc => ?_) (fun hc => ?_)
  · have h := h.1 hc
    exact wk_X8_odds_58 S V hr hlocks x1 x2 x3 x4 x5 x6   post   _ _ _ _ h  hw (lv_sub hl [0, 1, 2, 3, 4, 5, 6] rfl)
  · have h := h.2 hc
    refine lv_iload_n hx hb dX8_odds_13 rfl (lv_at hl 3 rfl) ?_
    refine lv_iconst (v := 0) hx hb dX8_odds_14 (by decide) ?_
    refine lv_bipush (v := 6) hx hb dX8_odds_15 (by decide) ?_
    refine call_Si (As := [.int x3, .int 0, .int 6]) (rest := []) EvC_ok S V hw (mt_X8_within l D q ad t aK aV x3 0 6  σ1 _ h) ok_X8_within ml_X8_62 ⟨(Nat.le_of_ble_eq_true rfl), (Nat.le_of_ble_eq_true rfl)⟩ ⟨rfl, rfl⟩ rfl hl.1 rfl (Nat.le_of_ble_eq_true rfl) dX8_odds_17 (fun r2 σ2 H locs h hw => ?_)
    refine lv_if_eq (tgt := 58) hx hb dX8_odds_20 (by decide) (fun hc => ?_) (fun hc => ?_)
    · have h := h.1 hc
      exact wk_X8_odds_58 S V hr hlocks x1 x2 x3 x4 x5 x6   post   _ _ _ _ h  hw (lv_sub hl [0, 1, 2, 3, 4, 5, 6] rfl)
    · have h := h.2 hc
      refine lv_iload hx hb dX8_odds_23 (lv_at hl 4 rfl) ?_
      refine lv_iconst (v := 0) hx hb dX8_odds_25 (by decide) ?_
      refine lv_bipush (v := 99) hx hb dX8_odds_26 (by decide) ?_
      refine call_Si (As := [.int x4, .int 0, .int 99]) (rest := []) EvC_ok S V hw (mt_X8_within l D q ad t aK aV x4 0 99  σ2 _ h) ok_X8_within ml_X8_62 ⟨(Nat.le_of_ble_eq_true rfl), (Nat.le_of_ble_eq_true rfl)⟩ ⟨rfl, rfl⟩ rfl hl.1 rfl (Nat.le_of_ble_eq_true rfl) dX8_odds_28 (fun r3 σ3 H locs h hw => ?_)
      refine lv_if_eq (tgt := 58) hx hb dX8_odds_31 (by decide) (fun hc => ?_) (fun hc => ?_)
      · have h := h.1 hc
        exact wk_X8_odds_58 S V hr hlocks x1 x2 x3 x4 x5 x6   post   _ _ _ _ h  hw (lv_sub hl [0, 1, 2, 3, 4, 5, 6] rfl)
      · have h := h.2 hc
        refine lv_iload hx hb dX8_odds_34 (lv_at hl 5 rfl) ?_
        refine lv_iconst (v := 0) hx hb dX8_odds_36 (by decide) ?_
        refine lv_iconst (v := 5) hx hb dX8_odds_37 (by decide) ?_
        refine call_Si (As := [.int x5, .int 0, .int 5]) (rest := []) EvC_ok S V hw (mt_X8_within l D q ad t aK aV x5 0 5  σ3 _ h) ok_X8_within ml_X8_62 ⟨(Nat.le_of_ble_eq_true rfl), (Nat.le_of_ble_eq_true rfl)⟩ ⟨rfl, rfl⟩ rfl hl.1 rfl (Nat.le_of_ble_eq_true rfl) dX8_odds_38 (fun r4 σ4 H locs h hw => ?_)
        refine lv_if_eq (tgt := 58) hx hb dX8_odds_41 (by decide) (fun hc => ?_) (fun hc => ?_)
        · have h := h.1 hc
          exact wk_X8_odds_58 S V hr hlocks x1 x2 x3 x4 x5 x6   post   _ _ _ _ h  hw (lv_sub hl [0, 1, 2, 3, 4, 5, 6] rfl)
        · have h := h.2 hc
          refine lv_iload hx hb dX8_odds_44 (lv_at hl 6 rfl) ?_
          refine lv_iconst (v := 0) hx hb dX8_odds_46 (by decide) ?_
          refine lv_iconst (v := 1) hx hb dX8_odds_47 (by decide) ?_
          refine call_Si (As := [.int x6, .int 0, .int 1]) (rest := []) EvC_ok S V hw (mt_X8_within l D q ad t aK aV x6 0 1  σ4 _ h) ok_X8_within ml_X8_62 ⟨(Nat.le_of_ble_eq_true rfl), (Nat.le_of_ble_eq_true rfl)⟩ ⟨rfl, rfl⟩ rfl hl.1 rfl (Nat.le_of_ble_eq_true rfl) dX8_odds_48 (fun r5 σ5 H locs h hw => ?_)
          refine lv_if_eq (tgt := 58) hx hb dX8_odds_51 (by decide) (fun hc => ?_) (fun hc => ?_)
          · have h := h.1 hc
            exact wk_X8_odds_58 S V hr hlocks x1 x2 x3 x4 x5 x6   post   _ _ _ _ h  hw (lv_sub hl [0, 1, 2, 3, 4, 5, 6] rfl)
          · have h := h.2 hc
            refine lv_iconst (v := 1) hx hb dX8_odds_54 (by decide) ?_
            refine lv_goto (tgt := 59) hx hb dX8_odds_55 (by decide) ?_
            exact wk_X8_odds_59 S V hr hlocks x1 x2 x3 x4 x5 x6   post  1 _ _ _ _ h  hw (lv_sub hl [0, 1, 2, 3, 4, 5, 6] rfl)
theorem mt_X8_odds (l : Launch) (D : va_G) (q : ClassId × ClassId × ClassId × ClassId) (ad : Nat → Nat → Nat) (t : Nat × Nat) (aK aV : Nat → Nat) (x1 : Int32) (x2 : Int32) (x3 : Int32) (x4 : Int32) (x5 : Int32) (x6 : Int32) (σ : St) (post : Int32 → St → Prop) (h : wp_X8_odds x1 x2 x3 x4 x5 x6 post σ) : cI l D clA LC ad (EC q ad) (EvC D q ad t aK aV) yX8_odds cX8_odds 9 (some .int) { frames := 5, cells := 0, slots := 0, locals := 124 } [.ref (ad 0 0), .int x1, .int x2, .int x3, .int x4, .int x5, .int x6] σ post :=
  ent_i (by decide) (Nat.le_of_ble_eq_true rfl) (fun p e s m below meth c S V hr hlocks hw ls hl => wk_X8_odds_0 S V hr hlocks x1 x2 x3 x4 x5 x6  post   σ _ _ ls h  hw (lv_sub hl [0, 1, 2, 3, 4, 5, 6] rfl))
def wp_X8_stands (x1 : Int32) (x2 : Int32) (post : Int32 → St → Prop)  (σ : St) : Prop := wp_X8_within x2 (-999) 999 (fun r1 σ1 => wp_X8_refusal x1 r1 (fun r2 σ2 => ((r2 = 0 → wp_X4_takeRule 0 (fun σ3 => (vp_in x1 4 ∧ wp_X4_leastShake x1.toNatClampNeg x2 (fun r5 σ5 => post r5 σ5) σ3)) σ2) ∧ (¬ r2 = 0 → post r2 σ2))) σ1) σ
set_option maxHeartbeats 4000000 in
set_option maxRecDepth 100000 in
theorem wk_X8_stands_0 {p : Program} {l : Launch} {e : Env} {s : State} {m : MethodId} {below : List Frame} {meth : Method} {c : Code} {D : va_G} {q : ClassId × ClassId × ClassId × ClassId} {ad : Nat → Nat → Nat} {t : Nat × Nat} {aK aV : Nat → Nat} {args : Array Value} (S : CallFix p m c cX8_stands 4 s args GW "OnChin") (V : EvC D q ad t aK aV s) (hr : meth.sig.returnType = (some .int)) (hlocks : meth.locks = false) (x1 : Int32) (x2 : Int32) (post : Int32 → St → Prop)  : ∀ (σ : St) (H : Heap) (locs : List Loc) (ls : Array Slot), wp_X8_stands x1 x2 post  σ → wo D clA LC ad s.heap H locs (EC q ad σ) → lv_has ls 4 [(0, .ref (ad 0 0)), (1, .int x1), (2, .int x2)] → W p l e { frames := 6, cells := 0, slots := 0, locals := 138 } s m args below meth c H locs 0 0 (MQ below (zQi D clA LC ad (EC q ad) post) args s 0 0 (zA LC ad)) (F0 m 0 ls []) := by
  have hx := S.1
  have hb := S.2.1
  intro  σ H locs ls h  hw hl
  have h : wp_X8_within x2 (-999) 999 (fun r1 σ1 => wp_X8_refusal x1 r1 (fun r2 σ2 => ((r2 = 0 → wp_X4_takeRule 0 (fun σ3 => (vp_in x1 4 ∧ wp_X4_leastShake x1.toNatClampNeg x2 (fun r5 σ5 => post r5 σ5) σ3)) σ2) ∧ (¬ r2 = 0 → post r2 σ2))) σ1) σ := h
  refine lv_aload_n hx hb dX8_stands_0 rfl (lv_at hl 0 rfl) ?_
  refine lv_iload_n hx hb dX8_stands_1 rfl (lv_at hl 1 rfl) ?_
  refine lv_iload_n hx hb dX8_stands_2 rfl (lv_at hl 2 rfl) ?_
  refine lv_sipush (v := (-999)) hx hb dX8_stands_3 (by decide) ?_
  refine lv_sipush (v := 999) hx hb dX8_stands_6 (by decide) ?_
  refine call_Si (As := [.int x2, .int (-999), .int 999]) (rest := [.int x1, .ref (ad 0 0)]) EvC_ok S V hw (mt_X8_within l D q ad t aK aV x2 (-999) 999  σ _ h) ok_X8_within ml_X8_62 ⟨(Nat.le_of_ble_eq_true rfl), (Nat.le_of_ble_eq_true rfl)⟩ ⟨rfl, rfl⟩ rfl hl.1 rfl (Nat.le_of_ble_eq_true rfl) dX8_stands_9 (fun r1 σ1 H locs h hw => ?_)
  refine call_Vi (As := [.int x1, .int r1]) (rest := []) EvC_ok S V hw (mt_X8_refusal l D q ad t aK aV x1 r1  σ1 _ h) ok_X8_refusal ml_X8_119 (rC_0 S V hw (Nat.le_of_ble_eq_true rfl)) ⟨(Nat.le_of_ble_eq_true rfl), (Nat.le_of_ble_eq_true rfl)⟩ ⟨rfl, rfl⟩ rfl hl.1 rfl (Nat.le_of_ble_eq_true rfl) dX8_stands_12 (fun r2 σ2 H locs h hw => ?_)
  refine lv_istore_n (lv' := [(3, .int r2), (0, .ref (ad 0 0)), (1, .int x1), (2, .int x2)]) hx hb dX8_stands_15 rfl hl (by decide) rfl (fun ls hl => ?_)
  refine lv_iload_n hx hb dX8_stands_16 rfl (lv_at hl 0 rfl) ?_
  refine lv_if_eq (tgt := 22) hx hb dX8_stands_17 (by decide) (fun hc => ?_) (fun hc => ?_)
  · have h := h.1 hc
    refine lv_aload_n hx hb dX8_stands_22 rfl (lv_at hl 1 rfl) ?_
    refine gC_0_4 S V hw (Nat.le_of_ble_eq_true rfl) fl_X8_37 dX8_stands_23 ?_
    refine lv_aload_n hx hb dX8_stands_26 rfl (lv_at hl 1 rfl) ?_
    refine gC_0_0 S V hw (Nat.le_of_ble_eq_true rfl) fl_X8_12 dX8_stands_27 ?_
    refine gC_1_1 S V hw (Nat.le_of_ble_eq_true rfl) fl_X8_130 dX8_stands_30 ?_
    refine call_Vv (As := [.ref (ad 6 0)]) (rest := []) EvC_ok S V hw (mt_X4_takeRule l D q ad t aK aV 0 (Nat.le_of_ble_eq_true rfl) σ2 _ h) ok_X4_takeRule ml_X8_164 (rC_16 S V hw (Nat.le_of_ble_eq_true rfl)) ⟨(Nat.le_of_ble_eq_true rfl), (Nat.le_of_ble_eq_true rfl)⟩ ⟨rfl, rfl⟩ rfl hl.1 rfl (Nat.le_of_ble_eq_true rfl) dX8_stands_33 (fun σ3 H locs h hw => ?_)
    refine lv_aload_n hx hb dX8_stands_36 rfl (lv_at hl 1 rfl) ?_
    refine gC_0_4 S V hw (Nat.le_of_ble_eq_true rfl) fl_X8_37 dX8_stands_37 ?_
    refine lv_aload_n hx hb dX8_stands_40 rfl (lv_at hl 1 rfl) ?_
    refine gC_0_0 S V hw (Nat.le_of_ble_eq_true rfl) fl_X8_12 dX8_stands_41 ?_
    refine gC_1_0 S V hw (Nat.le_of_ble_eq_true rfl) fl_X8_91 dX8_stands_44 ?_
    refine lv_iload_n hx hb dX8_stands_47 rfl (lv_at hl 2 rfl) ?_
    have hv4 := h.1
    have h := h.2
    refine aC_5 S V hw (Nat.le_of_ble_eq_true rfl) hv4 dX8_stands_48 ?_
    refine lv_iload_n hx hb dX8_stands_49 rfl (lv_at hl 3 rfl) ?_
    refine call_Vi (As := [.ref (ad 2 x1.toNatClampNeg), .int x2]) (rest := []) EvC_ok S V hw (mt_X4_leastShake l D q ad t aK aV x1.toNatClampNeg x2 (vin_lt hv4 (Nat.le_of_ble_eq_true rfl)) σ3 _ h) ok_X4_leastShake ml_X8_192 (rC_16 S V hw (Nat.le_of_ble_eq_true rfl)) ⟨(Nat.le_of_ble_eq_true rfl), (Nat.le_of_ble_eq_true rfl)⟩ ⟨rfl, rfl⟩ rfl hl.1 rfl (Nat.le_of_ble_eq_true rfl) dX8_stands_50 (fun r5 σ5 H locs h hw => ?_)
    exact ret_i S hr hlocks hw h dX8_stands_53
  · have h := h.2 hc
    refine lv_iload_n hx hb dX8_stands_20 rfl (lv_at hl 0 rfl) ?_
    exact ret_i S hr hlocks hw h dX8_stands_21
theorem mt_X8_stands (l : Launch) (D : va_G) (q : ClassId × ClassId × ClassId × ClassId) (ad : Nat → Nat → Nat) (t : Nat × Nat) (aK aV : Nat → Nat) (x1 : Int32) (x2 : Int32) (σ : St) (post : Int32 → St → Prop) (h : wp_X8_stands x1 x2 post σ) : cI l D clA LC ad (EC q ad) (EvC D q ad t aK aV) yX8_stands cX8_stands 4 (some .int) { frames := 6, cells := 0, slots := 0, locals := 138 } [.ref (ad 0 0), .int x1, .int x2] σ post :=
  ent_i (by decide) (Nat.le_of_ble_eq_true rfl) (fun p e s m below meth c S V hr hlocks hw ls hl => wk_X8_stands_0 S V hr hlocks x1 x2  post   σ _ _ ls h  hw (lv_sub hl [0, 1, 2] rfl))
def wp_X8_two_14 (x1 : Int32) (x2 : Int32) (x3 : Int32) (x4 : Int32) (x5 : Int32) (x6 : Int32) (post : Int32 → St → Prop)  (σ : St) : Prop := post (-2) σ
set_option maxHeartbeats 4000000 in
set_option maxRecDepth 100000 in
theorem wk_X8_two_14 {p : Program} {l : Launch} {e : Env} {s : State} {m : MethodId} {below : List Frame} {meth : Method} {c : Code} {D : va_G} {q : ClassId × ClassId × ClassId × ClassId} {ad : Nat → Nat → Nat} {t : Nat × Nat} {aK aV : Nat → Nat} {args : Array Value} (S : CallFix p m c cX8_two 7 s args GW "OnChin") (V : EvC D q ad t aK aV s) (hr : meth.sig.returnType = (some .int)) (hlocks : meth.locks = false) (x1 : Int32) (x2 : Int32) (x3 : Int32) (x4 : Int32) (x5 : Int32) (x6 : Int32) (post : Int32 → St → Prop)  : ∀ (σ : St) (H : Heap) (locs : List Loc) (ls : Array Slot), wp_X8_two_14 x1 x2 x3 x4 x5 x6 post  σ → wo D clA LC ad s.heap H locs (EC q ad σ) → lv_has ls 7 [(0, .ref (ad 0 0)), (1, .int x1), (2, .int x2), (3, .int x3), (4, .int x4), (5, .int x5), (6, .int x6)] → W p l e { frames := 5, cells := 0, slots := 0, locals := 119 } s m args below meth c H locs 0 0 (MQ below (zQi D clA LC ad (EC q ad) post) args s 0 0 (zA LC ad)) (F0 m 14 ls []) := by
  have hx := S.1
  have hb := S.2.1
  intro  σ H locs ls h  hw hl
  refine lv_bipush (v := (-2)) hx hb dX8_two_14 (by decide) ?_
  exact ret_i S hr hlocks hw h dX8_two_16
def wp_X8_two_66 (x1 : Int32) (x2 : Int32) (x3 : Int32) (x4 : Int32) (x5 : Int32) (x6 : Int32) (post : Int32 → St → Prop)  (σ : St) : Prop := post (-3) σ
set_option maxHeartbeats 4000000 in
set_option maxRecDepth 100000 in
theorem wk_X8_two_66 {p : Program} {l : Launch} {e : Env} {s : State} {m : MethodId} {below : List Frame} {meth : Method} {c : Code} {D : va_G} {q : ClassId × ClassId × ClassId × ClassId} {ad : Nat → Nat → Nat} {t : Nat × Nat} {aK aV : Nat → Nat} {args : Array Value} (S : CallFix p m c cX8_two 7 s args GW "OnChin") (V : EvC D q ad t aK aV s) (hr : meth.sig.returnType = (some .int)) (hlocks : meth.locks = false) (x1 : Int32) (x2 : Int32) (x3 : Int32) (x4 : Int32) (x5 : Int32) (x6 : Int32) (post : Int32 → St → Prop)  : ∀ (σ : St) (H : Heap) (locs : List Loc) (ls : Array Slot), wp_X8_two_66 x1 x2 x3 x4 x5 x6 post  σ → wo D clA LC ad s.heap H locs (EC q ad σ) → lv_has ls 7 [(0, .ref (ad 0 0)), (1, .int x1), (2, .int x2), (3, .int x3), (4, .int x4), (5, .int x5), (6, .int x6)] → W p l e { frames := 5, cells := 0, slots := 0, locals := 119 } s m args below meth c H locs 0 0 (MQ below (zQi D clA LC ad (EC q ad) post) args s 0 0 (zA LC ad)) (F0 m 66 ls []) := by
  have hx := S.1
  have hb := S.2.1
  intro  σ H locs ls h  hw hl
  refine lv_bipush (v := (-3)) hx hb dX8_two_66 (by decide) ?_
  exact ret_i S hr hlocks hw h dX8_two_68
def wp_X8_two_85 (x1 : Int32) (x2 : Int32) (x3 : Int32) (x4 : Int32) (x5 : Int32) (x6 : Int32) (post : Int32 → St → Prop)  (σ : St) : Prop := post (-4) σ
set_option maxHeartbeats 4000000 in
set_option maxRecDepth 100000 in
theorem wk_X8_two_85 {p : Program} {l : Launch} {e : Env} {s : State} {m : MethodId} {below : List Frame} {meth : Method} {c : Code} {D : va_G} {q : ClassId × ClassId × ClassId × ClassId} {ad : Nat → Nat → Nat} {t : Nat × Nat} {aK aV : Nat → Nat} {args : Array Value} (S : CallFix p m c cX8_two 7 s args GW "OnChin") (V : EvC D q ad t aK aV s) (hr : meth.sig.returnType = (some .int)) (hlocks : meth.locks = false) (x1 : Int32) (x2 : Int32) (x3 : Int32) (x4 : Int32) (x5 : Int32) (x6 : Int32) (post : Int32 → St → Prop)  : ∀ (σ : St) (H : Heap) (locs : List Loc) (ls : Array Slot), wp_X8_two_85 x1 x2 x3 x4 x5 x6 post  σ → wo D clA LC ad s.heap H locs (EC q ad σ) → lv_has ls 7 [(0, .ref (ad 0 0)), (1, .int x1), (2, .int x2), (3, .int x3), (4, .int x4), (5, .int x5), (6, .int x6)] → W p l e { frames := 5, cells := 0, slots := 0, locals := 119 } s m args below meth c H locs 0 0 (MQ below (zQi D clA LC ad (EC q ad) post) args s 0 0 (zA LC ad)) (F0 m 85 ls []) := by
  have hx := S.1
  have hb := S.2.1
  intro  σ H locs ls h  hw hl
  refine lv_bipush (v := (-4)) hx hb dX8_two_85 (by decide) ?_
  exact ret_i S hr hlocks hw h dX8_two_87
def wp_X8_two (x1 : Int32) (x2 : Int32) (x3 : Int32) (x4 : Int32) (x5 : Int32) (x6 : Int32) (post : Int32 → St → Prop)  (σ : St) : Prop := wp_X8_isThing x1 (fun r1 σ1 => ((r1 = 0 → wp_X8_two_14 x1 x2 x3 x4 x5 x6 post  σ1) ∧ (¬ r1 = 0 → wp_X8_isThing x3 (fun r2 σ2 => ((¬ r2 = 0 → wp_X8_within x2 (-999) 999 (fun r3 σ3 => ((r3 = 0 → wp_X8_two_66 x1 x2 x3 x4 x5 x6 post  σ3) ∧ (¬ r3 = 0 → wp_X8_within x4 (-999) 999 (fun r4 σ4 => ((r4 = 0 → wp_X8_two_66 x1 x2 x3 x4 x5 x6 post  σ4) ∧ (¬ r4 = 0 → wp_X8_within x5 1 9 (fun r5 σ5 => ((r5 = 0 → wp_X8_two_66 x1 x2 x3 x4 x5 x6 post  σ5) ∧ (¬ r5 = 0 → wp_X8_within x6 1 9 (fun r6 σ6 => ((¬ r6 = 0 → wp_X8_hasLumps x1 (fun r7 σ7 => ((r7 = 0 → wp_X8_two_85 x1 x2 x3 x4 x5 x6 post  σ7) ∧ (¬ r7 = 0 → wp_X8_hasLumps x3 (fun r8 σ8 => ((¬ r8 = 0 → wp_X4_takeRule 0 (fun σ9 => wp_X0_start 3 x1 x2 0 (fun σ10 => wp_X0_start 4 x3 x4 0 (fun σ11 => (vp_in x1 4 ∧ (vp_in x3 4 ∧ wp_X4_bothLast x1.toNatClampNeg x3.toNatClampNeg x5 x6 (fun r14 σ14 => post r14 σ14) σ11))) σ10) σ9) σ8) ∧ (r8 = 0 → wp_X8_two_85 x1 x2 x3 x4 x5 x6 post  σ8))) σ7))) σ6) ∧ (r6 = 0 → wp_X8_two_66 x1 x2 x3 x4 x5 x6 post  σ6))) σ5))) σ4))) σ3))) σ2) ∧ (r2 = 0 → wp_X8_two_14 x1 x2 x3 x4 x5 x6 post  σ2))) σ1))) σ
set_option maxHeartbeats 4000000 in
set_option maxRecDepth 100000 in
theorem wk_X8_two_0 {p : Program} {l : Launch} {e : Env} {s : State} {m : MethodId} {below : List Frame} {meth : Method} {c : Code} {D : va_G} {q : ClassId × ClassId × ClassId × ClassId} {ad : Nat → Nat → Nat} {t : Nat × Nat} {aK aV : Nat → Nat} {args : Array Value} (S : CallFix p m c cX8_two 7 s args GW "OnChin") (V : EvC D q ad t aK aV s) (hr : meth.sig.returnType = (some .int)) (hlocks : meth.locks = false) (x1 : Int32) (x2 : Int32) (x3 : Int32) (x4 : Int32) (x5 : Int32) (x6 : Int32) (post : Int32 → St → Prop)  : ∀ (σ : St) (H : Heap) (locs : List Loc) (ls : Array Slot), wp_X8_two x1 x2 x3 x4 x5 x6 post  σ → wo D clA LC ad s.heap H locs (EC q ad σ) → lv_has ls 7 [(0, .ref (ad 0 0)), (1, .int x1), (2, .int x2), (3, .int x3), (4, .int x4), (5, .int x5), (6, .int x6)] → W p l e { frames := 5, cells := 0, slots := 0, locals := 119 } s m args below meth c H locs 0 0 (MQ below (zQi D clA LC ad (EC q ad) post) args s 0 0 (zA LC ad)) (F0 m 0 ls []) := by
  have hx := S.1
  have hb := S.2.1
  intro  σ H locs ls h  hw hl
  have h : wp_X8_isThing x1 (fun r1 σ1 => ((r1 = 0 → wp_X8_two_14 x1 x2 x3 x4 x5 x6 post  σ1) ∧ (¬ r1 = 0 → wp_X8_isThing x3 (fun r2 σ2 => ((¬ r2 = 0 → wp_X8_within x2 (-999) 999 (fun r3 σ3 => ((r3 = 0 → wp_X8_two_66 x1 x2 x3 x4 x5 x6 post  σ3) ∧ (¬ r3 = 0 → wp_X8_within x4 (-999) 999 (fun r4 σ4 => ((r4 = 0 → wp_X8_two_66 x1 x2 x3 x4 x5 x6 post  σ4) ∧ (¬ r4 = 0 → wp_X8_within x5 1 9 (fun r5 σ5 => ((r5 = 0 → wp_X8_two_66 x1 x2 x3 x4 x5 x6 post  σ5) ∧ (¬ r5 = 0 → wp_X8_within x6 1 9 (fun r6 σ6 => ((¬ r6 = 0 → wp_X8_hasLumps x1 (fun r7 σ7 => ((r7 = 0 → wp_X8_two_85 x1 x2 x3 x4 x5 x6 post  σ7) ∧ (¬ r7 = 0 → wp_X8_hasLumps x3 (fun r8 σ8 => ((¬ r8 = 0 → wp_X4_takeRule 0 (fun σ9 => wp_X0_start 3 x1 x2 0 (fun σ10 => wp_X0_start 4 x3 x4 0 (fun σ11 => (vp_in x1 4 ∧ (vp_in x3 4 ∧ wp_X4_bothLast x1.toNatClampNeg x3.toNatClampNeg x5 x6 (fun r14 σ14 => post r14 σ14) σ11))) σ10) σ9) σ8) ∧ (r8 = 0 → wp_X8_two_85 x1 x2 x3 x4 x5 x6 post  σ8))) σ7))) σ6) ∧ (r6 = 0 → wp_X8_two_66 x1 x2 x3 x4 x5 x6 post  σ6))) σ5))) σ4))) σ3))) σ2) ∧ (r2 = 0 → wp_X8_two_14 x1 x2 x3 x4 x5 x6 post  σ2))) σ1))) σ := h
  refine lv_iload_n hx hb dX8_two_0 rfl (lv_at hl 1 rfl) ?_
  refine call_Si (As := [.int x1]) (rest := []) EvC_ok S V hw (mt_X8_isThing l D q ad t aK aV x1  σ _ h) ok_X8_isThing ml_X8_87 ⟨(Nat.le_of_ble_eq_true rfl), (Nat.le_of_ble_eq_true rfl)⟩ ⟨rfl, rfl⟩ rfl hl.1 rfl (Nat.le_of_ble_eq_true rfl) dX8_two_1 (fun r1 σ1 H locs h hw => ?_)
  refine lv_if_eq (tgt := 14) hx hb dX8_two_4 (by decide) (fun hc => ?_) (fun hc => ?_)
  · have h := h.1 hc
    exact wk_X8_two_14 S V hr hlocks x1 x2 x3 x4 x5 x6   post   _ _ _ _ h  hw (lv_sub hl [0, 1, 2, 3, 4, 5, 6] rfl)
  · have h := h.2 hc
    refine lv_iload_n hx hb dX8_two_7 rfl (lv_at hl 3 rfl) ?_
    refine call_Si (As := [.int x3]) (rest := []) EvC_ok S V hw (mt_X8_isThing l D q ad t aK aV x3  σ1 _ h) ok_X8_isThing ml_X8_87 ⟨(Nat.le_of_ble_eq_true rfl), (Nat.le_of_ble_eq_true rfl)⟩ ⟨rfl, rfl⟩ rfl hl.1 rfl (Nat.le_of_ble_eq_true rfl) dX8_two_8 (fun r2 σ2 H locs h hw => ?_)
    refine lv_if_ne (tgt := 17) hx hb dX8_two_11 (by decide) (fun hc => ?_) (fun hc => ?_)
    · have h := h.1 hc
      refine lv_iload_n hx hb dX8_two_17 rfl (lv_at hl 2 rfl) ?_
      refine lv_sipush (v := (-999)) hx hb dX8_two_18 (by decide) ?_
      refine lv_sipush (v := 999) hx hb dX8_two_21 (by decide) ?_
      refine call_Si (As := [.int x2, .int (-999), .int 999]) (rest := []) EvC_ok S V hw (mt_X8_within l D q ad t aK aV x2 (-999) 999  σ2 _ h) ok_X8_within ml_X8_62 ⟨(Nat.le_of_ble_eq_true rfl), (Nat.le_of_ble_eq_true rfl)⟩ ⟨rfl, rfl⟩ rfl hl.1 rfl (Nat.le_of_ble_eq_true rfl) dX8_two_24 (fun r3 σ3 H locs h hw => ?_)
      refine lv_if_eq (tgt := 66) hx hb dX8_two_27 (by decide) (fun hc => ?_) (fun hc => ?_)
      · have h := h.1 hc
        exact wk_X8_two_66 S V hr hlocks x1 x2 x3 x4 x5 x6   post   _ _ _ _ h  hw (lv_sub hl [0, 1, 2, 3, 4, 5, 6] rfl)
      · have h := h.2 hc
        refine lv_iload hx hb dX8_two_30 (lv_at hl 4 rfl) ?_
        refine lv_sipush (v := (-999)) hx hb dX8_two_32 (by decide) ?_
        refine lv_sipush (v := 999) hx hb dX8_two_35 (by decide) ?_
        refine call_Si (As := [.int x4, .int (-999), .int 999]) (rest := []) EvC_ok S V hw (mt_X8_within l D q ad t aK aV x4 (-999) 999  σ3 _ h) ok_X8_within ml_X8_62 ⟨(Nat.le_of_ble_eq_true rfl), (Nat.le_of_ble_eq_true rfl)⟩ ⟨rfl, rfl⟩ rfl hl.1 rfl (Nat.le_of_ble_eq_true rfl) dX8_two_38 (fun r4 σ4 H locs h hw => ?_)
        refine lv_if_eq (tgt := 66) hx hb dX8_two_41 (by decide) (fun hc => ?_) (fun hc => ?_)
        · have h := h.1 hc
          exact wk_X8_two_66 S V hr hlocks x1 x2 x3 x4 x5 x6   post   _ _ _ _ h  hw (lv_sub hl [0, 1, 2, 3, 4, 5, 6] rfl)
        · have h := h.2 hc
          refine lv_iload hx hb dX8_two_44 (lv_at hl 5 rfl) ?_
          refine lv_iconst (v := 1) hx hb dX8_two_46 (by decide) ?_
          refine lv_bipush (v := 9) hx hb dX8_two_47 (by decide) ?_
          refine call_Si (As := [.int x5, .int 1, .int 9]) (rest := []) EvC_ok S V hw (mt_X8_within l D q ad t aK aV x5 1 9  σ4 _ h) ok_X8_within ml_X8_62 ⟨(Nat.le_of_ble_eq_true rfl), (Nat.le_of_ble_eq_true rfl)⟩ ⟨rfl, rfl⟩ rfl hl.1 rfl (Nat.le_of_ble_eq_true rfl) dX8_two_49 (fun r5 σ5 H locs h hw => ?_)
          refine lv_if_eq (tgt := 66) hx hb dX8_two_52 (by decide) (fun hc => ?_) (fun hc => ?_)
          · have h := h.1 hc
            exact wk_X8_two_66 S V hr hlocks x1 x2 x3 x4 x5 x6   post   _ _ _ _ h  hw (lv_sub hl [0, 1, 2, 3, 4, 5, 6] rfl)
          · have h := h.2 hc
            refine lv_iload hx hb dX8_two_55 (lv_at hl 6 rfl) ?_
            refine lv_iconst (v := 1) hx hb dX8_two_57 (by decide) ?_
            refine lv_bipush (v := 9) hx hb dX8_two_58 (by decide) ?_
            refine call_Si (As := [.int x6, .int 1, .int 9]) (rest := []) EvC_ok S V hw (mt_X8_within l D q ad t aK aV x6 1 9  σ5 _ h) ok_X8_within ml_X8_62 ⟨(Nat.le_of_ble_eq_true rfl), (Nat.le_of_ble_eq_true rfl)⟩ ⟨rfl, rfl⟩ rfl hl.1 rfl (Nat.le_of_ble_eq_true rfl) dX8_two_60 (fun r6 σ6 H locs h hw => ?_)
            refine lv_if_ne (tgt := 69) hx hb dX8_two_63 (by decide) (fun hc => ?_) (fun hc => ?_)
            · have h := h.1 hc
              refine lv_aload_n hx hb dX8_two_69 rfl (lv_at hl 0 rfl) ?_
              refine lv_iload_n hx hb dX8_two_70 rfl (lv_at hl 1 rfl) ?_
              refine call_Vi (As := [.int x1]) (rest := []) EvC_ok S V hw (mt_X8_hasLumps l D q ad t aK aV x1  σ6 _ h) ok_X8_hasLumps ml_X8_137 (rC_0 S V hw (Nat.le_of_ble_eq_true rfl)) ⟨(Nat.le_of_ble_eq_true rfl), (Nat.le_of_ble_eq_true rfl)⟩ ⟨rfl, rfl⟩ rfl hl.1 rfl (Nat.le_of_ble_eq_true rfl) dX8_two_71 (fun r7 σ7 H locs h hw => ?_)
              refine lv_if_eq (tgt := 85) hx hb dX8_two_74 (by decide) (fun hc => ?_) (fun hc => ?_)
              · have h := h.1 hc
                exact wk_X8_two_85 S V hr hlocks x1 x2 x3 x4 x5 x6   post   _ _ _ _ h  hw (lv_sub hl [0, 1, 2, 3, 4, 5, 6] rfl)
              · have h := h.2 hc
                refine lv_aload_n hx hb dX8_two_77 rfl (lv_at hl 0 rfl) ?_
                refine lv_iload_n hx hb dX8_two_78 rfl (lv_at hl 3 rfl) ?_
                refine call_Vi (As := [.int x3]) (rest := []) EvC_ok S V hw (mt_X8_hasLumps l D q ad t aK aV x3  σ7 _ h) ok_X8_hasLumps ml_X8_137 (rC_0 S V hw (Nat.le_of_ble_eq_true rfl)) ⟨(Nat.le_of_ble_eq_true rfl), (Nat.le_of_ble_eq_true rfl)⟩ ⟨rfl, rfl⟩ rfl hl.1 rfl (Nat.le_of_ble_eq_true rfl) dX8_two_79 (fun r8 σ8 H locs h hw => ?_)
                refine lv_if_ne (tgt := 88) hx hb dX8_two_82 (by decide) (fun hc => ?_) (fun hc => ?_)
                · have h := h.1 hc
                  refine lv_aload_n hx hb dX8_two_88 rfl (lv_at hl 0 rfl) ?_
                  refine gC_0_4 S V hw (Nat.le_of_ble_eq_true rfl) fl_X8_37 dX8_two_89 ?_
                  refine lv_aload_n hx hb dX8_two_92 rfl (lv_at hl 0 rfl) ?_
                  refine gC_0_0 S V hw (Nat.le_of_ble_eq_true rfl) fl_X8_12 dX8_two_93 ?_
                  refine gC_1_1 S V hw (Nat.le_of_ble_eq_true rfl) fl_X8_130 dX8_two_96 ?_
                  refine call_Vv (As := [.ref (ad 6 0)]) (rest := []) EvC_ok S V hw (mt_X4_takeRule l D q ad t aK aV 0 (Nat.le_of_ble_eq_true rfl) σ8 _ h) ok_X4_takeRule ml_X8_164 (rC_16 S V hw (Nat.le_of_ble_eq_true rfl)) ⟨(Nat.le_of_ble_eq_true rfl), (Nat.le_of_ble_eq_true rfl)⟩ ⟨rfl, rfl⟩ rfl hl.1 rfl (Nat.le_of_ble_eq_true rfl) dX8_two_99 (fun σ9 H locs h hw => ?_)
                  refine lv_aload_n hx hb dX8_two_102 rfl (lv_at hl 0 rfl) ?_
                  refine gC_0_4 S V hw (Nat.le_of_ble_eq_true rfl) fl_X8_37 dX8_two_103 ?_
                  refine gC_16_1 S V hw (Nat.le_of_ble_eq_true rfl) fl_X8_195 dX8_two_106 ?_
                  refine lv_iload_n hx hb dX8_two_109 rfl (lv_at hl 1 rfl) ?_
                  refine lv_iload_n hx hb dX8_two_110 rfl (lv_at hl 2 rfl) ?_
                  refine lv_iconst (v := 0) hx hb dX8_two_111 (by decide) ?_
                  refine call_Vv (As := [.int x1, .int x2, .int 0]) (rest := []) EvC_ok S V hw (mt_X0_start l D q ad t aK aV 3 x1 x2 0 (Nat.le_of_ble_eq_true rfl) σ9 _ h) ok_X0_start ml_X8_123 (rC_13 S V hw (Nat.le_of_ble_eq_true rfl)) ⟨(Nat.le_of_ble_eq_true rfl), (Nat.le_of_ble_eq_true rfl)⟩ ⟨rfl, rfl⟩ rfl hl.1 rfl (Nat.le_of_ble_eq_true rfl) dX8_two_112 (fun σ10 H locs h hw => ?_)
                  refine lv_aload_n hx hb dX8_two_115 rfl (lv_at hl 0 rfl) ?_
                  refine gC_0_4 S V hw (Nat.le_of_ble_eq_true rfl) fl_X8_37 dX8_two_116 ?_
                  refine gC_16_2 S V hw (Nat.le_of_ble_eq_true rfl) fl_X8_198 dX8_two_119 ?_
                  refine lv_iload_n hx hb dX8_two_122 rfl (lv_at hl 3 rfl) ?_
                  refine lv_iload hx hb dX8_two_123 (lv_at hl 4 rfl) ?_
                  refine lv_iconst (v := 0) hx hb dX8_two_125 (by decide) ?_
                  refine call_Vv (As := [.int x3, .int x4, .int 0]) (rest := []) EvC_ok S V hw (mt_X0_start l D q ad t aK aV 4 x3 x4 0 (Nat.le_of_ble_eq_true rfl) σ10 _ h) ok_X0_start ml_X8_123 (rC_13 S V hw (Nat.le_of_ble_eq_true rfl)) ⟨(Nat.le_of_ble_eq_true rfl), (Nat.le_of_ble_eq_true rfl)⟩ ⟨rfl, rfl⟩ rfl hl.1 rfl (Nat.le_of_ble_eq_true rfl) dX8_two_126 (fun σ11 H locs h hw => ?_)
                  refine lv_aload_n hx hb dX8_two_129 rfl (lv_at hl 0 rfl) ?_
                  refine gC_0_4 S V hw (Nat.le_of_ble_eq_true rfl) fl_X8_37 dX8_two_130 ?_
                  refine lv_aload_n hx hb dX8_two_133 rfl (lv_at hl 0 rfl) ?_
                  refine gC_0_0 S V hw (Nat.le_of_ble_eq_true rfl) fl_X8_12 dX8_two_134 ?_
                  refine gC_1_0 S V hw (Nat.le_of_ble_eq_true rfl) fl_X8_91 dX8_two_137 ?_
                  refine lv_iload_n hx hb dX8_two_140 rfl (lv_at hl 1 rfl) ?_
                  have hv12 := h.1
                  have h := h.2
                  refine aC_5 S V hw (Nat.le_of_ble_eq_true rfl) hv12 dX8_two_141 ?_
                  refine lv_aload_n hx hb dX8_two_142 rfl (lv_at hl 0 rfl) ?_
                  refine gC_0_0 S V hw (Nat.le_of_ble_eq_true rfl) fl_X8_12 dX8_two_143 ?_
                  refine gC_1_0 S V hw (Nat.le_of_ble_eq_true rfl) fl_X8_91 dX8_two_146 ?_
                  refine lv_iload_n hx hb dX8_two_149 rfl (lv_at hl 3 rfl) ?_
                  have hv13 := h.1
                  have h := h.2
                  refine aC_5 S V hw (Nat.le_of_ble_eq_true rfl) hv13 dX8_two_150 ?_
                  refine lv_iload hx hb dX8_two_151 (lv_at hl 5 rfl) ?_
                  refine lv_iload hx hb dX8_two_153 (lv_at hl 6 rfl) ?_
                  refine call_Vi (As := [.ref (ad 2 x1.toNatClampNeg), .ref (ad 2 x3.toNatClampNeg), .int x5, .int x6]) (rest := []) EvC_ok S V hw (mt_X4_bothLast l D q ad t aK aV x1.toNatClampNeg x3.toNatClampNeg x5 x6 (vin_lt hv12 (Nat.le_of_ble_eq_true rfl)) (vin_lt hv13 (Nat.le_of_ble_eq_true rfl)) σ11 _ h) ok_X4_bothLast ml_X8_201 (rC_16 S V hw (Nat.le_of_ble_eq_true rfl)) ⟨(Nat.le_of_ble_eq_true rfl), (Nat.le_of_ble_eq_true rfl)⟩ ⟨rfl, rfl⟩ rfl hl.1 rfl (Nat.le_of_ble_eq_true rfl) dX8_two_155 (fun r14 σ14 H locs h hw => ?_)
                  exact ret_i S hr hlocks hw h dX8_two_158
                · have h := h.2 hc
                  exact wk_X8_two_85 S V hr hlocks x1 x2 x3 x4 x5 x6   post   _ _ _ _ h  hw (lv_sub hl [0, 1, 2, 3, 4, 5, 6] rfl)
            · have h := h.2 hc
              exact wk_X8_two_66 S V hr hlocks x1 x2 x3 x4 x5 x6   post   _ _ _ _ h  hw (lv_sub hl [0, 1, 2, 3, 4, 5, 6] rfl)
    · have h := h.2 hc
      exact wk_X8_two_14 S V hr hlocks x1 x2 x3 x4 x5 x6   post   _ _ _ _ h  hw (lv_sub hl [0, 1, 2, 3, 4, 5, 6] rfl)
theorem mt_X8_two (l : Launch) (D : va_G) (q : ClassId × ClassId × ClassId × ClassId) (ad : Nat → Nat → Nat) (t : Nat × Nat) (aK aV : Nat → Nat) (x1 : Int32) (x2 : Int32) (x3 : Int32) (x4 : Int32) (x5 : Int32) (x6 : Int32) (σ : St) (post : Int32 → St → Prop) (h : wp_X8_two x1 x2 x3 x4 x5 x6 post σ) : cI l D clA LC ad (EC q ad) (EvC D q ad t aK aV) yX8_two cX8_two 7 (some .int) { frames := 5, cells := 0, slots := 0, locals := 119 } [.ref (ad 0 0), .int x1, .int x2, .int x3, .int x4, .int x5, .int x6] σ post :=
  ent_i (by decide) (Nat.le_of_ble_eq_true rfl) (fun p e s m below meth c S V hr hlocks hw ls hl => wk_X8_two_0 S V hr hlocks x1 x2 x3 x4 x5 x6  post   σ _ _ ls h  hw (lv_sub hl [0, 1, 2, 3, 4, 5, 6] rfl))
def wp_X8_film_24 (x1 : Int32) (x2 : Int32) (post : Int32 → St → Prop)  (σ : St) : Prop := post (-3) σ
set_option maxHeartbeats 4000000 in
set_option maxRecDepth 100000 in
theorem wk_X8_film_24 {p : Program} {l : Launch} {e : Env} {s : State} {m : MethodId} {below : List Frame} {meth : Method} {c : Code} {D : va_G} {q : ClassId × ClassId × ClassId × ClassId} {ad : Nat → Nat → Nat} {t : Nat × Nat} {aK aV : Nat → Nat} {args : Array Value} (S : CallFix p m c cX8_film 3 s args GW "OnChin") (V : EvC D q ad t aK aV s) (hr : meth.sig.returnType = (some .int)) (hlocks : meth.locks = false) (x1 : Int32) (x2 : Int32) (post : Int32 → St → Prop)  : ∀ (σ : St) (H : Heap) (locs : List Loc) (ls : Array Slot), wp_X8_film_24 x1 x2 post  σ → wo D clA LC ad s.heap H locs (EC q ad σ) → lv_has ls 3 [(0, .ref (ad 0 0)), (1, .int x1), (2, .int x2)] → W p l e { frames := 1, cells := 0, slots := 0, locals := 22 } s m args below meth c H locs 0 0 (MQ below (zQi D clA LC ad (EC q ad) post) args s 0 0 (zA LC ad)) (F0 m 24 ls []) := by
  have hx := S.1
  have hb := S.2.1
  intro  σ H locs ls h  hw hl
  refine lv_bipush (v := (-3)) hx hb dX8_film_24 (by decide) ?_
  exact ret_i S hr hlocks hw h dX8_film_26
def wp_X8_film (x1 : Int32) (x2 : Int32) (post : Int32 → St → Prop)  (σ : St) : Prop := wp_X8_within x1 (-999) 999 (fun r1 σ1 => ((r1 = 0 → wp_X8_film_24 x1 x2 post  σ1) ∧ (¬ r1 = 0 → wp_X8_within x2 (-99) 99 (fun r2 σ2 => ((¬ r2 = 0 → (((σ2 19 0 0) < 24 → wp_X2_append x1 x2 (fun σ3 => post (σ3 19 0 0) σ3) σ2) ∧ (¬ (σ2 19 0 0) < 24 → post (-5) σ2))) ∧ (r2 = 0 → wp_X8_film_24 x1 x2 post  σ2))) σ1))) σ
set_option maxHeartbeats 4000000 in
set_option maxRecDepth 100000 in
theorem wk_X8_film_0 {p : Program} {l : Launch} {e : Env} {s : State} {m : MethodId} {below : List Frame} {meth : Method} {c : Code} {D : va_G} {q : ClassId × ClassId × ClassId × ClassId} {ad : Nat → Nat → Nat} {t : Nat × Nat} {aK aV : Nat → Nat} {args : Array Value} (S : CallFix p m c cX8_film 3 s args GW "OnChin") (V : EvC D q ad t aK aV s) (hr : meth.sig.returnType = (some .int)) (hlocks : meth.locks = false) (x1 : Int32) (x2 : Int32) (post : Int32 → St → Prop)  : ∀ (σ : St) (H : Heap) (locs : List Loc) (ls : Array Slot), wp_X8_film x1 x2 post  σ → wo D clA LC ad s.heap H locs (EC q ad σ) → lv_has ls 3 [(0, .ref (ad 0 0)), (1, .int x1), (2, .int x2)] → W p l e { frames := 1, cells := 0, slots := 0, locals := 22 } s m args below meth c H locs 0 0 (MQ below (zQi D clA LC ad (EC q ad) post) args s 0 0 (zA LC ad)) (F0 m 0 ls []) := by
  have hx := S.1
  have hb := S.2.1
  intro  σ H locs ls h  hw hl
  have h : wp_X8_within x1 (-999) 999 (fun r1 σ1 => ((r1 = 0 → wp_X8_film_24 x1 x2 post  σ1) ∧ (¬ r1 = 0 → wp_X8_within x2 (-99) 99 (fun r2 σ2 => ((¬ r2 = 0 → (((σ2 19 0 0) < 24 → wp_X2_append x1 x2 (fun σ3 => post (σ3 19 0 0) σ3) σ2) ∧ (¬ (σ2 19 0 0) < 24 → post (-5) σ2))) ∧ (r2 = 0 → wp_X8_film_24 x1 x2 post  σ2))) σ1))) σ := h
  refine lv_iload_n hx hb dX8_film_0 rfl (lv_at hl 1 rfl) ?_
  refine lv_sipush (v := (-999)) hx hb dX8_film_1 (by decide) ?_
  refine lv_sipush (v := 999) hx hb dX8_film_4 (by decide) ?_
  refine call_Si (As := [.int x1, .int (-999), .int 999]) (rest := []) EvC_ok S V hw (mt_X8_within l D q ad t aK aV x1 (-999) 999  σ _ h) ok_X8_within ml_X8_62 ⟨(Nat.le_of_ble_eq_true rfl), (Nat.le_of_ble_eq_true rfl)⟩ ⟨rfl, rfl⟩ rfl hl.1 rfl (Nat.le_of_ble_eq_true rfl) dX8_film_7 (fun r1 σ1 H locs h hw => ?_)
  refine lv_if_eq (tgt := 24) hx hb dX8_film_10 (by decide) (fun hc => ?_) (fun hc => ?_)
  · have h := h.1 hc
    exact wk_X8_film_24 S V hr hlocks x1 x2   post   _ _ _ _ h  hw (lv_sub hl [0, 1, 2] rfl)
  · have h := h.2 hc
    refine lv_iload_n hx hb dX8_film_13 rfl (lv_at hl 2 rfl) ?_
    refine lv_bipush (v := (-99)) hx hb dX8_film_14 (by decide) ?_
    refine lv_bipush (v := 99) hx hb dX8_film_16 (by decide) ?_
    refine call_Si (As := [.int x2, .int (-99), .int 99]) (rest := []) EvC_ok S V hw (mt_X8_within l D q ad t aK aV x2 (-99) 99  σ1 _ h) ok_X8_within ml_X8_62 ⟨(Nat.le_of_ble_eq_true rfl), (Nat.le_of_ble_eq_true rfl)⟩ ⟨rfl, rfl⟩ rfl hl.1 rfl (Nat.le_of_ble_eq_true rfl) dX8_film_18 (fun r2 σ2 H locs h hw => ?_)
    refine lv_if_ne (tgt := 27) hx hb dX8_film_21 (by decide) (fun hc => ?_) (fun hc => ?_)
    · have h := h.1 hc
      refine lv_aload_n hx hb dX8_film_27 rfl (lv_at hl 0 rfl) ?_
      refine gC_0_6 S V hw (Nat.le_of_ble_eq_true rfl) fl_X8_51 dX8_film_28 ?_
      refine gC_19_0 S V hw (Nat.le_of_ble_eq_true rfl) fl_X8_205 rfl dX8_film_31 ?_
      refine lv_bipush (v := 24) hx hb dX8_film_34 (by decide) ?_
      refine lv_icmp_lt (tgt := 42) hx hb dX8_film_36 (by decide) (fun hc => ?_) (fun hc => ?_)
      · have h := h.1 hc
        refine lv_aload_n hx hb dX8_film_42 rfl (lv_at hl 0 rfl) ?_
        refine gC_0_6 S V hw (Nat.le_of_ble_eq_true rfl) fl_X8_51 dX8_film_43 ?_
        refine lv_iload_n hx hb dX8_film_46 rfl (lv_at hl 1 rfl) ?_
        refine lv_iload_n hx hb dX8_film_47 rfl (lv_at hl 2 rfl) ?_
        refine call_Vv (As := [.int x1, .int x2]) (rest := []) EvC_ok S V hw (mt_X2_append l D q ad t aK aV x1 x2  σ2 _ h) ok_X2_append ml_X8_208 (rC_19 S V hw (Nat.le_of_ble_eq_true rfl)) ⟨(Nat.le_of_ble_eq_true rfl), (Nat.le_of_ble_eq_true rfl)⟩ ⟨rfl, rfl⟩ rfl hl.1 rfl (Nat.le_of_ble_eq_true rfl) dX8_film_48 (fun σ3 H locs h hw => ?_)
        refine lv_aload_n hx hb dX8_film_51 rfl (lv_at hl 0 rfl) ?_
        refine gC_0_6 S V hw (Nat.le_of_ble_eq_true rfl) fl_X8_51 dX8_film_52 ?_
        refine gC_19_0 S V hw (Nat.le_of_ble_eq_true rfl) fl_X8_205 rfl dX8_film_55 ?_
        exact ret_i S hr hlocks hw h dX8_film_58
      · have h := h.2 hc
        refine lv_bipush (v := (-5)) hx hb dX8_film_39 (by decide) ?_
        exact ret_i S hr hlocks hw h dX8_film_41
    · have h := h.2 hc
      exact wk_X8_film_24 S V hr hlocks x1 x2   post   _ _ _ _ h  hw (lv_sub hl [0, 1, 2] rfl)
theorem mt_X8_film (l : Launch) (D : va_G) (q : ClassId × ClassId × ClassId × ClassId) (ad : Nat → Nat → Nat) (t : Nat × Nat) (aK aV : Nat → Nat) (x1 : Int32) (x2 : Int32) (σ : St) (post : Int32 → St → Prop) (h : wp_X8_film x1 x2 post σ) : cI l D clA LC ad (EC q ad) (EvC D q ad t aK aV) yX8_film cX8_film 3 (some .int) { frames := 1, cells := 0, slots := 0, locals := 22 } [.ref (ad 0 0), .int x1, .int x2] σ post :=
  ent_i (by decide) (Nat.le_of_ble_eq_true rfl) (fun p e s m below meth c S V hr hlocks hw ls hl => wk_X8_film_0 S V hr hlocks x1 x2  post   σ _ _ ls h  hw (lv_sub hl [0, 1, 2] rfl))
def wp_X8_wind (post : Int32 → St → Prop)  (σ : St) : Prop := post (σ 19 0 0) (su σ 19 0 0 0)
set_option maxHeartbeats 4000000 in
set_option maxRecDepth 100000 in
theorem wk_X8_wind_0 {p : Program} {l : Launch} {e : Env} {s : State} {m : MethodId} {below : List Frame} {meth : Method} {c : Code} {D : va_G} {q : ClassId × ClassId × ClassId × ClassId} {ad : Nat → Nat → Nat} {t : Nat × Nat} {aK aV : Nat → Nat} {args : Array Value} (S : CallFix p m c cX8_wind 2 s args GW "OnChin") (V : EvC D q ad t aK aV s) (hr : meth.sig.returnType = (some .int)) (hlocks : meth.locks = false) (post : Int32 → St → Prop)  : ∀ (σ : St) (H : Heap) (locs : List Loc) (ls : Array Slot), wp_X8_wind post  σ → wo D clA LC ad s.heap H locs (EC q ad σ) → lv_has ls 2 [(0, .ref (ad 0 0))] → W p l e { frames := 0, cells := 0, slots := 0, locals := 0 } s m args below meth c H locs 0 0 (MQ below (zQi D clA LC ad (EC q ad) post) args s 0 0 (zA LC ad)) (F0 m 0 ls []) := by
  have hx := S.1
  have hb := S.2.1
  intro  σ H locs ls h  hw hl
  refine lv_aload_n hx hb dX8_wind_0 rfl (lv_at hl 0 rfl) ?_
  refine gC_0_6 S V hw (Nat.le_of_ble_eq_true rfl) fl_X8_51 dX8_wind_1 ?_
  refine gC_19_0 S V hw (Nat.le_of_ble_eq_true rfl) fl_X8_205 rfl dX8_wind_4 ?_
  refine lv_istore_n (lv' := [(1, .int (σ 19 0 0)), (0, .ref (ad 0 0))]) hx hb dX8_wind_7 rfl hl (by decide) rfl (fun ls hl => ?_)
  refine lv_aload_n hx hb dX8_wind_8 rfl (lv_at hl 1 rfl) ?_
  refine gC_0_6 S V hw (Nat.le_of_ble_eq_true rfl) fl_X8_51 dX8_wind_9 ?_
  refine lv_iconst (v := 0) hx hb dX8_wind_12 (by decide) ?_
  refine pC_19_0 S V hw (Nat.le_of_ble_eq_true rfl) fl_X8_205 dX8_wind_13 (fun H locs hw => ?_)
  refine lv_iload_n hx hb dX8_wind_16 rfl (lv_at hl 0 rfl) ?_
  exact ret_i S hr hlocks hw h dX8_wind_17
theorem mt_X8_wind (l : Launch) (D : va_G) (q : ClassId × ClassId × ClassId × ClassId) (ad : Nat → Nat → Nat) (t : Nat × Nat) (aK aV : Nat → Nat)  (σ : St) (post : Int32 → St → Prop) (h : wp_X8_wind post σ) : cI l D clA LC ad (EC q ad) (EvC D q ad t aK aV) yX8_wind cX8_wind 2 (some .int) { frames := 0, cells := 0, slots := 0, locals := 0 } [.ref (ad 0 0)] σ post :=
  ent_i (by decide) (Nat.le_of_ble_eq_true rfl) (fun p e s m below meth c S V hr hlocks hw ls hl => wk_X8_wind_0 S V hr hlocks   post   σ _ _ ls h  hw (lv_sub hl [0] rfl))
def wp_X8_fits (x1 : Int32) (post : Int32 → St → Prop)  (σ : St) : Prop := wp_X8_within x1 0 3 (fun r1 σ1 => ((¬ r1 = 0 → wp_X2_seek 0 0 (fun σ2 => ((x1 = 0 → post (σ2 19 0 1) σ2) ∧ (¬ x1 = 0 → ((x1 = 1 → post (σ2 19 0 2) σ2) ∧ (¬ x1 = 1 → ((x1 = 2 → post (σ2 19 0 3) σ2) ∧ (¬ x1 = 2 → post (σ2 19 0 4) σ2))))))) σ1) ∧ (r1 = 0 → post (-3) σ1))) σ
set_option maxHeartbeats 4000000 in
set_option maxRecDepth 100000 in
theorem wk_X8_fits_0 {p : Program} {l : Launch} {e : Env} {s : State} {m : MethodId} {below : List Frame} {meth : Method} {c : Code} {D : va_G} {q : ClassId × ClassId × ClassId × ClassId} {ad : Nat → Nat → Nat} {t : Nat × Nat} {aK aV : Nat → Nat} {args : Array Value} (S : CallFix p m c cX8_fits 2 s args GW "OnChin") (V : EvC D q ad t aK aV s) (hr : meth.sig.returnType = (some .int)) (hlocks : meth.locks = false) (x1 : Int32) (post : Int32 → St → Prop)  : ∀ (σ : St) (H : Heap) (locs : List Loc) (ls : Array Slot), wp_X8_fits x1 post  σ → wo D clA LC ad s.heap H locs (EC q ad σ) → lv_has ls 2 [(0, .ref (ad 0 0)), (1, .int x1)] → W p l e { frames := 5, cells := 0, slots := 0, locals := 111 } s m args below meth c H locs 0 0 (MQ below (zQi D clA LC ad (EC q ad) post) args s 0 0 (zA LC ad)) (F0 m 0 ls []) := by
  have hx := S.1
  have hb := S.2.1
  intro  σ H locs ls h  hw hl
  have h : wp_X8_within x1 0 3 (fun r1 σ1 => ((¬ r1 = 0 → wp_X2_seek 0 0 (fun σ2 => ((x1 = 0 → post (σ2 19 0 1) σ2) ∧ (¬ x1 = 0 → ((x1 = 1 → post (σ2 19 0 2) σ2) ∧ (¬ x1 = 1 → ((x1 = 2 → post (σ2 19 0 3) σ2) ∧ (¬ x1 = 2 → post (σ2 19 0 4) σ2))))))) σ1) ∧ (r1 = 0 → post (-3) σ1))) σ := h
  refine lv_iload_n hx hb dX8_fits_0 rfl (lv_at hl 1 rfl) ?_
  refine lv_iconst (v := 0) hx hb dX8_fits_1 (by decide) ?_
  refine lv_iconst (v := 3) hx hb dX8_fits_2 (by decide) ?_
  refine call_Si (As := [.int x1, .int 0, .int 3]) (rest := []) EvC_ok S V hw (mt_X8_within l D q ad t aK aV x1 0 3  σ _ h) ok_X8_within ml_X8_62 ⟨(Nat.le_of_ble_eq_true rfl), (Nat.le_of_ble_eq_true rfl)⟩ ⟨rfl, rfl⟩ rfl hl.1 rfl (Nat.le_of_ble_eq_true rfl) dX8_fits_3 (fun r1 σ1 H locs h hw => ?_)
  refine lv_if_ne (tgt := 12) hx hb dX8_fits_6 (by decide) (fun hc => ?_) (fun hc => ?_)
  · have h := h.1 hc
    refine lv_aload_n hx hb dX8_fits_12 rfl (lv_at hl 0 rfl) ?_
    refine gC_0_6 S V hw (Nat.le_of_ble_eq_true rfl) fl_X8_51 dX8_fits_13 ?_
    refine lv_aload_n hx hb dX8_fits_16 rfl (lv_at hl 0 rfl) ?_
    refine gC_0_0 S V hw (Nat.le_of_ble_eq_true rfl) fl_X8_12 dX8_fits_17 ?_
    refine gC_1_1 S V hw (Nat.le_of_ble_eq_true rfl) fl_X8_130 dX8_fits_20 ?_
    refine lv_iconst (v := 0) hx hb dX8_fits_23 (by decide) ?_
    refine call_Vv (As := [.ref (ad 6 0), .int 0]) (rest := []) EvC_ok S V hw (mt_X2_seek l D q ad t aK aV 0 0 (Nat.le_of_ble_eq_true rfl) σ1 _ h) ok_X2_seek ml_X8_211 (rC_19 S V hw (Nat.le_of_ble_eq_true rfl)) ⟨(Nat.le_of_ble_eq_true rfl), (Nat.le_of_ble_eq_true rfl)⟩ ⟨rfl, rfl⟩ rfl hl.1 rfl (Nat.le_of_ble_eq_true rfl) dX8_fits_24 (fun σ2 H locs h hw => ?_)
    refine lv_iload_n hx hb dX8_fits_27 rfl (lv_at hl 1 rfl) ?_
    by_cases hc0 : x1 = 0
    · have h := h.1 hc0
      refine lv_tableIn (tgt := 56) hx hb dX8_fits_28 (by rw [hc0]; decide) (by rw [hc0]; decide) (by rw [hc0]; rfl) (by decide) ?_
      refine lv_aload_n hx hb dX8_fits_56 rfl (lv_at hl 0 rfl) ?_
      refine gC_0_6 S V hw (Nat.le_of_ble_eq_true rfl) fl_X8_51 dX8_fits_57 ?_
      refine gC_19_1 S V hw (Nat.le_of_ble_eq_true rfl) fl_X8_215 rfl dX8_fits_60 ?_
      exact ret_i S hr hlocks hw h dX8_fits_63
    · have h := h.2 hc0
      by_cases hc1 : x1 = 1
      · have h := h.1 hc1
        refine lv_tableIn (tgt := 64) hx hb dX8_fits_28 (by rw [hc1]; decide) (by rw [hc1]; decide) (by rw [hc1]; rfl) (by decide) ?_
        refine lv_aload_n hx hb dX8_fits_64 rfl (lv_at hl 0 rfl) ?_
        refine gC_0_6 S V hw (Nat.le_of_ble_eq_true rfl) fl_X8_51 dX8_fits_65 ?_
        refine gC_19_2 S V hw (Nat.le_of_ble_eq_true rfl) fl_X8_218 rfl dX8_fits_68 ?_
        exact ret_i S hr hlocks hw h dX8_fits_71
      · have h := h.2 hc1
        by_cases hc2 : x1 = 2
        · have h := h.1 hc2
          refine lv_tableIn (tgt := 72) hx hb dX8_fits_28 (by rw [hc2]; decide) (by rw [hc2]; decide) (by rw [hc2]; rfl) (by decide) ?_
          refine lv_aload_n hx hb dX8_fits_72 rfl (lv_at hl 0 rfl) ?_
          refine gC_0_6 S V hw (Nat.le_of_ble_eq_true rfl) fl_X8_51 dX8_fits_73 ?_
          refine gC_19_3 S V hw (Nat.le_of_ble_eq_true rfl) fl_X8_221 rfl dX8_fits_76 ?_
          exact ret_i S hr hlocks hw h dX8_fits_79
        · have h := h.2 hc2
          refine lv_tableOut (tgt := 80) hx hb dX8_fits_28 (by have e0 := lv_neT (k := 0) (a := 0) hc0 rfl; have e1 := lv_neT (k := 1) (a := 1) hc1 rfl; have e2 := lv_neT (k := 2) (a := 2) hc2 rfl; omega) (by decide) ?_
          refine lv_aload_n hx hb dX8_fits_80 rfl (lv_at hl 0 rfl) ?_
          refine gC_0_6 S V hw (Nat.le_of_ble_eq_true rfl) fl_X8_51 dX8_fits_81 ?_
          refine gC_19_4 S V hw (Nat.le_of_ble_eq_true rfl) fl_X8_224 rfl dX8_fits_84 ?_
          exact ret_i S hr hlocks hw h dX8_fits_87
  · have h := h.2 hc
    refine lv_bipush (v := (-3)) hx hb dX8_fits_9 (by decide) ?_
    exact ret_i S hr hlocks hw h dX8_fits_11
theorem mt_X8_fits (l : Launch) (D : va_G) (q : ClassId × ClassId × ClassId × ClassId) (ad : Nat → Nat → Nat) (t : Nat × Nat) (aK aV : Nat → Nat) (x1 : Int32) (σ : St) (post : Int32 → St → Prop) (h : wp_X8_fits x1 post σ) : cI l D clA LC ad (EC q ad) (EvC D q ad t aK aV) yX8_fits cX8_fits 2 (some .int) { frames := 5, cells := 0, slots := 0, locals := 111 } [.ref (ad 0 0), .int x1] σ post :=
  ent_i (by decide) (Nat.le_of_ble_eq_true rfl) (fun p e s m below meth c S V hr hlocks hw ls hl => wk_X8_fits_0 S V hr hlocks x1  post   σ _ _ ls h  hw (lv_sub hl [0, 1] rfl))
def wp_X8_next_22 (x1 : Int32) (x2 : Int32) (post : Int32 → St → Prop)  (σ : St) : Prop := post (-3) σ
set_option maxHeartbeats 4000000 in
set_option maxRecDepth 100000 in
theorem wk_X8_next_22 {p : Program} {l : Launch} {e : Env} {s : State} {m : MethodId} {below : List Frame} {meth : Method} {c : Code} {D : va_G} {q : ClassId × ClassId × ClassId × ClassId} {ad : Nat → Nat → Nat} {t : Nat × Nat} {aK aV : Nat → Nat} {args : Array Value} (S : CallFix p m c cX8_next 3 s args GW "OnChin") (V : EvC D q ad t aK aV s) (hr : meth.sig.returnType = (some .int)) (hlocks : meth.locks = false) (x1 : Int32) (x2 : Int32) (post : Int32 → St → Prop)  : ∀ (σ : St) (H : Heap) (locs : List Loc) (ls : Array Slot), wp_X8_next_22 x1 x2 post  σ → wo D clA LC ad s.heap H locs (EC q ad σ) → lv_has ls 3 [(0, .ref (ad 0 0)), (1, .int x1), (2, .int x2)] → W p l e { frames := 5, cells := 0, slots := 0, locals := 111 } s m args below meth c H locs 0 0 (MQ below (zQi D clA LC ad (EC q ad) post) args s 0 0 (zA LC ad)) (F0 m 22 ls []) := by
  have hx := S.1
  have hb := S.2.1
  intro  σ H locs ls h  hw hl
  refine lv_bipush (v := (-3)) hx hb dX8_next_22 (by decide) ?_
  exact ret_i S hr hlocks hw h dX8_next_24
def wp_X8_next_76 (x1 : Int32) (x2 : Int32) (post : Int32 → St → Prop) (xs0 : Int32) (xs1 : Int32) (σ : St) : Prop := post (xs0 + xs1) σ
set_option maxHeartbeats 4000000 in
set_option maxRecDepth 100000 in
theorem wk_X8_next_76 {p : Program} {l : Launch} {e : Env} {s : State} {m : MethodId} {below : List Frame} {meth : Method} {c : Code} {D : va_G} {q : ClassId × ClassId × ClassId × ClassId} {ad : Nat → Nat → Nat} {t : Nat × Nat} {aK aV : Nat → Nat} {args : Array Value} (S : CallFix p m c cX8_next 3 s args GW "OnChin") (V : EvC D q ad t aK aV s) (hr : meth.sig.returnType = (some .int)) (hlocks : meth.locks = false) (x1 : Int32) (x2 : Int32) (post : Int32 → St → Prop)  : ∀ (xs0 : Int32) (xs1 : Int32) (σ : St) (H : Heap) (locs : List Loc) (ls : Array Slot), wp_X8_next_76 x1 x2 post xs0 xs1 σ → wo D clA LC ad s.heap H locs (EC q ad σ) → lv_has ls 3 [(0, .ref (ad 0 0)), (1, .int x1), (2, .int x2)] → W p l e { frames := 5, cells := 0, slots := 0, locals := 111 } s m args below meth c H locs 0 0 (MQ below (zQi D clA LC ad (EC q ad) post) args s 0 0 (zA LC ad)) (F0 m 76 ls [.int xs1, .int xs0]) := by
  have hx := S.1
  have hb := S.2.1
  intro xs0 xs1 σ H locs ls h  hw hl
  refine lv_iadd hx hb dX8_next_76 ?_
  exact ret_i S hr hlocks hw h dX8_next_77
def wp_X8_next (x1 : Int32) (x2 : Int32) (post : Int32 → St → Prop)  (σ : St) : Prop := wp_X8_within x1 (-999) 999 (fun r1 σ1 => ((r1 = 0 → wp_X8_next_22 x1 x2 post  σ1) ∧ (¬ r1 = 0 → wp_X8_within x2 0 1 (fun r2 σ2 => ((¬ r2 = 0 → wp_X2_seek 0 x1 (fun σ3 => ((¬ (σ3 19 0 1) = 0 → ((¬ x2 = 0 → wp_X8_next_76 x1 x2 post 1000 (σ3 19 0 6) σ3) ∧ (x2 = 0 → wp_X8_next_76 x1 x2 post 1000 (σ3 19 0 5) σ3))) ∧ ((σ3 19 0 1) = 0 → post (-1) σ3))) σ2) ∧ (r2 = 0 → wp_X8_next_22 x1 x2 post  σ2))) σ1))) σ
set_option maxHeartbeats 4000000 in
set_option maxRecDepth 100000 in
theorem wk_X8_next_0 {p : Program} {l : Launch} {e : Env} {s : State} {m : MethodId} {below : List Frame} {meth : Method} {c : Code} {D : va_G} {q : ClassId × ClassId × ClassId × ClassId} {ad : Nat → Nat → Nat} {t : Nat × Nat} {aK aV : Nat → Nat} {args : Array Value} (S : CallFix p m c cX8_next 3 s args GW "OnChin") (V : EvC D q ad t aK aV s) (hr : meth.sig.returnType = (some .int)) (hlocks : meth.locks = false) (x1 : Int32) (x2 : Int32) (post : Int32 → St → Prop)  : ∀ (σ : St) (H : Heap) (locs : List Loc) (ls : Array Slot), wp_X8_next x1 x2 post  σ → wo D clA LC ad s.heap H locs (EC q ad σ) → lv_has ls 3 [(0, .ref (ad 0 0)), (1, .int x1), (2, .int x2)] → W p l e { frames := 5, cells := 0, slots := 0, locals := 111 } s m args below meth c H locs 0 0 (MQ below (zQi D clA LC ad (EC q ad) post) args s 0 0 (zA LC ad)) (F0 m 0 ls []) := by
  have hx := S.1
  have hb := S.2.1
  intro  σ H locs ls h  hw hl
  have h : wp_X8_within x1 (-999) 999 (fun r1 σ1 => ((r1 = 0 → wp_X8_next_22 x1 x2 post  σ1) ∧ (¬ r1 = 0 → wp_X8_within x2 0 1 (fun r2 σ2 => ((¬ r2 = 0 → wp_X2_seek 0 x1 (fun σ3 => ((¬ (σ3 19 0 1) = 0 → ((¬ x2 = 0 → wp_X8_next_76 x1 x2 post 1000 (σ3 19 0 6) σ3) ∧ (x2 = 0 → wp_X8_next_76 x1 x2 post 1000 (σ3 19 0 5) σ3))) ∧ ((σ3 19 0 1) = 0 → post (-1) σ3))) σ2) ∧ (r2 = 0 → wp_X8_next_22 x1 x2 post  σ2))) σ1))) σ := h
  refine lv_iload_n hx hb dX8_next_0 rfl (lv_at hl 1 rfl) ?_
  refine lv_sipush (v := (-999)) hx hb dX8_next_1 (by decide) ?_
  refine lv_sipush (v := 999) hx hb dX8_next_4 (by decide) ?_
  refine call_Si (As := [.int x1, .int (-999), .int 999]) (rest := []) EvC_ok S V hw (mt_X8_within l D q ad t aK aV x1 (-999) 999  σ _ h) ok_X8_within ml_X8_62 ⟨(Nat.le_of_ble_eq_true rfl), (Nat.le_of_ble_eq_true rfl)⟩ ⟨rfl, rfl⟩ rfl hl.1 rfl (Nat.le_of_ble_eq_true rfl) dX8_next_7 (fun r1 σ1 H locs h hw => ?_)
  refine lv_if_eq (tgt := 22) hx hb dX8_next_10 (by decide) (fun hc => ?_) (fun hc => ?_)
  · have h := h.1 hc
    exact wk_X8_next_22 S V hr hlocks x1 x2   post   _ _ _ _ h  hw (lv_sub hl [0, 1, 2] rfl)
  · have h := h.2 hc
    refine lv_iload_n hx hb dX8_next_13 rfl (lv_at hl 2 rfl) ?_
    refine lv_iconst (v := 0) hx hb dX8_next_14 (by decide) ?_
    refine lv_iconst (v := 1) hx hb dX8_next_15 (by decide) ?_
    refine call_Si (As := [.int x2, .int 0, .int 1]) (rest := []) EvC_ok S V hw (mt_X8_within l D q ad t aK aV x2 0 1  σ1 _ h) ok_X8_within ml_X8_62 ⟨(Nat.le_of_ble_eq_true rfl), (Nat.le_of_ble_eq_true rfl)⟩ ⟨rfl, rfl⟩ rfl hl.1 rfl (Nat.le_of_ble_eq_true rfl) dX8_next_16 (fun r2 σ2 H locs h hw => ?_)
    refine lv_if_ne (tgt := 25) hx hb dX8_next_19 (by decide) (fun hc => ?_) (fun hc => ?_)
    · have h := h.1 hc
      refine lv_aload_n hx hb dX8_next_25 rfl (lv_at hl 0 rfl) ?_
      refine gC_0_6 S V hw (Nat.le_of_ble_eq_true rfl) fl_X8_51 dX8_next_26 ?_
      refine lv_aload_n hx hb dX8_next_29 rfl (lv_at hl 0 rfl) ?_
      refine gC_0_0 S V hw (Nat.le_of_ble_eq_true rfl) fl_X8_12 dX8_next_30 ?_
      refine gC_1_1 S V hw (Nat.le_of_ble_eq_true rfl) fl_X8_130 dX8_next_33 ?_
      refine lv_iload_n hx hb dX8_next_36 rfl (lv_at hl 1 rfl) ?_
      refine call_Vv (As := [.ref (ad 6 0), .int x1]) (rest := []) EvC_ok S V hw (mt_X2_seek l D q ad t aK aV 0 x1 (Nat.le_of_ble_eq_true rfl) σ2 _ h) ok_X2_seek ml_X8_211 (rC_19 S V hw (Nat.le_of_ble_eq_true rfl)) ⟨(Nat.le_of_ble_eq_true rfl), (Nat.le_of_ble_eq_true rfl)⟩ ⟨rfl, rfl⟩ rfl hl.1 rfl (Nat.le_of_ble_eq_true rfl) dX8_next_37 (fun σ3 H locs h hw => ?_)
      refine lv_aload_n hx hb dX8_next_40 rfl (lv_at hl 0 rfl) ?_
      refine gC_0_6 S V hw (Nat.le_of_ble_eq_true rfl) fl_X8_51 dX8_next_41 ?_
      refine gC_19_1 S V hw (Nat.le_of_ble_eq_true rfl) fl_X8_215 rfl dX8_next_44 ?_
      refine lv_if_ne (tgt := 52) hx hb dX8_next_47 (by decide) (fun hc => ?_) (fun hc => ?_)
      · have h := h.1 hc
        refine lv_sipush (v := 1000) hx hb dX8_next_52 (by decide) ?_
        refine lv_iload_n hx hb dX8_next_55 rfl (lv_at hl 2 rfl) ?_
        refine lv_if_ne (tgt := 69) hx hb dX8_next_56 (by decide) (fun hc => ?_) (fun hc => ?_)
        · have h := h.1 hc
          refine lv_aload_n hx hb dX8_next_69 rfl (lv_at hl 0 rfl) ?_
          refine gC_0_6 S V hw (Nat.le_of_ble_eq_true rfl) fl_X8_51 dX8_next_70 ?_
          refine gC_19_6 S V hw (Nat.le_of_ble_eq_true rfl) fl_X8_230 rfl dX8_next_73 ?_
          exact wk_X8_next_76 S V hr hlocks x1 x2   post  1000 (σ3 19 0 6) _ _ _ _ h  hw (lv_sub hl [0, 1, 2] rfl)
        · have h := h.2 hc
          refine lv_aload_n hx hb dX8_next_59 rfl (lv_at hl 0 rfl) ?_
          refine gC_0_6 S V hw (Nat.le_of_ble_eq_true rfl) fl_X8_51 dX8_next_60 ?_
          refine gC_19_5 S V hw (Nat.le_of_ble_eq_true rfl) fl_X8_227 rfl dX8_next_63 ?_
          refine lv_goto (tgt := 76) hx hb dX8_next_66 (by decide) ?_
          exact wk_X8_next_76 S V hr hlocks x1 x2   post  1000 (σ3 19 0 5) _ _ _ _ h  hw (lv_sub hl [0, 1, 2] rfl)
      · have h := h.2 hc
        refine lv_iconst (v := (-1)) hx hb dX8_next_50 (by decide) ?_
        exact ret_i S hr hlocks hw h dX8_next_51
    · have h := h.2 hc
      exact wk_X8_next_22 S V hr hlocks x1 x2   post   _ _ _ _ h  hw (lv_sub hl [0, 1, 2] rfl)
theorem mt_X8_next (l : Launch) (D : va_G) (q : ClassId × ClassId × ClassId × ClassId) (ad : Nat → Nat → Nat) (t : Nat × Nat) (aK aV : Nat → Nat) (x1 : Int32) (x2 : Int32) (σ : St) (post : Int32 → St → Prop) (h : wp_X8_next x1 x2 post σ) : cI l D clA LC ad (EC q ad) (EvC D q ad t aK aV) yX8_next cX8_next 3 (some .int) { frames := 5, cells := 0, slots := 0, locals := 111 } [.ref (ad 0 0), .int x1, .int x2] σ post :=
  ent_i (by decide) (Nat.le_of_ble_eq_true rfl) (fun p e s m below meth c S V hr hlocks hw ls hl => wk_X8_next_0 S V hr hlocks x1 x2  post   σ _ _ ls h  hw (lv_sub hl [0, 1, 2] rfl))
def wp_X8_plan_20 (x1 : Int32) (x2 : Int32) (post : Int32 → St → Prop)  (σ : St) : Prop := post (-3) σ
set_option maxHeartbeats 4000000 in
set_option maxRecDepth 100000 in
theorem wk_X8_plan_20 {p : Program} {l : Launch} {e : Env} {s : State} {m : MethodId} {below : List Frame} {meth : Method} {c : Code} {D : va_G} {q : ClassId × ClassId × ClassId × ClassId} {ad : Nat → Nat → Nat} {t : Nat × Nat} {aK aV : Nat → Nat} {args : Array Value} (S : CallFix p m c cX8_plan 4 s args GW "OnChin") (V : EvC D q ad t aK aV s) (hr : meth.sig.returnType = (some .int)) (hlocks : meth.locks = false) (x1 : Int32) (x2 : Int32) (post : Int32 → St → Prop)  : ∀ (σ : St) (H : Heap) (locs : List Loc) (ls : Array Slot), wp_X8_plan_20 x1 x2 post  σ → wo D clA LC ad s.heap H locs (EC q ad σ) → lv_has ls 4 [(0, .ref (ad 0 0)), (1, .int x1), (2, .int x2)] → W p l e { frames := 7, cells := 0, slots := 0, locals := 164 } s m args below meth c H locs 0 0 (MQ below (zQi D clA LC ad (EC q ad) post) args s 0 0 (zA LC ad)) (F0 m 20 ls []) := by
  have hx := S.1
  have hb := S.2.1
  intro  σ H locs ls h  hw hl
  refine lv_bipush (v := (-3)) hx hb dX8_plan_20 (by decide) ?_
  exact ret_i S hr hlocks hw h dX8_plan_22
def wp_X8_plan_101 (x1 : Int32) (x2 : Int32) (post : Int32 → St → Prop) (xs0 : Int32) (σ : St) : Prop := post xs0 σ
set_option maxHeartbeats 4000000 in
set_option maxRecDepth 100000 in
theorem wk_X8_plan_101 {p : Program} {l : Launch} {e : Env} {s : State} {m : MethodId} {below : List Frame} {meth : Method} {c : Code} {D : va_G} {q : ClassId × ClassId × ClassId × ClassId} {ad : Nat → Nat → Nat} {t : Nat × Nat} {aK aV : Nat → Nat} {args : Array Value} (S : CallFix p m c cX8_plan 4 s args GW "OnChin") (V : EvC D q ad t aK aV s) (hr : meth.sig.returnType = (some .int)) (hlocks : meth.locks = false) (x1 : Int32) (x2 : Int32) (post : Int32 → St → Prop)  : ∀ (xs0 : Int32) (σ : St) (H : Heap) (locs : List Loc) (ls : Array Slot), wp_X8_plan_101 x1 x2 post xs0 σ → wo D clA LC ad s.heap H locs (EC q ad σ) → lv_has ls 4 [(0, .ref (ad 0 0)), (1, .int x1), (2, .int x2)] → W p l e { frames := 7, cells := 0, slots := 0, locals := 164 } s m args below meth c H locs 0 0 (MQ below (zQi D clA LC ad (EC q ad) post) args s 0 0 (zA LC ad)) (F0 m 101 ls [.int xs0]) := by
  have hx := S.1
  have hb := S.2.1
  intro xs0 σ H locs ls h  hw hl
  exact ret_i S hr hlocks hw h dX8_plan_101
def wp_X8_plan (x1 : Int32) (x2 : Int32) (post : Int32 → St → Prop)  (σ : St) : Prop := wp_X8_within x1 1 5 (fun r1 σ1 => ((r1 = 0 → wp_X8_plan_20 x1 x2 post  σ1) ∧ (¬ r1 = 0 → wp_X8_within x2 (-1) (x1 - 1) (fun r2 σ2 => ((¬ r2 = 0 → wp_X4_takeRule 0 (fun σ3 => wp_X1_tryAll (fun σ4 => wp_X1_firstBest (10 * (σ4 6 0 2)) x1 (fun r5 σ5 => ((¬ r5 = (-1) → ((¬ x2 = (-1) → wp_X1_thingOf r5 x1 x2 (fun r6 σ6 => wp_X8_plan_101 x1 x2 post r6 σ6) σ5) ∧ (x2 = (-1) → wp_X8_plan_101 x1 x2 post (σ5 17 0 0) σ5))) ∧ (r5 = (-1) → post (-1) σ5))) σ4) σ3) σ2) ∧ (r2 = 0 → wp_X8_plan_20 x1 x2 post  σ2))) σ1))) σ
set_option maxHeartbeats 4000000 in
set_option maxRecDepth 100000 in
theorem wk_X8_plan_0 {p : Program} {l : Launch} {e : Env} {s : State} {m : MethodId} {below : List Frame} {meth : Method} {c : Code} {D : va_G} {q : ClassId × ClassId × ClassId × ClassId} {ad : Nat → Nat → Nat} {t : Nat × Nat} {aK aV : Nat → Nat} {args : Array Value} (S : CallFix p m c cX8_plan 4 s args GW "OnChin") (V : EvC D q ad t aK aV s) (hr : meth.sig.returnType = (some .int)) (hlocks : meth.locks = false) (x1 : Int32) (x2 : Int32) (post : Int32 → St → Prop)  : ∀ (σ : St) (H : Heap) (locs : List Loc) (ls : Array Slot), wp_X8_plan x1 x2 post  σ → wo D clA LC ad s.heap H locs (EC q ad σ) → lv_has ls 4 [(0, .ref (ad 0 0)), (1, .int x1), (2, .int x2)] → W p l e { frames := 7, cells := 0, slots := 0, locals := 164 } s m args below meth c H locs 0 0 (MQ below (zQi D clA LC ad (EC q ad) post) args s 0 0 (zA LC ad)) (F0 m 0 ls []) := by
  have hx := S.1
  have hb := S.2.1
  intro  σ H locs ls h  hw hl
  have h : wp_X8_within x1 1 5 (fun r1 σ1 => ((r1 = 0 → wp_X8_plan_20 x1 x2 post  σ1) ∧ (¬ r1 = 0 → wp_X8_within x2 (-1) (x1 - 1) (fun r2 σ2 => ((¬ r2 = 0 → wp_X4_takeRule 0 (fun σ3 => wp_X1_tryAll (fun σ4 => wp_X1_firstBest (10 * (σ4 6 0 2)) x1 (fun r5 σ5 => ((¬ r5 = (-1) → ((¬ x2 = (-1) → wp_X1_thingOf r5 x1 x2 (fun r6 σ6 => wp_X8_plan_101 x1 x2 post r6 σ6) σ5) ∧ (x2 = (-1) → wp_X8_plan_101 x1 x2 post (σ5 17 0 0) σ5))) ∧ (r5 = (-1) → post (-1) σ5))) σ4) σ3) σ2) ∧ (r2 = 0 → wp_X8_plan_20 x1 x2 post  σ2))) σ1))) σ := h
  refine lv_iload_n hx hb dX8_plan_0 rfl (lv_at hl 1 rfl) ?_
  refine lv_iconst (v := 1) hx hb dX8_plan_1 (by decide) ?_
  refine lv_iconst (v := 5) hx hb dX8_plan_2 (by decide) ?_
  refine call_Si (As := [.int x1, .int 1, .int 5]) (rest := []) EvC_ok S V hw (mt_X8_within l D q ad t aK aV x1 1 5  σ _ h) ok_X8_within ml_X8_62 ⟨(Nat.le_of_ble_eq_true rfl), (Nat.le_of_ble_eq_true rfl)⟩ ⟨rfl, rfl⟩ rfl hl.1 rfl (Nat.le_of_ble_eq_true rfl) dX8_plan_3 (fun r1 σ1 H locs h hw => ?_)
  refine lv_if_eq (tgt := 20) hx hb dX8_plan_6 (by decide) (fun hc => ?_) (fun hc => ?_)
  · have h := h.1 hc
    exact wk_X8_plan_20 S V hr hlocks x1 x2   post   _ _ _ _ h  hw (lv_sub hl [0, 1, 2] rfl)
  · have h := h.2 hc
    refine lv_iload_n hx hb dX8_plan_9 rfl (lv_at hl 2 rfl) ?_
    refine lv_iconst (v := (-1)) hx hb dX8_plan_10 (by decide) ?_
    refine lv_iload_n hx hb dX8_plan_11 rfl (lv_at hl 1 rfl) ?_
    refine lv_iconst (v := 1) hx hb dX8_plan_12 (by decide) ?_
    refine lv_isub hx hb dX8_plan_13 ?_
    refine call_Si (As := [.int x2, .int (-1), .int (x1 - 1)]) (rest := []) EvC_ok S V hw (mt_X8_within l D q ad t aK aV x2 (-1) (x1 - 1)  σ1 _ h) ok_X8_within ml_X8_62 ⟨(Nat.le_of_ble_eq_true rfl), (Nat.le_of_ble_eq_true rfl)⟩ ⟨rfl, rfl⟩ rfl hl.1 rfl (Nat.le_of_ble_eq_true rfl) dX8_plan_14 (fun r2 σ2 H locs h hw => ?_)
    refine lv_if_ne (tgt := 23) hx hb dX8_plan_17 (by decide) (fun hc => ?_) (fun hc => ?_)
    · have h := h.1 hc
      refine lv_aload_n hx hb dX8_plan_23 rfl (lv_at hl 0 rfl) ?_
      refine gC_0_4 S V hw (Nat.le_of_ble_eq_true rfl) fl_X8_37 dX8_plan_24 ?_
      refine lv_aload_n hx hb dX8_plan_27 rfl (lv_at hl 0 rfl) ?_
      refine gC_0_0 S V hw (Nat.le_of_ble_eq_true rfl) fl_X8_12 dX8_plan_28 ?_
      refine gC_1_1 S V hw (Nat.le_of_ble_eq_true rfl) fl_X8_130 dX8_plan_31 ?_
      refine call_Vv (As := [.ref (ad 6 0)]) (rest := []) EvC_ok S V hw (mt_X4_takeRule l D q ad t aK aV 0 (Nat.le_of_ble_eq_true rfl) σ2 _ h) ok_X4_takeRule ml_X8_164 (rC_16 S V hw (Nat.le_of_ble_eq_true rfl)) ⟨(Nat.le_of_ble_eq_true rfl), (Nat.le_of_ble_eq_true rfl)⟩ ⟨rfl, rfl⟩ rfl hl.1 rfl (Nat.le_of_ble_eq_true rfl) dX8_plan_34 (fun σ3 H locs h hw => ?_)
      refine lv_aload_n hx hb dX8_plan_37 rfl (lv_at hl 0 rfl) ?_
      refine gC_0_5 S V hw (Nat.le_of_ble_eq_true rfl) fl_X8_44 dX8_plan_38 ?_
      refine lv_aload_n hx hb dX8_plan_41 rfl (lv_at hl 0 rfl) ?_
      refine gC_0_0 S V hw (Nat.le_of_ble_eq_true rfl) fl_X8_12 dX8_plan_42 ?_
      refine lv_aload_n hx hb dX8_plan_45 rfl (lv_at hl 0 rfl) ?_
      refine gC_0_4 S V hw (Nat.le_of_ble_eq_true rfl) fl_X8_37 dX8_plan_46 ?_
      refine call_Vv (As := [.ref (ad 1 0), .ref (ad 16 0)]) (rest := []) EvC_ok S V hw (mt_X1_tryAll l D q ad t aK aV   σ3 _ h) ok_X1_tryAll ml_X8_233 (rC_17 S V hw (Nat.le_of_ble_eq_true rfl)) ⟨(Nat.le_of_ble_eq_true rfl), (Nat.le_of_ble_eq_true rfl)⟩ ⟨rfl, rfl⟩ rfl hl.1 rfl (Nat.le_of_ble_eq_true rfl) dX8_plan_49 (fun σ4 H locs h hw => ?_)
      refine lv_aload_n hx hb dX8_plan_52 rfl (lv_at hl 0 rfl) ?_
      refine gC_0_5 S V hw (Nat.le_of_ble_eq_true rfl) fl_X8_44 dX8_plan_53 ?_
      refine lv_bipush (v := 10) hx hb dX8_plan_56 (by decide) ?_
      refine lv_aload_n hx hb dX8_plan_58 rfl (lv_at hl 0 rfl) ?_
      refine gC_0_0 S V hw (Nat.le_of_ble_eq_true rfl) fl_X8_12 dX8_plan_59 ?_
      refine gC_1_1 S V hw (Nat.le_of_ble_eq_true rfl) fl_X8_130 dX8_plan_62 ?_
      refine lv_iconst (v := 2) hx hb dX8_plan_65 (by decide) ?_
      refine aC_6 S V hw (Nat.le_of_ble_eq_true rfl) (vp_in_nI (n := 2) (Nat.le_of_ble_eq_true rfl) (Nat.le_of_ble_eq_true rfl)) (z := (σ4 6 0 2)) rfl dX8_plan_66 ?_
      refine lv_imul hx hb dX8_plan_67 ?_
      refine lv_iload_n hx hb dX8_plan_68 rfl (lv_at hl 1 rfl) ?_
      refine call_Vi (As := [.int (10 * (σ4 6 0 2)), .int x1]) (rest := []) EvC_ok S V hw (mt_X1_firstBest l D q ad t aK aV (10 * (σ4 6 0 2)) x1  σ4 _ h) ok_X1_firstBest ml_X8_237 (rC_17 S V hw (Nat.le_of_ble_eq_true rfl)) ⟨(Nat.le_of_ble_eq_true rfl), (Nat.le_of_ble_eq_true rfl)⟩ ⟨rfl, rfl⟩ rfl hl.1 rfl (Nat.le_of_ble_eq_true rfl) dX8_plan_69 (fun r5 σ5 H locs h hw => ?_)
      refine lv_istore_n (lv' := [(3, .int r5), (0, .ref (ad 0 0)), (1, .int x1), (2, .int x2)]) hx hb dX8_plan_72 rfl hl (by decide) rfl (fun ls hl => ?_)
      refine lv_iload_n hx hb dX8_plan_73 rfl (lv_at hl 0 rfl) ?_
      refine lv_iconst (v := (-1)) hx hb dX8_plan_74 (by decide) ?_
      refine lv_icmp_ne (tgt := 80) hx hb dX8_plan_75 (by decide) (fun hc => ?_) (fun hc => ?_)
      · have h := h.1 hc
        refine lv_iload_n hx hb dX8_plan_80 rfl (lv_at hl 3 rfl) ?_
        refine lv_iconst (v := (-1)) hx hb dX8_plan_81 (by decide) ?_
        refine lv_icmp_ne (tgt := 95) hx hb dX8_plan_82 (by decide) (fun hc => ?_) (fun hc => ?_)
        · have h := h.1 hc
          refine lv_iload_n hx hb dX8_plan_95 rfl (lv_at hl 0 rfl) ?_
          refine lv_iload_n hx hb dX8_plan_96 rfl (lv_at hl 2 rfl) ?_
          refine lv_iload_n hx hb dX8_plan_97 rfl (lv_at hl 3 rfl) ?_
          refine call_Si (As := [.int r5, .int x1, .int x2]) (rest := []) EvC_ok S V hw (mt_X1_thingOf l D q ad t aK aV r5 x1 x2  σ5 _ h) ok_X1_thingOf ml_X8_244 ⟨(Nat.le_of_ble_eq_true rfl), (Nat.le_of_ble_eq_true rfl)⟩ ⟨rfl, rfl⟩ rfl hl.1 rfl (Nat.le_of_ble_eq_true rfl) dX8_plan_98 (fun r6 σ6 H locs h hw => ?_)
          exact wk_X8_plan_101 S V hr hlocks x1 x2   post  r6 _ _ _ _ h  hw (lv_sub hl [1, 2, 3] rfl)
        · have h := h.2 hc
          refine lv_aload_n hx hb dX8_plan_85 rfl (lv_at hl 1 rfl) ?_
          refine gC_0_5 S V hw (Nat.le_of_ble_eq_true rfl) fl_X8_44 dX8_plan_86 ?_
          refine gC_17_0 S V hw (Nat.le_of_ble_eq_true rfl) fl_X8_241 rfl dX8_plan_89 ?_
          refine lv_goto (tgt := 101) hx hb dX8_plan_92 (by decide) ?_
          exact wk_X8_plan_101 S V hr hlocks x1 x2   post  (σ5 17 0 0) _ _ _ _ h  hw (lv_sub hl [1, 2, 3] rfl)
      · have h := h.2 hc
        refine lv_iconst (v := (-1)) hx hb dX8_plan_78 (by decide) ?_
        exact ret_i S hr hlocks hw h dX8_plan_79
    · have h := h.2 hc
      exact wk_X8_plan_20 S V hr hlocks x1 x2   post   _ _ _ _ h  hw (lv_sub hl [0, 1, 2] rfl)
theorem mt_X8_plan (l : Launch) (D : va_G) (q : ClassId × ClassId × ClassId × ClassId) (ad : Nat → Nat → Nat) (t : Nat × Nat) (aK aV : Nat → Nat) (x1 : Int32) (x2 : Int32) (σ : St) (post : Int32 → St → Prop) (h : wp_X8_plan x1 x2 post σ) : cI l D clA LC ad (EC q ad) (EvC D q ad t aK aV) yX8_plan cX8_plan 4 (some .int) { frames := 7, cells := 0, slots := 0, locals := 164 } [.ref (ad 0 0), .int x1, .int x2] σ post :=
  ent_i (by decide) (Nat.le_of_ble_eq_true rfl) (fun p e s m below meth c S V hr hlocks hw ls hl => wk_X8_plan_0 S V hr hlocks x1 x2  post   σ _ _ ls h  hw (lv_sub hl [0, 1, 2] rfl))
def wp_X8_room_34 (x1 : Int32) (x2 : Int32) (x3 : Int32) (post : Int32 → St → Prop)  (σ : St) : Prop := post (-3) σ
set_option maxHeartbeats 4000000 in
set_option maxRecDepth 100000 in
theorem wk_X8_room_34 {p : Program} {l : Launch} {e : Env} {s : State} {m : MethodId} {below : List Frame} {meth : Method} {c : Code} {D : va_G} {q : ClassId × ClassId × ClassId × ClassId} {ad : Nat → Nat → Nat} {t : Nat × Nat} {aK aV : Nat → Nat} {args : Array Value} (S : CallFix p m c cX8_room 5 s args GW "OnChin") (V : EvC D q ad t aK aV s) (hr : meth.sig.returnType = (some .int)) (hlocks : meth.locks = false) (x1 : Int32) (x2 : Int32) (x3 : Int32) (post : Int32 → St → Prop)  : ∀ (σ : St) (H : Heap) (locs : List Loc) (ls : Array Slot), wp_X8_room_34 x1 x2 x3 post  σ → wo D clA LC ad s.heap H locs (EC q ad σ) → lv_has ls 5 [(0, .ref (ad 0 0)), (1, .int x1), (2, .int x2), (3, .int x3)] → W p l e { frames := 1, cells := 0, slots := 0, locals := 22 } s m args below meth c H locs 0 0 (MQ below (zQi D clA LC ad (EC q ad) post) args s 0 0 (zA LC ad)) (F0 m 34 ls []) := by
  have hx := S.1
  have hb := S.2.1
  intro  σ H locs ls h  hw hl
  refine lv_bipush (v := (-3)) hx hb dX8_room_34 (by decide) ?_
  exact ret_i S hr hlocks hw h dX8_room_36
def wp_X8_room (x1 : Int32) (x2 : Int32) (x3 : Int32) (post : Int32 → St → Prop)  (σ : St) : Prop := wp_X8_within x1 0 35 (fun r1 σ1 => ((¬ r1 = 0 → wp_X8_within x2 0 99 (fun r2 σ2 => ((r2 = 0 → wp_X8_room_34 x1 x2 x3 post  σ2) ∧ (¬ r2 = 0 → wp_X8_within x3 0 300 (fun r3 σ3 => ((¬ r3 = 0 → (vp_in x1 36 ∧ (vp_in x1 36 ∧ (vp_in x1 36 ∧ post (σ3 23 0 x1.toNatClampNeg) (su (su σ3 23 0 x1.toNatClampNeg x2) 24 0 x1.toNatClampNeg x3))))) ∧ (r3 = 0 → wp_X8_room_34 x1 x2 x3 post  σ3))) σ2))) σ1) ∧ (r1 = 0 → post (-2) σ1))) σ
set_option maxHeartbeats 4000000 in
set_option maxRecDepth 100000 in
theorem wk_X8_room_0 {p : Program} {l : Launch} {e : Env} {s : State} {m : MethodId} {below : List Frame} {meth : Method} {c : Code} {D : va_G} {q : ClassId × ClassId × ClassId × ClassId} {ad : Nat → Nat → Nat} {t : Nat × Nat} {aK aV : Nat → Nat} {args : Array Value} (S : CallFix p m c cX8_room 5 s args GW "OnChin") (V : EvC D q ad t aK aV s) (hr : meth.sig.returnType = (some .int)) (hlocks : meth.locks = false) (x1 : Int32) (x2 : Int32) (x3 : Int32) (post : Int32 → St → Prop)  : ∀ (σ : St) (H : Heap) (locs : List Loc) (ls : Array Slot), wp_X8_room x1 x2 x3 post  σ → wo D clA LC ad s.heap H locs (EC q ad σ) → lv_has ls 5 [(0, .ref (ad 0 0)), (1, .int x1), (2, .int x2), (3, .int x3)] → W p l e { frames := 1, cells := 0, slots := 0, locals := 22 } s m args below meth c H locs 0 0 (MQ below (zQi D clA LC ad (EC q ad) post) args s 0 0 (zA LC ad)) (F0 m 0 ls []) := by
  have hx := S.1
  have hb := S.2.1
  intro  σ H locs ls h  hw hl
  have h : wp_X8_within x1 0 35 (fun r1 σ1 => ((¬ r1 = 0 → wp_X8_within x2 0 99 (fun r2 σ2 => ((r2 = 0 → wp_X8_room_34 x1 x2 x3 post  σ2) ∧ (¬ r2 = 0 → wp_X8_within x3 0 300 (fun r3 σ3 => ((¬ r3 = 0 → (vp_in x1 36 ∧ (vp_in x1 36 ∧ (vp_in x1 36 ∧ post (σ3 23 0 x1.toNatClampNeg) (su (su σ3 23 0 x1.toNatClampNeg x2) 24 0 x1.toNatClampNeg x3))))) ∧ (r3 = 0 → wp_X8_room_34 x1 x2 x3 post  σ3))) σ2))) σ1) ∧ (r1 = 0 → post (-2) σ1))) σ := h
  refine lv_iload_n hx hb dX8_room_0 rfl (lv_at hl 1 rfl) ?_
  refine lv_iconst (v := 0) hx hb dX8_room_1 (by decide) ?_
  refine lv_bipush (v := 35) hx hb dX8_room_2 (by decide) ?_
  refine call_Si (As := [.int x1, .int 0, .int 35]) (rest := []) EvC_ok S V hw (mt_X8_within l D q ad t aK aV x1 0 35  σ _ h) ok_X8_within ml_X8_62 ⟨(Nat.le_of_ble_eq_true rfl), (Nat.le_of_ble_eq_true rfl)⟩ ⟨rfl, rfl⟩ rfl hl.1 rfl (Nat.le_of_ble_eq_true rfl) dX8_room_4 (fun r1 σ1 H locs h hw => ?_)
  refine lv_if_ne (tgt := 13) hx hb dX8_room_7 (by decide) (fun hc => ?_) (fun hc => ?_)
  · have h := h.1 hc
    refine lv_iload_n hx hb dX8_room_13 rfl (lv_at hl 2 rfl) ?_
    refine lv_iconst (v := 0) hx hb dX8_room_14 (by decide) ?_
    refine lv_bipush (v := 99) hx hb dX8_room_15 (by decide) ?_
    refine call_Si (As := [.int x2, .int 0, .int 99]) (rest := []) EvC_ok S V hw (mt_X8_within l D q ad t aK aV x2 0 99  σ1 _ h) ok_X8_within ml_X8_62 ⟨(Nat.le_of_ble_eq_true rfl), (Nat.le_of_ble_eq_true rfl)⟩ ⟨rfl, rfl⟩ rfl hl.1 rfl (Nat.le_of_ble_eq_true rfl) dX8_room_17 (fun r2 σ2 H locs h hw => ?_)
    refine lv_if_eq (tgt := 34) hx hb dX8_room_20 (by decide) (fun hc => ?_) (fun hc => ?_)
    · have h := h.1 hc
      exact wk_X8_room_34 S V hr hlocks x1 x2 x3   post   _ _ _ _ h  hw (lv_sub hl [0, 1, 2, 3] rfl)
    · have h := h.2 hc
      refine lv_iload_n hx hb dX8_room_23 rfl (lv_at hl 3 rfl) ?_
      refine lv_iconst (v := 0) hx hb dX8_room_24 (by decide) ?_
      refine lv_sipush (v := 300) hx hb dX8_room_25 (by decide) ?_
      refine call_Si (As := [.int x3, .int 0, .int 300]) (rest := []) EvC_ok S V hw (mt_X8_within l D q ad t aK aV x3 0 300  σ2 _ h) ok_X8_within ml_X8_62 ⟨(Nat.le_of_ble_eq_true rfl), (Nat.le_of_ble_eq_true rfl)⟩ ⟨rfl, rfl⟩ rfl hl.1 rfl (Nat.le_of_ble_eq_true rfl) dX8_room_28 (fun r3 σ3 H locs h hw => ?_)
      refine lv_if_ne (tgt := 37) hx hb dX8_room_31 (by decide) (fun hc => ?_) (fun hc => ?_)
      · have h := h.1 hc
        refine lv_aload_n hx hb dX8_room_37 rfl (lv_at hl 0 rfl) ?_
        refine gC_0_7 S V hw (Nat.le_of_ble_eq_true rfl) fl_X8_58 dX8_room_38 ?_
        refine gC_22_0 S V hw (Nat.le_of_ble_eq_true rfl) fl_X8_247 dX8_room_41 ?_
        refine lv_iload_n hx hb dX8_room_44 rfl (lv_at hl 1 rfl) ?_
        refine aC_23 S V hw (Nat.le_of_ble_eq_true rfl) h.1 (z := (σ3 23 0 x1.toNatClampNeg)) rfl dX8_room_45 ?_
        have h := h.2
        refine lv_istore (lv' := [(4, .int (σ3 23 0 x1.toNatClampNeg)), (0, .ref (ad 0 0)), (1, .int x1), (2, .int x2), (3, .int x3)]) hx hb dX8_room_46 hl (by decide) rfl (fun ls hl => ?_)
        refine lv_aload_n hx hb dX8_room_48 rfl (lv_at hl 1 rfl) ?_
        refine gC_0_7 S V hw (Nat.le_of_ble_eq_true rfl) fl_X8_58 dX8_room_49 ?_
        refine gC_22_0 S V hw (Nat.le_of_ble_eq_true rfl) fl_X8_247 dX8_room_52 ?_
        refine lv_iload_n hx hb dX8_room_55 rfl (lv_at hl 2 rfl) ?_
        refine lv_iload_n hx hb dX8_room_56 rfl (lv_at hl 3 rfl) ?_
        refine sC_23 S V hw (Nat.le_of_ble_eq_true rfl) h.1 dX8_room_57 (fun H locs hw => ?_)
        have h := h.2
        refine lv_aload_n hx hb dX8_room_58 rfl (lv_at hl 1 rfl) ?_
        refine gC_0_7 S V hw (Nat.le_of_ble_eq_true rfl) fl_X8_58 dX8_room_59 ?_
        refine gC_22_1 S V hw (Nat.le_of_ble_eq_true rfl) fl_X8_250 dX8_room_62 ?_
        refine lv_iload_n hx hb dX8_room_65 rfl (lv_at hl 2 rfl) ?_
        refine lv_iload_n hx hb dX8_room_66 rfl (lv_at hl 4 rfl) ?_
        refine sC_24 S V hw (Nat.le_of_ble_eq_true rfl) h.1 dX8_room_67 (fun H locs hw => ?_)
        have h := h.2
        refine lv_iload hx hb dX8_room_68 (lv_at hl 0 rfl) ?_
        exact ret_i S hr hlocks hw h dX8_room_70
      · have h := h.2 hc
        exact wk_X8_room_34 S V hr hlocks x1 x2 x3   post   _ _ _ _ h  hw (lv_sub hl [0, 1, 2, 3] rfl)
  · have h := h.2 hc
    refine lv_bipush (v := (-2)) hx hb dX8_room_10 (by decide) ?_
    exact ret_i S hr hlocks hw h dX8_room_12
theorem mt_X8_room (l : Launch) (D : va_G) (q : ClassId × ClassId × ClassId × ClassId) (ad : Nat → Nat → Nat) (t : Nat × Nat) (aK aV : Nat → Nat) (x1 : Int32) (x2 : Int32) (x3 : Int32) (σ : St) (post : Int32 → St → Prop) (h : wp_X8_room x1 x2 x3 post σ) : cI l D clA LC ad (EC q ad) (EvC D q ad t aK aV) yX8_room cX8_room 5 (some .int) { frames := 1, cells := 0, slots := 0, locals := 22 } [.ref (ad 0 0), .int x1, .int x2, .int x3] σ post :=
  ent_i (by decide) (Nat.le_of_ble_eq_true rfl) (fun p e s m below meth c S V hr hlocks hw ls hl => wk_X8_room_0 S V hr hlocks x1 x2 x3  post   σ _ _ ls h  hw (lv_sub hl [0, 1, 2, 3] rfl))
def wp_X8_way_27 (x1 : Int32) (x2 : Int32) (x3 : Int32) (x4 : Int32) (x5 : Int32) (post : Int32 → St → Prop)  (σ : St) : Prop := post (-2) σ
set_option maxHeartbeats 4000000 in
set_option maxRecDepth 100000 in
theorem wk_X8_way_27 {p : Program} {l : Launch} {e : Env} {s : State} {m : MethodId} {below : List Frame} {meth : Method} {c : Code} {D : va_G} {q : ClassId × ClassId × ClassId × ClassId} {ad : Nat → Nat → Nat} {t : Nat × Nat} {aK aV : Nat → Nat} {args : Array Value} (S : CallFix p m c cX8_way 6 s args GW "OnChin") (V : EvC D q ad t aK aV s) (hr : meth.sig.returnType = (some .int)) (hlocks : meth.locks = false) (x1 : Int32) (x2 : Int32) (x3 : Int32) (x4 : Int32) (x5 : Int32) (post : Int32 → St → Prop)  : ∀ (σ : St) (H : Heap) (locs : List Loc) (ls : Array Slot), wp_X8_way_27 x1 x2 x3 x4 x5 post  σ → wo D clA LC ad s.heap H locs (EC q ad σ) → lv_has ls 6 [(0, .ref (ad 0 0)), (1, .int x1), (2, .int x2), (3, .int x3), (4, .int x4), (5, .int x5)] → W p l e { frames := 3, cells := 0, slots := 0, locals := 71 } s m args below meth c H locs 0 0 (MQ below (zQi D clA LC ad (EC q ad) post) args s 0 0 (zA LC ad)) (F0 m 27 ls []) := by
  have hx := S.1
  have hb := S.2.1
  intro  σ H locs ls h  hw hl
  refine lv_bipush (v := (-2)) hx hb dX8_way_27 (by decide) ?_
  exact ret_i S hr hlocks hw h dX8_way_29
def wp_X8_way_51 (x1 : Int32) (x2 : Int32) (x3 : Int32) (x4 : Int32) (x5 : Int32) (post : Int32 → St → Prop)  (σ : St) : Prop := post (-3) σ
set_option maxHeartbeats 4000000 in
set_option maxRecDepth 100000 in
theorem wk_X8_way_51 {p : Program} {l : Launch} {e : Env} {s : State} {m : MethodId} {below : List Frame} {meth : Method} {c : Code} {D : va_G} {q : ClassId × ClassId × ClassId × ClassId} {ad : Nat → Nat → Nat} {t : Nat × Nat} {aK aV : Nat → Nat} {args : Array Value} (S : CallFix p m c cX8_way 6 s args GW "OnChin") (V : EvC D q ad t aK aV s) (hr : meth.sig.returnType = (some .int)) (hlocks : meth.locks = false) (x1 : Int32) (x2 : Int32) (x3 : Int32) (x4 : Int32) (x5 : Int32) (post : Int32 → St → Prop)  : ∀ (σ : St) (H : Heap) (locs : List Loc) (ls : Array Slot), wp_X8_way_51 x1 x2 x3 x4 x5 post  σ → wo D clA LC ad s.heap H locs (EC q ad σ) → lv_has ls 6 [(0, .ref (ad 0 0)), (1, .int x1), (2, .int x2), (3, .int x3), (4, .int x4), (5, .int x5)] → W p l e { frames := 3, cells := 0, slots := 0, locals := 71 } s m args below meth c H locs 0 0 (MQ below (zQi D clA LC ad (EC q ad) post) args s 0 0 (zA LC ad)) (F0 m 51 ls []) := by
  have hx := S.1
  have hb := S.2.1
  intro  σ H locs ls h  hw hl
  refine lv_bipush (v := (-3)) hx hb dX8_way_51 (by decide) ?_
  exact ret_i S hr hlocks hw h dX8_way_53
def wp_X8_way_113 (x1 : Int32) (x2 : Int32) (x3 : Int32) (x4 : Int32) (x5 : Int32) (post : Int32 → St → Prop) (xs0 : Int32) (σ : St) : Prop := post xs0 σ
set_option maxHeartbeats 4000000 in
set_option maxRecDepth 100000 in
theorem wk_X8_way_113 {p : Program} {l : Launch} {e : Env} {s : State} {m : MethodId} {below : List Frame} {meth : Method} {c : Code} {D : va_G} {q : ClassId × ClassId × ClassId × ClassId} {ad : Nat → Nat → Nat} {t : Nat × Nat} {aK aV : Nat → Nat} {args : Array Value} (S : CallFix p m c cX8_way 6 s args GW "OnChin") (V : EvC D q ad t aK aV s) (hr : meth.sig.returnType = (some .int)) (hlocks : meth.locks = false) (x1 : Int32) (x2 : Int32) (x3 : Int32) (x4 : Int32) (x5 : Int32) (post : Int32 → St → Prop)  : ∀ (xs0 : Int32) (σ : St) (H : Heap) (locs : List Loc) (ls : Array Slot), wp_X8_way_113 x1 x2 x3 x4 x5 post xs0 σ → wo D clA LC ad s.heap H locs (EC q ad σ) → lv_has ls 6 [(0, .ref (ad 0 0)), (1, .int x1), (2, .int x2), (3, .int x3), (4, .int x4), (5, .int x5)] → W p l e { frames := 3, cells := 0, slots := 0, locals := 71 } s m args below meth c H locs 0 0 (MQ below (zQi D clA LC ad (EC q ad) post) args s 0 0 (zA LC ad)) (F0 m 113 ls [.int xs0]) := by
  have hx := S.1
  have hb := S.2.1
  intro xs0 σ H locs ls h  hw hl
  exact ret_i S hr hlocks hw h dX8_way_113
def wp_X8_way (x1 : Int32) (x2 : Int32) (x3 : Int32) (x4 : Int32) (x5 : Int32) (post : Int32 → St → Prop)  (σ : St) : Prop := wp_X8_isThing x1 (fun r1 σ1 => ((r1 = 0 → wp_X8_way_27 x1 x2 x3 x4 x5 post  σ1) ∧ (¬ r1 = 0 → wp_X8_within x2 0 35 (fun r2 σ2 => ((r2 = 0 → wp_X8_way_27 x1 x2 x3 x4 x5 post  σ2) ∧ (¬ r2 = 0 → wp_X8_within x3 0 35 (fun r3 σ3 => ((¬ r3 = 0 → wp_X8_within x4 0 99 (fun r4 σ4 => ((r4 = 0 → wp_X8_way_51 x1 x2 x3 x4 x5 post  σ4) ∧ (¬ r4 = 0 → wp_X8_within x5 0 1 (fun r5 σ5 => ((¬ r5 = 0 → wp_X8_hasLumps x1 (fun r6 σ6 => ((¬ r6 = 0 → (vp_in x1 4 ∧ wp_X3_walk x2 x4 (σ6 2 x1.toNatClampNeg 4) (fun σ8 => ((¬ x5 = 0 → (vp_in x3 36 ∧ wp_X8_way_113 x1 x2 x3 x4 x5 post (σ8 26 0 x3.toNatClampNeg) σ8)) ∧ (x5 = 0 → (vp_in x3 36 ∧ wp_X8_way_113 x1 x2 x3 x4 x5 post (σ8 25 0 x3.toNatClampNeg) σ8)))) σ6)) ∧ (r6 = 0 → post (-4) σ6))) σ5) ∧ (r5 = 0 → wp_X8_way_51 x1 x2 x3 x4 x5 post  σ5))) σ4))) σ3) ∧ (r3 = 0 → wp_X8_way_27 x1 x2 x3 x4 x5 post  σ3))) σ2))) σ1))) σ
set_option maxHeartbeats 4000000 in
set_option maxRecDepth 100000 in
theorem wk_X8_way_0 {p : Program} {l : Launch} {e : Env} {s : State} {m : MethodId} {below : List Frame} {meth : Method} {c : Code} {D : va_G} {q : ClassId × ClassId × ClassId × ClassId} {ad : Nat → Nat → Nat} {t : Nat × Nat} {aK aV : Nat → Nat} {args : Array Value} (S : CallFix p m c cX8_way 6 s args GW "OnChin") (V : EvC D q ad t aK aV s) (hr : meth.sig.returnType = (some .int)) (hlocks : meth.locks = false) (x1 : Int32) (x2 : Int32) (x3 : Int32) (x4 : Int32) (x5 : Int32) (post : Int32 → St → Prop)  : ∀ (σ : St) (H : Heap) (locs : List Loc) (ls : Array Slot), wp_X8_way x1 x2 x3 x4 x5 post  σ → wo D clA LC ad s.heap H locs (EC q ad σ) → lv_has ls 6 [(0, .ref (ad 0 0)), (1, .int x1), (2, .int x2), (3, .int x3), (4, .int x4), (5, .int x5)] → W p l e { frames := 3, cells := 0, slots := 0, locals := 71 } s m args below meth c H locs 0 0 (MQ below (zQi D clA LC ad (EC q ad) post) args s 0 0 (zA LC ad)) (F0 m 0 ls []) := by
  have hx := S.1
  have hb := S.2.1
  intro  σ H locs ls h  hw hl
  have h : wp_X8_isThing x1 (fun r1 σ1 => ((r1 = 0 → wp_X8_way_27 x1 x2 x3 x4 x5 post  σ1) ∧ (¬ r1 = 0 → wp_X8_within x2 0 35 (fun r2 σ2 => ((r2 = 0 → wp_X8_way_27 x1 x2 x3 x4 x5 post  σ2) ∧ (¬ r2 = 0 → wp_X8_within x3 0 35 (fun r3 σ3 => ((¬ r3 = 0 → wp_X8_within x4 0 99 (fun r4 σ4 => ((r4 = 0 → wp_X8_way_51 x1 x2 x3 x4 x5 post  σ4) ∧ (¬ r4 = 0 → wp_X8_within x5 0 1 (fun r5 σ5 => ((¬ r5 = 0 → wp_X8_hasLumps x1 (fun r6 σ6 => ((¬ r6 = 0 → (vp_in x1 4 ∧ wp_X3_walk x2 x4 (σ6 2 x1.toNatClampNeg 4) (fun σ8 => ((¬ x5 = 0 → (vp_in x3 36 ∧ wp_X8_way_113 x1 x2 x3 x4 x5 post (σ8 26 0 x3.toNatClampNeg) σ8)) ∧ (x5 = 0 → (vp_in x3 36 ∧ wp_X8_way_113 x1 x2 x3 x4 x5 post (σ8 25 0 x3.toNatClampNeg) σ8)))) σ6)) ∧ (r6 = 0 → post (-4) σ6))) σ5) ∧ (r5 = 0 → wp_X8_way_51 x1 x2 x3 x4 x5 post  σ5))) σ4))) σ3) ∧ (r3 = 0 → wp_X8_way_27 x1 x2 x3 x4 x5 post  σ3))) σ2))) σ1))) σ := h
  refine lv_iload_n hx hb dX8_way_0 rfl (lv_at hl 1 rfl) ?_
  refine call_Si (As := [.int x1]) (rest := []) EvC_ok S V hw (mt_X8_isThing l D q ad t aK aV x1  σ _ h) ok_X8_isThing ml_X8_87 ⟨(Nat.le_of_ble_eq_true rfl), (Nat.le_of_ble_eq_true rfl)⟩ ⟨rfl, rfl⟩ rfl hl.1 rfl (Nat.le_of_ble_eq_true rfl) dX8_way_1 (fun r1 σ1 H locs h hw => ?_)
  refine lv_if_eq (tgt := 27) hx hb dX8_way_4 (by decide) (fun hc => ?_) (fun hc => ?_)
  · have h := h.1 hc
    exact wk_X8_way_27 S V hr hlocks x1 x2 x3 x4 x5   post   _ _ _ _ h  hw (lv_sub hl [0, 1, 2, 3, 4, 5] rfl)
  · have h := h.2 hc
    refine lv_iload_n hx hb dX8_way_7 rfl (lv_at hl 2 rfl) ?_
    refine lv_iconst (v := 0) hx hb dX8_way_8 (by decide) ?_
    refine lv_bipush (v := 35) hx hb dX8_way_9 (by decide) ?_
    refine call_Si (As := [.int x2, .int 0, .int 35]) (rest := []) EvC_ok S V hw (mt_X8_within l D q ad t aK aV x2 0 35  σ1 _ h) ok_X8_within ml_X8_62 ⟨(Nat.le_of_ble_eq_true rfl), (Nat.le_of_ble_eq_true rfl)⟩ ⟨rfl, rfl⟩ rfl hl.1 rfl (Nat.le_of_ble_eq_true rfl) dX8_way_11 (fun r2 σ2 H locs h hw => ?_)
    refine lv_if_eq (tgt := 27) hx hb dX8_way_14 (by decide) (fun hc => ?_) (fun hc => ?_)
    · have h := h.1 hc
      exact wk_X8_way_27 S V hr hlocks x1 x2 x3 x4 x5   post   _ _ _ _ h  hw (lv_sub hl [0, 1, 2, 3, 4, 5] rfl)
    · have h := h.2 hc
      refine lv_iload_n hx hb dX8_way_17 rfl (lv_at hl 3 rfl) ?_
      refine lv_iconst (v := 0) hx hb dX8_way_18 (by decide) ?_
      refine lv_bipush (v := 35) hx hb dX8_way_19 (by decide) ?_
      refine call_Si (As := [.int x3, .int 0, .int 35]) (rest := []) EvC_ok S V hw (mt_X8_within l D q ad t aK aV x3 0 35  σ2 _ h) ok_X8_within ml_X8_62 ⟨(Nat.le_of_ble_eq_true rfl), (Nat.le_of_ble_eq_true rfl)⟩ ⟨rfl, rfl⟩ rfl hl.1 rfl (Nat.le_of_ble_eq_true rfl) dX8_way_21 (fun r3 σ3 H locs h hw => ?_)
      refine lv_if_ne (tgt := 30) hx hb dX8_way_24 (by decide) (fun hc => ?_) (fun hc => ?_)
      · have h := h.1 hc
        refine lv_iload hx hb dX8_way_30 (lv_at hl 4 rfl) ?_
        refine lv_iconst (v := 0) hx hb dX8_way_32 (by decide) ?_
        refine lv_bipush (v := 99) hx hb dX8_way_33 (by decide) ?_
        refine call_Si (As := [.int x4, .int 0, .int 99]) (rest := []) EvC_ok S V hw (mt_X8_within l D q ad t aK aV x4 0 99  σ3 _ h) ok_X8_within ml_X8_62 ⟨(Nat.le_of_ble_eq_true rfl), (Nat.le_of_ble_eq_true rfl)⟩ ⟨rfl, rfl⟩ rfl hl.1 rfl (Nat.le_of_ble_eq_true rfl) dX8_way_35 (fun r4 σ4 H locs h hw => ?_)
        refine lv_if_eq (tgt := 51) hx hb dX8_way_38 (by decide) (fun hc => ?_) (fun hc => ?_)
        · have h := h.1 hc
          exact wk_X8_way_51 S V hr hlocks x1 x2 x3 x4 x5   post   _ _ _ _ h  hw (lv_sub hl [0, 1, 2, 3, 4, 5] rfl)
        · have h := h.2 hc
          refine lv_iload hx hb dX8_way_41 (lv_at hl 5 rfl) ?_
          refine lv_iconst (v := 0) hx hb dX8_way_43 (by decide) ?_
          refine lv_iconst (v := 1) hx hb dX8_way_44 (by decide) ?_
          refine call_Si (As := [.int x5, .int 0, .int 1]) (rest := []) EvC_ok S V hw (mt_X8_within l D q ad t aK aV x5 0 1  σ4 _ h) ok_X8_within ml_X8_62 ⟨(Nat.le_of_ble_eq_true rfl), (Nat.le_of_ble_eq_true rfl)⟩ ⟨rfl, rfl⟩ rfl hl.1 rfl (Nat.le_of_ble_eq_true rfl) dX8_way_45 (fun r5 σ5 H locs h hw => ?_)
          refine lv_if_ne (tgt := 54) hx hb dX8_way_48 (by decide) (fun hc => ?_) (fun hc => ?_)
          · have h := h.1 hc
            refine lv_aload_n hx hb dX8_way_54 rfl (lv_at hl 0 rfl) ?_
            refine lv_iload_n hx hb dX8_way_55 rfl (lv_at hl 1 rfl) ?_
            refine call_Vi (As := [.int x1]) (rest := []) EvC_ok S V hw (mt_X8_hasLumps l D q ad t aK aV x1  σ5 _ h) ok_X8_hasLumps ml_X8_137 (rC_0 S V hw (Nat.le_of_ble_eq_true rfl)) ⟨(Nat.le_of_ble_eq_true rfl), (Nat.le_of_ble_eq_true rfl)⟩ ⟨rfl, rfl⟩ rfl hl.1 rfl (Nat.le_of_ble_eq_true rfl) dX8_way_56 (fun r6 σ6 H locs h hw => ?_)
            refine lv_if_ne (tgt := 65) hx hb dX8_way_59 (by decide) (fun hc => ?_) (fun hc => ?_)
            · have h := h.1 hc
              refine lv_aload_n hx hb dX8_way_65 rfl (lv_at hl 0 rfl) ?_
              refine gC_0_7 S V hw (Nat.le_of_ble_eq_true rfl) fl_X8_58 dX8_way_66 ?_
              refine lv_iload_n hx hb dX8_way_69 rfl (lv_at hl 2 rfl) ?_
              refine lv_iload hx hb dX8_way_70 (lv_at hl 4 rfl) ?_
              refine lv_aload_n hx hb dX8_way_72 rfl (lv_at hl 0 rfl) ?_
              refine gC_0_0 S V hw (Nat.le_of_ble_eq_true rfl) fl_X8_12 dX8_way_73 ?_
              refine gC_1_0 S V hw (Nat.le_of_ble_eq_true rfl) fl_X8_91 dX8_way_76 ?_
              refine lv_iload_n hx hb dX8_way_79 rfl (lv_at hl 1 rfl) ?_
              have hv7 := h.1
              have h := h.2
              refine aC_5 S V hw (Nat.le_of_ble_eq_true rfl) hv7 dX8_way_80 ?_
              refine gC_2_4 S V hw (vin_lt hv7 (Nat.le_of_ble_eq_true rfl)) fl_X8_109 rfl dX8_way_81 ?_
              refine call_Vv (As := [.int x2, .int x4, .int (σ6 2 x1.toNatClampNeg 4)]) (rest := []) EvC_ok S V hw (mt_X3_walk l D q ad t aK aV x2 x4 (σ6 2 x1.toNatClampNeg 4)  σ6 _ h) ok_X3_walk ml_X8_253 (rC_22 S V hw (Nat.le_of_ble_eq_true rfl)) ⟨(Nat.le_of_ble_eq_true rfl), (Nat.le_of_ble_eq_true rfl)⟩ ⟨rfl, rfl⟩ rfl hl.1 rfl (Nat.le_of_ble_eq_true rfl) dX8_way_84 (fun σ8 H locs h hw => ?_)
              refine lv_iload hx hb dX8_way_87 (lv_at hl 5 rfl) ?_
              refine lv_if_ne (tgt := 104) hx hb dX8_way_89 (by decide) (fun hc => ?_) (fun hc => ?_)
              · have h := h.1 hc
                refine lv_aload_n hx hb dX8_way_104 rfl (lv_at hl 0 rfl) ?_
                refine gC_0_7 S V hw (Nat.le_of_ble_eq_true rfl) fl_X8_58 dX8_way_105 ?_
                refine gC_22_3 S V hw (Nat.le_of_ble_eq_true rfl) fl_X8_259 dX8_way_108 ?_
                refine lv_iload_n hx hb dX8_way_111 rfl (lv_at hl 3 rfl) ?_
                refine aC_26 S V hw (Nat.le_of_ble_eq_true rfl) h.1 (z := (σ8 26 0 x3.toNatClampNeg)) rfl dX8_way_112 ?_
                have h := h.2
                exact wk_X8_way_113 S V hr hlocks x1 x2 x3 x4 x5   post  (σ8 26 0 x3.toNatClampNeg) _ _ _ _ h  hw (lv_sub hl [0, 1, 2, 3, 4, 5] rfl)
              · have h := h.2 hc
                refine lv_aload_n hx hb dX8_way_92 rfl (lv_at hl 0 rfl) ?_
                refine gC_0_7 S V hw (Nat.le_of_ble_eq_true rfl) fl_X8_58 dX8_way_93 ?_
                refine gC_22_2 S V hw (Nat.le_of_ble_eq_true rfl) fl_X8_256 dX8_way_96 ?_
                refine lv_iload_n hx hb dX8_way_99 rfl (lv_at hl 3 rfl) ?_
                refine aC_25 S V hw (Nat.le_of_ble_eq_true rfl) h.1 (z := (σ8 25 0 x3.toNatClampNeg)) rfl dX8_way_100 ?_
                have h := h.2
                refine lv_goto (tgt := 113) hx hb dX8_way_101 (by decide) ?_
                exact wk_X8_way_113 S V hr hlocks x1 x2 x3 x4 x5   post  (σ8 25 0 x3.toNatClampNeg) _ _ _ _ h  hw (lv_sub hl [0, 1, 2, 3, 4, 5] rfl)
            · have h := h.2 hc
              refine lv_bipush (v := (-4)) hx hb dX8_way_62 (by decide) ?_
              exact ret_i S hr hlocks hw h dX8_way_64
          · have h := h.2 hc
            exact wk_X8_way_51 S V hr hlocks x1 x2 x3 x4 x5   post   _ _ _ _ h  hw (lv_sub hl [0, 1, 2, 3, 4, 5] rfl)
      · have h := h.2 hc
        exact wk_X8_way_27 S V hr hlocks x1 x2 x3 x4 x5   post   _ _ _ _ h  hw (lv_sub hl [0, 1, 2, 3, 4, 5] rfl)
theorem mt_X8_way (l : Launch) (D : va_G) (q : ClassId × ClassId × ClassId × ClassId) (ad : Nat → Nat → Nat) (t : Nat × Nat) (aK aV : Nat → Nat) (x1 : Int32) (x2 : Int32) (x3 : Int32) (x4 : Int32) (x5 : Int32) (σ : St) (post : Int32 → St → Prop) (h : wp_X8_way x1 x2 x3 x4 x5 post σ) : cI l D clA LC ad (EC q ad) (EvC D q ad t aK aV) yX8_way cX8_way 6 (some .int) { frames := 3, cells := 0, slots := 0, locals := 71 } [.ref (ad 0 0), .int x1, .int x2, .int x3, .int x4, .int x5] σ post :=
  ent_i (by decide) (Nat.le_of_ble_eq_true rfl) (fun p e s m below meth c S V hr hlocks hw ls hl => wk_X8_way_0 S V hr hlocks x1 x2 x3 x4 x5  post   σ _ _ ls h  hw (lv_sub hl [0, 1, 2, 3, 4, 5] rfl))
def wp_X8_count (x1 : Int32) (post : Int32 → St → Prop)  (σ : St) : Prop := wp_X8_within x1 0 11 (fun r1 σ1 => ((¬ r1 = 0 → ((x1 = 10 → post (σ1 19 0 0) σ1) ∧ (¬ x1 = 10 → ((x1 = 11 → post (σ1 7 0 1) σ1) ∧ (¬ x1 = 11 → (vp_in x1 10 ∧ post (σ1 6 0 x1.toNatClampNeg) σ1)))))) ∧ (r1 = 0 → post (-3) σ1))) σ
set_option maxHeartbeats 4000000 in
set_option maxRecDepth 100000 in
theorem wk_X8_count_0 {p : Program} {l : Launch} {e : Env} {s : State} {m : MethodId} {below : List Frame} {meth : Method} {c : Code} {D : va_G} {q : ClassId × ClassId × ClassId × ClassId} {ad : Nat → Nat → Nat} {t : Nat × Nat} {aK aV : Nat → Nat} {args : Array Value} (S : CallFix p m c cX8_count 2 s args GW "OnChin") (V : EvC D q ad t aK aV s) (hr : meth.sig.returnType = (some .int)) (hlocks : meth.locks = false) (x1 : Int32) (post : Int32 → St → Prop)  : ∀ (σ : St) (H : Heap) (locs : List Loc) (ls : Array Slot), wp_X8_count x1 post  σ → wo D clA LC ad s.heap H locs (EC q ad σ) → lv_has ls 2 [(0, .ref (ad 0 0)), (1, .int x1)] → W p l e { frames := 1, cells := 0, slots := 0, locals := 22 } s m args below meth c H locs 0 0 (MQ below (zQi D clA LC ad (EC q ad) post) args s 0 0 (zA LC ad)) (F0 m 0 ls []) := by
  have hx := S.1
  have hb := S.2.1
  intro  σ H locs ls h  hw hl
  have h : wp_X8_within x1 0 11 (fun r1 σ1 => ((¬ r1 = 0 → ((x1 = 10 → post (σ1 19 0 0) σ1) ∧ (¬ x1 = 10 → ((x1 = 11 → post (σ1 7 0 1) σ1) ∧ (¬ x1 = 11 → (vp_in x1 10 ∧ post (σ1 6 0 x1.toNatClampNeg) σ1)))))) ∧ (r1 = 0 → post (-3) σ1))) σ := h
  refine lv_iload_n hx hb dX8_count_0 rfl (lv_at hl 1 rfl) ?_
  refine lv_iconst (v := 0) hx hb dX8_count_1 (by decide) ?_
  refine lv_bipush (v := 11) hx hb dX8_count_2 (by decide) ?_
  refine call_Si (As := [.int x1, .int 0, .int 11]) (rest := []) EvC_ok S V hw (mt_X8_within l D q ad t aK aV x1 0 11  σ _ h) ok_X8_within ml_X8_62 ⟨(Nat.le_of_ble_eq_true rfl), (Nat.le_of_ble_eq_true rfl)⟩ ⟨rfl, rfl⟩ rfl hl.1 rfl (Nat.le_of_ble_eq_true rfl) dX8_count_4 (fun r1 σ1 H locs h hw => ?_)
  refine lv_if_ne (tgt := 13) hx hb dX8_count_7 (by decide) (fun hc => ?_) (fun hc => ?_)
  · have h := h.1 hc
    refine lv_iload_n hx hb dX8_count_13 rfl (lv_at hl 1 rfl) ?_
    by_cases hc0 : x1 = 10
    · have h := h.1 hc0
      refine lv_lookup (off := 26) (tgt := 40) hx hb dX8_count_14 (by decide) (by rw [hc0]; try rfl) (by decide) ?_
      refine lv_aload_n hx hb dX8_count_40 rfl (lv_at hl 0 rfl) ?_
      refine gC_0_6 S V hw (Nat.le_of_ble_eq_true rfl) fl_X8_51 dX8_count_41 ?_
      refine gC_19_0 S V hw (Nat.le_of_ble_eq_true rfl) fl_X8_205 rfl dX8_count_44 ?_
      exact ret_i S hr hlocks hw h dX8_count_47
    · have h := h.2 hc0
      by_cases hc1 : x1 = 11
      · have h := h.1 hc1
        refine lv_lookup (off := 34) (tgt := 48) hx hb dX8_count_14 (by decide) (by rw [hc1]; try rfl) (by decide) ?_
        refine lv_aload_n hx hb dX8_count_48 rfl (lv_at hl 0 rfl) ?_
        refine gC_0_1 S V hw (Nat.le_of_ble_eq_true rfl) fl_X8_19 dX8_count_49 ?_
        refine gC_7_1 S V hw (Nat.le_of_ble_eq_true rfl) fl_X8_66 rfl dX8_count_52 ?_
        exact ret_i S hr hlocks hw h dX8_count_55
      · have h := h.2 hc1
        refine lv_lookup (off := 42) (tgt := 56) hx hb dX8_count_14 (by decide) (by show Op.lookupswitch.offset [(10, 26), (11, 34)] _ _ = _; rw [lv_osw (k := 10) (a := 10) hc0 rfl, lv_osw (k := 11) (a := 11) hc1 rfl]; try rfl) (by decide) ?_
        refine lv_aload_n hx hb dX8_count_56 rfl (lv_at hl 0 rfl) ?_
        refine gC_0_0 S V hw (Nat.le_of_ble_eq_true rfl) fl_X8_12 dX8_count_57 ?_
        refine gC_1_1 S V hw (Nat.le_of_ble_eq_true rfl) fl_X8_130 dX8_count_60 ?_
        refine lv_iload_n hx hb dX8_count_63 rfl (lv_at hl 1 rfl) ?_
        refine aC_6 S V hw (Nat.le_of_ble_eq_true rfl) h.1 (z := (σ1 6 0 x1.toNatClampNeg)) rfl dX8_count_64 ?_
        have h := h.2
        exact ret_i S hr hlocks hw h dX8_count_65
  · have h := h.2 hc
    refine lv_bipush (v := (-3)) hx hb dX8_count_10 (by decide) ?_
    exact ret_i S hr hlocks hw h dX8_count_12
theorem mt_X8_count (l : Launch) (D : va_G) (q : ClassId × ClassId × ClassId × ClassId) (ad : Nat → Nat → Nat) (t : Nat × Nat) (aK aV : Nat → Nat) (x1 : Int32) (σ : St) (post : Int32 → St → Prop) (h : wp_X8_count x1 post σ) : cI l D clA LC ad (EC q ad) (EvC D q ad t aK aV) yX8_count cX8_count 2 (some .int) { frames := 1, cells := 0, slots := 0, locals := 22 } [.ref (ad 0 0), .int x1] σ post :=
  ent_i (by decide) (Nat.le_of_ble_eq_true rfl) (fun p e s m below meth c S V hr hlocks hw ls hl => wk_X8_count_0 S V hr hlocks x1  post   σ _ _ ls h  hw (lv_sub hl [0, 1] rfl))
