def wp_X9_in_18 (x0 : Int64) (x2 : Int64) (x4 : Int64) (post : Int32 → St → Prop) (xs0 : Int32) (σ : St) : Prop := (narrow .boolean (.int xs0) = .int xs0 ∧ post xs0 σ)
set_option maxHeartbeats 4000000 in
set_option maxRecDepth 100000 in
theorem wk_X9_in_18 {p : Program} {l : Launch} {e : Env} {s : State} {m : MethodId} {below : List Frame} {meth : Method} {c : Code} {D : va_G} {q : ClassId × ClassId × ClassId × ClassId} {ad : Nat → Nat → Nat} {args : Array Value} (S : CallFix p m c cX9_in 6 s args GW "OnChinModel") (V : EvM D q ad s) (hr : meth.sig.returnType = (some .boolean)) (hlocks : meth.locks = false) (x0 : Int64) (x2 : Int64) (x4 : Int64) (post : Int32 → St → Prop)  : ∀ (xs0 : Int32) (σ : St) (H : Heap) (locs : List Loc) (ls : Array Slot), wp_X9_in_18 x0 x2 x4 post xs0 σ → wo D clA LM ad s.heap H locs (EM q ad σ) → lv_has ls 6 [(0, .long x0), (2, .long x2), (4, .long x4)] → W p l e { frames := 0, cells := 0, slots := 0, locals := 0 } s m args below meth c H locs 0 0 (MQ below (zQi D clA LM ad (EM q ad) post) args s 0 0 (zA LM ad)) (F0 m 18 ls [.int xs0]) := by
  have hx := S.1
  have hb := S.2.1
  intro xs0 σ H locs ls h  hw hl
  exact ret_z S hr hlocks hw h.1 h.2 dX9_in_18
def wp_X9_in_17 (x0 : Int64) (x2 : Int64) (x4 : Int64) (post : Int32 → St → Prop)  (σ : St) : Prop := wp_X9_in_18 x0 x2 x4 post 0 σ
set_option maxHeartbeats 4000000 in
set_option maxRecDepth 100000 in
theorem wk_X9_in_17 {p : Program} {l : Launch} {e : Env} {s : State} {m : MethodId} {below : List Frame} {meth : Method} {c : Code} {D : va_G} {q : ClassId × ClassId × ClassId × ClassId} {ad : Nat → Nat → Nat} {args : Array Value} (S : CallFix p m c cX9_in 6 s args GW "OnChinModel") (V : EvM D q ad s) (hr : meth.sig.returnType = (some .boolean)) (hlocks : meth.locks = false) (x0 : Int64) (x2 : Int64) (x4 : Int64) (post : Int32 → St → Prop)  : ∀ (σ : St) (H : Heap) (locs : List Loc) (ls : Array Slot), wp_X9_in_17 x0 x2 x4 post  σ → wo D clA LM ad s.heap H locs (EM q ad σ) → lv_has ls 6 [(0, .long x0), (2, .long x2), (4, .long x4)] → W p l e { frames := 0, cells := 0, slots := 0, locals := 0 } s m args below meth c H locs 0 0 (MQ below (zQi D clA LM ad (EM q ad) post) args s 0 0 (zA LM ad)) (F0 m 17 ls []) := by
  have hx := S.1
  have hb := S.2.1
  intro  σ H locs ls h  hw hl
  have h : wp_X9_in_18 x0 x2 x4 post 0 σ := h
  refine lv_iconst (v := 0) hx hb dX9_in_17 (by decide) ?_
  exact wk_X9_in_18 S V hr hlocks x0 x2 x4   post  0 _ _ _ _ h  hw (lv_sub hl [0, 1, 2] rfl)
def wp_X9_in (x0 : Int64) (x2 : Int64) (x4 : Int64) (post : Int32 → St → Prop)  (σ : St) : Prop := (((lg_cmp x0 x2) < 0 → wp_X9_in_17 x0 x2 x4 post  σ) ∧ (¬ (lg_cmp x0 x2) < 0 → ((0 < (lg_cmp x0 x4) → wp_X9_in_17 x0 x2 x4 post  σ) ∧ (¬ 0 < (lg_cmp x0 x4) → wp_X9_in_18 x0 x2 x4 post 1 σ))))
set_option maxHeartbeats 4000000 in
set_option maxRecDepth 100000 in
theorem wk_X9_in_0 {p : Program} {l : Launch} {e : Env} {s : State} {m : MethodId} {below : List Frame} {meth : Method} {c : Code} {D : va_G} {q : ClassId × ClassId × ClassId × ClassId} {ad : Nat → Nat → Nat} {args : Array Value} (S : CallFix p m c cX9_in 6 s args GW "OnChinModel") (V : EvM D q ad s) (hr : meth.sig.returnType = (some .boolean)) (hlocks : meth.locks = false) (x0 : Int64) (x2 : Int64) (x4 : Int64) (post : Int32 → St → Prop)  : ∀ (σ : St) (H : Heap) (locs : List Loc) (ls : Array Slot), wp_X9_in x0 x2 x4 post  σ → wo D clA LM ad s.heap H locs (EM q ad σ) → lv_has ls 6 [(0, .long x0), (2, .long x2), (4, .long x4)] → W p l e { frames := 0, cells := 0, slots := 0, locals := 0 } s m args below meth c H locs 0 0 (MQ below (zQi D clA LM ad (EM q ad) post) args s 0 0 (zA LM ad)) (F0 m 0 ls []) := by
  have hx := S.1
  have hb := S.2.1
  intro  σ H locs ls h  hw hl
  refine lv_lload_n hx hb dX9_in_0 rfl (lv_at hl 0 rfl) ?_
  refine lv_lload_n hx hb dX9_in_1 rfl (lv_at hl 1 rfl) ?_
  refine W.lcmp hx hb dX9_in_2 ?_
  refine lv_if_lt (tgt := 17) hx hb dX9_in_3 (by decide) (fun hc => ?_) (fun hc => ?_)
  · have h := h.1 hc
    exact wk_X9_in_17 S V hr hlocks x0 x2 x4   post   _ _ _ _ h  hw (lv_sub hl [0, 1, 2] rfl)
  · have h := h.2 hc
    refine lv_lload_n hx hb dX9_in_6 rfl (lv_at hl 0 rfl) ?_
    refine lv_lload hx hb dX9_in_7 (lv_at hl 2 rfl) ?_
    refine W.lcmp hx hb dX9_in_9 ?_
    refine lv_if_gt (tgt := 17) hx hb dX9_in_10 (by decide) (fun hc => ?_) (fun hc => ?_)
    · have h := h.1 hc
      exact wk_X9_in_17 S V hr hlocks x0 x2 x4   post   _ _ _ _ h  hw (lv_sub hl [0, 1, 2] rfl)
    · have h := h.2 hc
      refine lv_iconst (v := 1) hx hb dX9_in_13 (by decide) ?_
      refine lv_goto (tgt := 18) hx hb dX9_in_14 (by decide) ?_
      exact wk_X9_in_18 S V hr hlocks x0 x2 x4   post  1 _ _ _ _ h  hw (lv_sub hl [0, 1, 2] rfl)
theorem mt_X9_in (l : Launch) (D : va_G) (q : ClassId × ClassId × ClassId × ClassId) (ad : Nat → Nat → Nat) (x0 : Int64) (x2 : Int64) (x4 : Int64) (σ : St) (post : Int32 → St → Prop) (h : wp_X9_in x0 x2 x4 post σ) : cI l D clA LM ad (EM q ad) (EvM D q ad) yX9_in cX9_in 6 (some .boolean) { frames := 0, cells := 0, slots := 0, locals := 0 } [.long x0, .long x2, .long x4] σ post :=
  ent_i (by decide) (Nat.le_of_ble_eq_true rfl) (fun p e s m below meth c S V hr hlocks hw ls hl => wk_X9_in_0 S V hr hlocks x0 x2 x4  post   σ _ _ ls h  hw (lv_sub hl [0, 1, 2] rfl))
def wp_X9_write_33 (x1 : Int64) (x3 : Int32) (post : Int32 → St → Prop) : Nat → Int32 → St → Prop
  | 0 => fun _ _ => False
  | n + 1 => fun x4 σ => ((x3 ≤ x4 → post (σ 0 0 1) σ) ∧ (¬ x3 ≤ x4 → (vp_in (σ 0 0 1) 200 ∧ wp_X9_write_33 x1 x3 post n (x4 + 1) (su (su σ 1 0 ((σ 0 0 1).toNatClampNeg) (Int64.toInt32 ((x1 >>> (Int32.toInt64 (8 * x4) &&& 63)) &&& 255))) 0 0 1 ((σ 0 0 1) + 1)))))
set_option maxHeartbeats 4000000 in
set_option maxRecDepth 100000 in
theorem wk_X9_write_33 {p : Program} {l : Launch} {e : Env} {s : State} {m : MethodId} {below : List Frame} {meth : Method} {c : Code} {D : va_G} {q : ClassId × ClassId × ClassId × ClassId} {ad : Nat → Nat → Nat} {args : Array Value} (S : CallFix p m c cX9_write 5 s args GW "OnChinModel") (V : EvM D q ad s) (hr : meth.sig.returnType = (some .int)) (hlocks : meth.locks = false) (x1 : Int64) (x3 : Int32) (post : Int32 → St → Prop)  : ∀ (n : Nat) (x4 : Int32) (σ : St) (H : Heap) (locs : List Loc) (ls : Array Slot), wp_X9_write_33 x1 x3 post n x4 σ → wo D clA LM ad s.heap H locs (EM q ad σ) → lv_has ls 5 [(0, .ref (ad 0 0)), (1, .long x1), (3, .int x3), (4, .int x4)] → W p l e { frames := 1, cells := 0, slots := 0, locals := 25 } s m args below meth c H locs 0 0 (MQ below (zQi D clA LM ad (EM q ad) post) args s 0 0 (zA LM ad)) (F0 m 33 ls []) := by
  have hx := S.1
  have hb := S.2.1
  intro n
  induction n with
  | zero => intro x4 σ H locs ls h; exact False.elim h
  | succ n ih =>
    intro x4 σ H locs ls h  hw hl
    refine lv_iload hx hb dX9_write_33 (lv_at hl 3 rfl) ?_
    refine lv_iload_n hx hb dX9_write_35 rfl (lv_at hl 2 rfl) ?_
    refine lv_icmp_ge (tgt := 76) hx hb dX9_write_36 (by decide) (fun hc => ?_) (fun hc => ?_)
    · have h := h.1 hc
      refine lv_aload_n hx hb dX9_write_76 rfl (lv_at hl 0 rfl) ?_
      refine gM_0_1 S V hw (Nat.le_of_ble_eq_true rfl) fl_X9_96 rfl dX9_write_77 ?_
      exact ret_i S hr hlocks hw h dX9_write_80
    · have h := h.2 hc
      refine lv_aload_n hx hb dX9_write_39 rfl (lv_at hl 0 rfl) ?_
      refine gM_0_0 S V hw (Nat.le_of_ble_eq_true rfl) fl_X9_7 dX9_write_40 ?_
      refine lv_aload_n hx hb dX9_write_43 rfl (lv_at hl 0 rfl) ?_
      refine gM_0_1 S V hw (Nat.le_of_ble_eq_true rfl) fl_X9_96 rfl dX9_write_44 ?_
      refine lv_lload_n hx hb dX9_write_47 rfl (lv_at hl 1 rfl) ?_
      refine lv_bipush (v := 8) hx hb dX9_write_48 (by decide) ?_
      refine lv_iload hx hb dX9_write_50 (lv_at hl 3 rfl) ?_
      refine lv_imul hx hb dX9_write_52 ?_
      refine lv_lshr (v := (x1 >>> (Int32.toInt64 (8 * x4) &&& 63))) hx hb dX9_write_53 rfl ?_
      refine lv_ldc2 (v := 255) hx hb S.2.2.2.1 (gw_S S _ kc_X9_99) dX9_write_54 ?_
      refine lv_land hx hb dX9_write_57 ?_
      refine lv_l2i (v := (Int64.toInt32 ((x1 >>> (Int32.toInt64 (8 * x4) &&& 63)) &&& 255))) hx hb dX9_write_58 rfl ?_
      refine sM_1 S V hw (Nat.le_of_ble_eq_true rfl) h.1 dX9_write_59 (fun H locs hw => ?_)
      have h := h.2
      refine lv_aload_n hx hb dX9_write_60 rfl (lv_at hl 0 rfl) ?_
      refine lv_dup hx hb dX9_write_61 rfl ?_
      refine gM_0_1 S V hw (Nat.le_of_ble_eq_true rfl) fl_X9_96 (su_nc rfl) dX9_write_62 ?_
      refine lv_iconst (v := 1) hx hb dX9_write_65 (by decide) ?_
      refine lv_iadd hx hb dX9_write_66 ?_
      refine pM_0_1 S V hw (Nat.le_of_ble_eq_true rfl) fl_X9_96 dX9_write_67 (fun H locs hw => ?_)
      refine lv_iinc (v := (x4 + 1)) (lv' := [(4, .int (x4 + 1)), (0, .ref (ad 0 0)), (1, .long x1), (3, .int x3)]) hx hb dX9_write_70 hl (k := 3) rfl rfl (by decide) rfl (fun ls hl => ?_)
      refine lv_goto (tgt := 33) hx hb dX9_write_73 (by decide) ?_
      exact ih (x4 + 1) _ _ _ _ h  hw (lv_sub hl [1, 2, 3, 0] rfl)
def wp_X9_write (x1 : Int64) (x3 : Int32) (post : Int32 → St → Prop)  (σ : St) : Prop := wp_X9_in (Int32.toInt64 x3) 1 8 (fun r1 σ1 => ((¬ r1 = 0 → ((((σ1 0 0 1) + x3) ≤ 200 → ∃ nn, wp_X9_write_33 x1 x3 post nn 0 σ1) ∧ (¬ ((σ1 0 0 1) + x3) ≤ 200 → post (-5) σ1))) ∧ (r1 = 0 → post (-3) σ1))) σ
set_option maxHeartbeats 4000000 in
set_option maxRecDepth 100000 in
theorem wk_X9_write_0 {p : Program} {l : Launch} {e : Env} {s : State} {m : MethodId} {below : List Frame} {meth : Method} {c : Code} {D : va_G} {q : ClassId × ClassId × ClassId × ClassId} {ad : Nat → Nat → Nat} {args : Array Value} (S : CallFix p m c cX9_write 5 s args GW "OnChinModel") (V : EvM D q ad s) (hr : meth.sig.returnType = (some .int)) (hlocks : meth.locks = false) (x1 : Int64) (x3 : Int32) (post : Int32 → St → Prop)  : ∀ (σ : St) (H : Heap) (locs : List Loc) (ls : Array Slot), wp_X9_write x1 x3 post  σ → wo D clA LM ad s.heap H locs (EM q ad σ) → lv_has ls 5 [(0, .ref (ad 0 0)), (1, .long x1), (3, .int x3)] → W p l e { frames := 1, cells := 0, slots := 0, locals := 25 } s m args below meth c H locs 0 0 (MQ below (zQi D clA LM ad (EM q ad) post) args s 0 0 (zA LM ad)) (F0 m 0 ls []) := by
  have hx := S.1
  have hb := S.2.1
  intro  σ H locs ls h  hw hl
  have h : wp_X9_in (Int32.toInt64 x3) 1 8 (fun r1 σ1 => ((¬ r1 = 0 → ((((σ1 0 0 1) + x3) ≤ 200 → ∃ nn, wp_X9_write_33 x1 x3 post nn 0 σ1) ∧ (¬ ((σ1 0 0 1) + x3) ≤ 200 → post (-5) σ1))) ∧ (r1 = 0 → post (-3) σ1))) σ := h
  refine lv_iload_n hx hb dX9_write_0 rfl (lv_at hl 2 rfl) ?_
  refine lv_i2l (v := (Int32.toInt64 x3)) hx hb dX9_write_1 rfl ?_
  refine lv_lconst (v := 1) hx hb dX9_write_2 (by decide) ?_
  refine lv_ldc2 (v := 8) hx hb S.2.2.2.1 (gw_S S _ kc_X9_90) dX9_write_3 ?_
  refine call_Si (As := [.long (Int32.toInt64 x3), .long 1, .long 8]) (rest := []) EvM_ok S V hw (mt_X9_in l D q ad (Int32.toInt64 x3) 1 8  σ _ h) ok_X9_in ml_X9_92 ⟨(Nat.le_of_ble_eq_true rfl), (Nat.le_of_ble_eq_true rfl)⟩ ⟨rfl, rfl⟩ rfl hl.1 rfl (Nat.le_of_ble_eq_true rfl) dX9_write_6 (fun r1 σ1 H locs h hw => ?_)
  refine lv_if_ne (tgt := 15) hx hb dX9_write_9 (by decide) (fun hc => ?_) (fun hc => ?_)
  · have h := h.1 hc
    refine lv_aload_n hx hb dX9_write_15 rfl (lv_at hl 0 rfl) ?_
    refine gM_0_1 S V hw (Nat.le_of_ble_eq_true rfl) fl_X9_96 rfl dX9_write_16 ?_
    refine lv_iload_n hx hb dX9_write_19 rfl (lv_at hl 2 rfl) ?_
    refine lv_iadd hx hb dX9_write_20 ?_
    refine lv_sipush (v := 200) hx hb dX9_write_21 (by decide) ?_
    refine lv_icmp_le (tgt := 30) hx hb dX9_write_24 (by decide) (fun hc => ?_) (fun hc => ?_)
    · have h := h.1 hc
      refine lv_iconst (v := 0) hx hb dX9_write_30 (by decide) ?_
      refine lv_istore (lv' := [(4, .int 0), (0, .ref (ad 0 0)), (1, .long x1), (3, .int x3)]) hx hb dX9_write_31 hl (by decide) rfl (fun ls hl => ?_)
      obtain ⟨n9, h⟩ := h
      exact wk_X9_write_33 S V hr hlocks x1 x3   post  n9 0 _ _ _ _ h  hw (lv_sub hl [1, 2, 3, 0] rfl)
    · have h := h.2 hc
      refine lv_bipush (v := (-5)) hx hb dX9_write_27 (by decide) ?_
      exact ret_i S hr hlocks hw h dX9_write_29
  · have h := h.2 hc
    refine lv_bipush (v := (-3)) hx hb dX9_write_12 (by decide) ?_
    exact ret_i S hr hlocks hw h dX9_write_14
theorem mt_X9_write (l : Launch) (D : va_G) (q : ClassId × ClassId × ClassId × ClassId) (ad : Nat → Nat → Nat) (x1 : Int64) (x3 : Int32) (σ : St) (post : Int32 → St → Prop) (h : wp_X9_write x1 x3 post σ) : cI l D clA LM ad (EM q ad) (EvM D q ad) yX9_write cX9_write 5 (some .int) { frames := 1, cells := 0, slots := 0, locals := 25 } [.ref (ad 0 0), .long x1, .int x3] σ post :=
  ent_i (by decide) (Nat.le_of_ble_eq_true rfl) (fun p e s m below meth c S V hr hlocks hw ls hl => wk_X9_write_0 S V hr hlocks x1 x3  post   σ _ _ ls h  hw (lv_sub hl [0, 1, 2] rfl))
def wp_X9_erase (post : Int32 → St → Prop)  (σ : St) : Prop := post (σ 0 0 1) (su σ 0 0 1 0)
set_option maxHeartbeats 4000000 in
set_option maxRecDepth 100000 in
theorem wk_X9_erase_0 {p : Program} {l : Launch} {e : Env} {s : State} {m : MethodId} {below : List Frame} {meth : Method} {c : Code} {D : va_G} {q : ClassId × ClassId × ClassId × ClassId} {ad : Nat → Nat → Nat} {args : Array Value} (S : CallFix p m c cX9_erase 2 s args GW "OnChinModel") (V : EvM D q ad s) (hr : meth.sig.returnType = (some .int)) (hlocks : meth.locks = false) (post : Int32 → St → Prop)  : ∀ (σ : St) (H : Heap) (locs : List Loc) (ls : Array Slot), wp_X9_erase post  σ → wo D clA LM ad s.heap H locs (EM q ad σ) → lv_has ls 2 [(0, .ref (ad 0 0))] → W p l e { frames := 0, cells := 0, slots := 0, locals := 0 } s m args below meth c H locs 0 0 (MQ below (zQi D clA LM ad (EM q ad) post) args s 0 0 (zA LM ad)) (F0 m 0 ls []) := by
  have hx := S.1
  have hb := S.2.1
  intro  σ H locs ls h  hw hl
  refine lv_aload_n hx hb dX9_erase_0 rfl (lv_at hl 0 rfl) ?_
  refine gM_0_1 S V hw (Nat.le_of_ble_eq_true rfl) fl_X9_96 rfl dX9_erase_1 ?_
  refine lv_istore_n (lv' := [(1, .int (σ 0 0 1)), (0, .ref (ad 0 0))]) hx hb dX9_erase_4 rfl hl (by decide) rfl (fun ls hl => ?_)
  refine lv_aload_n hx hb dX9_erase_5 rfl (lv_at hl 1 rfl) ?_
  refine lv_iconst (v := 0) hx hb dX9_erase_6 (by decide) ?_
  refine pM_0_1 S V hw (Nat.le_of_ble_eq_true rfl) fl_X9_96 dX9_erase_7 (fun H locs hw => ?_)
  refine lv_iload_n hx hb dX9_erase_10 rfl (lv_at hl 0 rfl) ?_
  exact ret_i S hr hlocks hw h dX9_erase_11
theorem mt_X9_erase (l : Launch) (D : va_G) (q : ClassId × ClassId × ClassId × ClassId) (ad : Nat → Nat → Nat)  (σ : St) (post : Int32 → St → Prop) (h : wp_X9_erase post σ) : cI l D clA LM ad (EM q ad) (EvM D q ad) yX9_erase cX9_erase 2 (some .int) { frames := 0, cells := 0, slots := 0, locals := 0 } [.ref (ad 0 0)] σ post :=
  ent_i (by decide) (Nat.le_of_ble_eq_true rfl) (fun p e s m below meth c S V hr hlocks hw ls hl => wk_X9_erase_0 S V hr hlocks   post   σ _ _ ls h  hw (lv_sub hl [0] rfl))
def wp_X9_sort_33 (x0 : Int32) (post : Int32 → St → Prop) (xs0 : Int32) (σ : St) : Prop := post xs0 σ
set_option maxHeartbeats 4000000 in
set_option maxRecDepth 100000 in
theorem wk_X9_sort_33 {p : Program} {l : Launch} {e : Env} {s : State} {m : MethodId} {below : List Frame} {meth : Method} {c : Code} {D : va_G} {q : ClassId × ClassId × ClassId × ClassId} {ad : Nat → Nat → Nat} {args : Array Value} (S : CallFix p m c cX9_sort 1 s args GW "OnChinModel") (V : EvM D q ad s) (hr : meth.sig.returnType = (some .int)) (hlocks : meth.locks = false) (x0 : Int32) (post : Int32 → St → Prop)  : ∀ (xs0 : Int32) (σ : St) (H : Heap) (locs : List Loc) (ls : Array Slot), wp_X9_sort_33 x0 post xs0 σ → wo D clA LM ad s.heap H locs (EM q ad σ) → lv_has ls 1 [(0, .int x0)] → W p l e { frames := 0, cells := 0, slots := 0, locals := 0 } s m args below meth c H locs 0 0 (MQ below (zQi D clA LM ad (EM q ad) post) args s 0 0 (zA LM ad)) (F0 m 33 ls [.int xs0]) := by
  have hx := S.1
  have hb := S.2.1
  intro xs0 σ H locs ls h  hw hl
  exact ret_i S hr hlocks hw h dX9_sort_33
def wp_X9_sort_32 (x0 : Int32) (post : Int32 → St → Prop)  (σ : St) : Prop := wp_X9_sort_33 x0 post 0 σ
set_option maxHeartbeats 4000000 in
set_option maxRecDepth 100000 in
theorem wk_X9_sort_32 {p : Program} {l : Launch} {e : Env} {s : State} {m : MethodId} {below : List Frame} {meth : Method} {c : Code} {D : va_G} {q : ClassId × ClassId × ClassId × ClassId} {ad : Nat → Nat → Nat} {args : Array Value} (S : CallFix p m c cX9_sort 1 s args GW "OnChinModel") (V : EvM D q ad s) (hr : meth.sig.returnType = (some .int)) (hlocks : meth.locks = false) (x0 : Int32) (post : Int32 → St → Prop)  : ∀ (σ : St) (H : Heap) (locs : List Loc) (ls : Array Slot), wp_X9_sort_32 x0 post  σ → wo D clA LM ad s.heap H locs (EM q ad σ) → lv_has ls 1 [(0, .int x0)] → W p l e { frames := 0, cells := 0, slots := 0, locals := 0 } s m args below meth c H locs 0 0 (MQ below (zQi D clA LM ad (EM q ad) post) args s 0 0 (zA LM ad)) (F0 m 32 ls []) := by
  have hx := S.1
  have hb := S.2.1
  intro  σ H locs ls h  hw hl
  have h : wp_X9_sort_33 x0 post 0 σ := h
  refine lv_iconst (v := 0) hx hb dX9_sort_32 (by decide) ?_
  exact wk_X9_sort_33 S V hr hlocks x0   post  0 _ _ _ _ h  hw (lv_sub hl [0] rfl)
def wp_X9_sort_16 (x0 : Int32) (post : Int32 → St → Prop)  (σ : St) : Prop := ((x0 < 48 → wp_X9_sort_32 x0 post  σ) ∧ (¬ x0 < 48 → ((57 < x0 → wp_X9_sort_32 x0 post  σ) ∧ (¬ 57 < x0 → wp_X9_sort_33 x0 post 2 σ))))
set_option maxHeartbeats 4000000 in
set_option maxRecDepth 100000 in
theorem wk_X9_sort_16 {p : Program} {l : Launch} {e : Env} {s : State} {m : MethodId} {below : List Frame} {meth : Method} {c : Code} {D : va_G} {q : ClassId × ClassId × ClassId × ClassId} {ad : Nat → Nat → Nat} {args : Array Value} (S : CallFix p m c cX9_sort 1 s args GW "OnChinModel") (V : EvM D q ad s) (hr : meth.sig.returnType = (some .int)) (hlocks : meth.locks = false) (x0 : Int32) (post : Int32 → St → Prop)  : ∀ (σ : St) (H : Heap) (locs : List Loc) (ls : Array Slot), wp_X9_sort_16 x0 post  σ → wo D clA LM ad s.heap H locs (EM q ad σ) → lv_has ls 1 [(0, .int x0)] → W p l e { frames := 0, cells := 0, slots := 0, locals := 0 } s m args below meth c H locs 0 0 (MQ below (zQi D clA LM ad (EM q ad) post) args s 0 0 (zA LM ad)) (F0 m 16 ls []) := by
  have hx := S.1
  have hb := S.2.1
  intro  σ H locs ls h  hw hl
  refine lv_iload_n hx hb dX9_sort_16 rfl (lv_at hl 0 rfl) ?_
  refine lv_bipush (v := 48) hx hb dX9_sort_17 (by decide) ?_
  refine lv_icmp_lt (tgt := 32) hx hb dX9_sort_19 (by decide) (fun hc => ?_) (fun hc => ?_)
  · have h := h.1 hc
    exact wk_X9_sort_32 S V hr hlocks x0   post   _ _ _ _ h  hw (lv_sub hl [0] rfl)
  · have h := h.2 hc
    refine lv_iload_n hx hb dX9_sort_22 rfl (lv_at hl 0 rfl) ?_
    refine lv_bipush (v := 57) hx hb dX9_sort_23 (by decide) ?_
    refine lv_icmp_gt (tgt := 32) hx hb dX9_sort_25 (by decide) (fun hc => ?_) (fun hc => ?_)
    · have h := h.1 hc
      exact wk_X9_sort_32 S V hr hlocks x0   post   _ _ _ _ h  hw (lv_sub hl [0] rfl)
    · have h := h.2 hc
      refine lv_iconst (v := 2) hx hb dX9_sort_28 (by decide) ?_
      refine lv_goto (tgt := 33) hx hb dX9_sort_29 (by decide) ?_
      exact wk_X9_sort_33 S V hr hlocks x0   post  2 _ _ _ _ h  hw (lv_sub hl [0] rfl)
def wp_X9_sort (x0 : Int32) (post : Int32 → St → Prop)  (σ : St) : Prop := ((x0 < 97 → wp_X9_sort_16 x0 post  σ) ∧ (¬ x0 < 97 → ((122 < x0 → wp_X9_sort_16 x0 post  σ) ∧ (¬ 122 < x0 → wp_X9_sort_33 x0 post 1 σ))))
set_option maxHeartbeats 4000000 in
set_option maxRecDepth 100000 in
theorem wk_X9_sort_0 {p : Program} {l : Launch} {e : Env} {s : State} {m : MethodId} {below : List Frame} {meth : Method} {c : Code} {D : va_G} {q : ClassId × ClassId × ClassId × ClassId} {ad : Nat → Nat → Nat} {args : Array Value} (S : CallFix p m c cX9_sort 1 s args GW "OnChinModel") (V : EvM D q ad s) (hr : meth.sig.returnType = (some .int)) (hlocks : meth.locks = false) (x0 : Int32) (post : Int32 → St → Prop)  : ∀ (σ : St) (H : Heap) (locs : List Loc) (ls : Array Slot), wp_X9_sort x0 post  σ → wo D clA LM ad s.heap H locs (EM q ad σ) → lv_has ls 1 [(0, .int x0)] → W p l e { frames := 0, cells := 0, slots := 0, locals := 0 } s m args below meth c H locs 0 0 (MQ below (zQi D clA LM ad (EM q ad) post) args s 0 0 (zA LM ad)) (F0 m 0 ls []) := by
  have hx := S.1
  have hb := S.2.1
  intro  σ H locs ls h  hw hl
  refine lv_iload_n hx hb dX9_sort_0 rfl (lv_at hl 0 rfl) ?_
  refine lv_bipush (v := 97) hx hb dX9_sort_1 (by decide) ?_
  refine lv_icmp_lt (tgt := 16) hx hb dX9_sort_3 (by decide) (fun hc => ?_) (fun hc => ?_)
  · have h := h.1 hc
    exact wk_X9_sort_16 S V hr hlocks x0   post   _ _ _ _ h  hw (lv_sub hl [0] rfl)
  · have h := h.2 hc
    refine lv_iload_n hx hb dX9_sort_6 rfl (lv_at hl 0 rfl) ?_
    refine lv_bipush (v := 122) hx hb dX9_sort_7 (by decide) ?_
    refine lv_icmp_gt (tgt := 16) hx hb dX9_sort_9 (by decide) (fun hc => ?_) (fun hc => ?_)
    · have h := h.1 hc
      exact wk_X9_sort_16 S V hr hlocks x0   post   _ _ _ _ h  hw (lv_sub hl [0] rfl)
    · have h := h.2 hc
      refine lv_iconst (v := 1) hx hb dX9_sort_12 (by decide) ?_
      refine lv_goto (tgt := 33) hx hb dX9_sort_13 (by decide) ?_
      exact wk_X9_sort_33 S V hr hlocks x0   post  1 _ _ _ _ h  hw (lv_sub hl [0] rfl)
theorem mt_X9_sort (l : Launch) (D : va_G) (q : ClassId × ClassId × ClassId × ClassId) (ad : Nat → Nat → Nat) (x0 : Int32) (σ : St) (post : Int32 → St → Prop) (h : wp_X9_sort x0 post σ) : cI l D clA LM ad (EM q ad) (EvM D q ad) yX9_sort cX9_sort 1 (some .int) { frames := 0, cells := 0, slots := 0, locals := 0 } [.int x0] σ post :=
  ent_i (by decide) (Nat.le_of_ble_eq_true rfl) (fun p e s m below meth c S V hr hlocks hw ls hl => wk_X9_sort_0 S V hr hlocks x0  post   σ _ _ ls h  hw (lv_sub hl [0] rfl))
def wp_X9_token_137 (post : St → Prop)  (σ : St) : Prop := post (su σ 0 0 20 (σ 0 0 18))
set_option maxHeartbeats 4000000 in
set_option maxRecDepth 100000 in
theorem wk_X9_token_137 {p : Program} {l : Launch} {e : Env} {s : State} {m : MethodId} {below : List Frame} {meth : Method} {c : Code} {D : va_G} {q : ClassId × ClassId × ClassId × ClassId} {ad : Nat → Nat → Nat} {args : Array Value} (S : CallFix p m c cX9_token 1 s args GW "OnChinModel") (V : EvM D q ad s) (hr : meth.sig.returnType = none) (hlocks : meth.locks = false) (post : St → Prop)  : ∀ (σ : St) (H : Heap) (locs : List Loc) (ls : Array Slot), wp_X9_token_137 post  σ → wo D clA LM ad s.heap H locs (EM q ad σ) → lv_has ls 1 [(0, .ref (ad 0 0))] → W p l e { frames := 1, cells := 0, slots := 0, locals := 20 } s m args below meth c H locs 0 0 (MQ below (zQv D clA LM ad (EM q ad) post) args s 0 0 (zA LM ad)) (F0 m 137 ls []) := by
  have hx := S.1
  have hb := S.2.1
  intro  σ H locs ls h  hw hl
  refine lv_aload_n hx hb dX9_token_137 rfl (lv_at hl 0 rfl) ?_
  refine lv_aload_n hx hb dX9_token_138 rfl (lv_at hl 0 rfl) ?_
  refine gM_0_18 S V hw (Nat.le_of_ble_eq_true rfl) fl_X9_101 rfl dX9_token_139 ?_
  refine pM_0_20 S V hw (Nat.le_of_ble_eq_true rfl) fl_X9_111 dX9_token_142 (fun H locs hw => ?_)
  exact ret_v S hr hlocks hw h dX9_token_145
def wp_X9_token_71 (post : St → Prop) : Nat → St → Prop
  | 0 => fun  _ => False
  | n + 1 => fun  σ => (((σ 0 0 1) ≤ (σ 0 0 18) → wp_X9_token_137 post  σ) ∧ (¬ (σ 0 0 1) ≤ (σ 0 0 18) → (vp_in (σ 0 0 19) 200 ∧ wp_X9_sort (σ 1 0 ((σ 0 0 19).toNatClampNeg)) (fun r1 σ1 => ((r1 ≤ 0 → wp_X9_token_137 post  σ1) ∧ (¬ r1 ≤ 0 → (vp_in (σ1 0 0 18) 200 ∧ wp_X9_sort (σ1 1 0 ((σ1 0 0 18).toNatClampNeg)) (fun r2 σ2 => (vp_in (σ2 0 0 19) 200 ∧ wp_X9_sort (σ2 1 0 ((σ2 0 0 19).toNatClampNeg)) (fun r3 σ3 => ((¬ r2 = r3 → wp_X9_token_137 post  σ3) ∧ (r2 = r3 → wp_X9_token_71 post n  (su σ3 0 0 18 ((σ3 0 0 18) + 1))))) σ2)) σ1)))) σ)))
set_option maxHeartbeats 4000000 in
set_option maxRecDepth 100000 in
theorem wk_X9_token_71 {p : Program} {l : Launch} {e : Env} {s : State} {m : MethodId} {below : List Frame} {meth : Method} {c : Code} {D : va_G} {q : ClassId × ClassId × ClassId × ClassId} {ad : Nat → Nat → Nat} {args : Array Value} (S : CallFix p m c cX9_token 1 s args GW "OnChinModel") (V : EvM D q ad s) (hr : meth.sig.returnType = none) (hlocks : meth.locks = false) (post : St → Prop)  : ∀ (n : Nat) (σ : St) (H : Heap) (locs : List Loc) (ls : Array Slot), wp_X9_token_71 post n  σ → wo D clA LM ad s.heap H locs (EM q ad σ) → lv_has ls 1 [(0, .ref (ad 0 0))] → W p l e { frames := 1, cells := 0, slots := 0, locals := 20 } s m args below meth c H locs 0 0 (MQ below (zQv D clA LM ad (EM q ad) post) args s 0 0 (zA LM ad)) (F0 m 71 ls []) := by
  have hx := S.1
  have hb := S.2.1
  intro n
  induction n with
  | zero => intro  σ H locs ls h; exact False.elim h
  | succ n ih =>
    intro  σ H locs ls h  hw hl
    refine lv_aload_n hx hb dX9_token_71 rfl (lv_at hl 0 rfl) ?_
    refine gM_0_18 S V hw (Nat.le_of_ble_eq_true rfl) fl_X9_101 rfl dX9_token_72 ?_
    refine lv_aload_n hx hb dX9_token_75 rfl (lv_at hl 0 rfl) ?_
    refine gM_0_1 S V hw (Nat.le_of_ble_eq_true rfl) fl_X9_96 rfl dX9_token_76 ?_
    refine lv_icmp_ge (tgt := 137) hx hb dX9_token_79 (by decide) (fun hc => ?_) (fun hc => ?_)
    · have h := h.1 hc
      exact wk_X9_token_137 S V hr hlocks    post   _ _ _ _ h  hw (lv_sub hl [0] rfl)
    · have h := h.2 hc
      refine lv_aload_n hx hb dX9_token_82 rfl (lv_at hl 0 rfl) ?_
      refine gM_0_0 S V hw (Nat.le_of_ble_eq_true rfl) fl_X9_7 dX9_token_83 ?_
      refine lv_aload_n hx hb dX9_token_86 rfl (lv_at hl 0 rfl) ?_
      refine gM_0_19 S V hw (Nat.le_of_ble_eq_true rfl) fl_X9_104 rfl dX9_token_87 ?_
      refine aM_1 S V hw (Nat.le_of_ble_eq_true rfl) h.1 (z := (σ 1 0 ((σ 0 0 19).toNatClampNeg))) rfl dX9_token_90 ?_
      have h := h.2
      refine call_Si (As := [.int (σ 1 0 ((σ 0 0 19).toNatClampNeg))]) (rest := []) EvM_ok S V hw (mt_X9_sort l D q ad (σ 1 0 ((σ 0 0 19).toNatClampNeg))  σ _ h) ok_X9_sort ml_X9_107 ⟨(Nat.le_of_ble_eq_true rfl), (Nat.le_of_ble_eq_true rfl)⟩ ⟨rfl, rfl⟩ rfl hl.1 rfl (Nat.le_of_ble_eq_true rfl) dX9_token_91 (fun r1 σ1 H locs h hw => ?_)
      refine lv_if_le (tgt := 137) hx hb dX9_token_94 (by decide) (fun hc => ?_) (fun hc => ?_)
      · have h := h.1 hc
        exact wk_X9_token_137 S V hr hlocks    post   _ _ _ _ h  hw (lv_sub hl [0] rfl)
      · have h := h.2 hc
        refine lv_aload_n hx hb dX9_token_97 rfl (lv_at hl 0 rfl) ?_
        refine gM_0_0 S V hw (Nat.le_of_ble_eq_true rfl) fl_X9_7 dX9_token_98 ?_
        refine lv_aload_n hx hb dX9_token_101 rfl (lv_at hl 0 rfl) ?_
        refine gM_0_18 S V hw (Nat.le_of_ble_eq_true rfl) fl_X9_101 rfl dX9_token_102 ?_
        refine aM_1 S V hw (Nat.le_of_ble_eq_true rfl) h.1 (z := (σ1 1 0 ((σ1 0 0 18).toNatClampNeg))) rfl dX9_token_105 ?_
        have h := h.2
        refine call_Si (As := [.int (σ1 1 0 ((σ1 0 0 18).toNatClampNeg))]) (rest := []) EvM_ok S V hw (mt_X9_sort l D q ad (σ1 1 0 ((σ1 0 0 18).toNatClampNeg))  σ1 _ h) ok_X9_sort ml_X9_107 ⟨(Nat.le_of_ble_eq_true rfl), (Nat.le_of_ble_eq_true rfl)⟩ ⟨rfl, rfl⟩ rfl hl.1 rfl (Nat.le_of_ble_eq_true rfl) dX9_token_106 (fun r2 σ2 H locs h hw => ?_)
        refine lv_aload_n hx hb dX9_token_109 rfl (lv_at hl 0 rfl) ?_
        refine gM_0_0 S V hw (Nat.le_of_ble_eq_true rfl) fl_X9_7 dX9_token_110 ?_
        refine lv_aload_n hx hb dX9_token_113 rfl (lv_at hl 0 rfl) ?_
        refine gM_0_19 S V hw (Nat.le_of_ble_eq_true rfl) fl_X9_104 rfl dX9_token_114 ?_
        refine aM_1 S V hw (Nat.le_of_ble_eq_true rfl) h.1 (z := (σ2 1 0 ((σ2 0 0 19).toNatClampNeg))) rfl dX9_token_117 ?_
        have h := h.2
        refine call_Si (As := [.int (σ2 1 0 ((σ2 0 0 19).toNatClampNeg))]) (rest := [.int r2]) EvM_ok S V hw (mt_X9_sort l D q ad (σ2 1 0 ((σ2 0 0 19).toNatClampNeg))  σ2 _ h) ok_X9_sort ml_X9_107 ⟨(Nat.le_of_ble_eq_true rfl), (Nat.le_of_ble_eq_true rfl)⟩ ⟨rfl, rfl⟩ rfl hl.1 rfl (Nat.le_of_ble_eq_true rfl) dX9_token_118 (fun r3 σ3 H locs h hw => ?_)
        refine lv_icmp_ne (tgt := 137) hx hb dX9_token_121 (by decide) (fun hc => ?_) (fun hc => ?_)
        · have h := h.1 hc
          exact wk_X9_token_137 S V hr hlocks    post   _ _ _ _ h  hw (lv_sub hl [0] rfl)
        · have h := h.2 hc
          refine lv_aload_n hx hb dX9_token_124 rfl (lv_at hl 0 rfl) ?_
          refine lv_dup hx hb dX9_token_125 rfl ?_
          refine gM_0_18 S V hw (Nat.le_of_ble_eq_true rfl) fl_X9_101 rfl dX9_token_126 ?_
          refine lv_iconst (v := 1) hx hb dX9_token_129 (by decide) ?_
          refine lv_iadd hx hb dX9_token_130 ?_
          refine pM_0_18 S V hw (Nat.le_of_ble_eq_true rfl) fl_X9_101 dX9_token_131 (fun H locs hw => ?_)
          refine lv_goto (tgt := 71) hx hb dX9_token_134 (by decide) ?_
          exact ih  _ _ _ _ h  hw (lv_sub hl [0] rfl)
def wp_X9_token_67 (post : St → Prop) (xs1 : Int32) (xs2 : Int32) (σ : St) : Prop := ∃ nn, wp_X9_token_71 post nn  (su σ 0 0 18 (xs1 + xs2))
set_option maxHeartbeats 4000000 in
set_option maxRecDepth 100000 in
theorem wk_X9_token_67 {p : Program} {l : Launch} {e : Env} {s : State} {m : MethodId} {below : List Frame} {meth : Method} {c : Code} {D : va_G} {q : ClassId × ClassId × ClassId × ClassId} {ad : Nat → Nat → Nat} {args : Array Value} (S : CallFix p m c cX9_token 1 s args GW "OnChinModel") (V : EvM D q ad s) (hr : meth.sig.returnType = none) (hlocks : meth.locks = false) (post : St → Prop)  : ∀ (xs1 : Int32) (xs2 : Int32) (σ : St) (H : Heap) (locs : List Loc) (ls : Array Slot), wp_X9_token_67 post xs1 xs2 σ → wo D clA LM ad s.heap H locs (EM q ad σ) → lv_has ls 1 [(0, .ref (ad 0 0))] → W p l e { frames := 1, cells := 0, slots := 0, locals := 20 } s m args below meth c H locs 0 0 (MQ below (zQv D clA LM ad (EM q ad) post) args s 0 0 (zA LM ad)) (F0 m 67 ls [.int xs2, .int xs1, .ref (ad 0 0)]) := by
  have hx := S.1
  have hb := S.2.1
  intro xs1 xs2 σ H locs ls h  hw hl
  refine lv_iadd hx hb dX9_token_67 ?_
  refine pM_0_18 S V hw (Nat.le_of_ble_eq_true rfl) fl_X9_101 dX9_token_68 (fun H locs hw => ?_)
  obtain ⟨n9, h⟩ := h
  exact wk_X9_token_71 S V hr hlocks    post  n9  _ _ _ _ h  hw (lv_sub hl [0] rfl)
def wp_X9_token_38 (post : St → Prop)  (σ : St) : Prop := (((σ 0 0 1) ≤ (σ 0 0 18) → wp_X9_token_67 post (σ 0 0 18) 0 (su σ 0 0 19 (σ 0 0 18))) ∧ (¬ (σ 0 0 1) ≤ (σ 0 0 18) → wp_X9_token_67 post (σ 0 0 18) 1 (su σ 0 0 19 (σ 0 0 18))))
set_option maxHeartbeats 4000000 in
set_option maxRecDepth 100000 in
theorem wk_X9_token_38 {p : Program} {l : Launch} {e : Env} {s : State} {m : MethodId} {below : List Frame} {meth : Method} {c : Code} {D : va_G} {q : ClassId × ClassId × ClassId × ClassId} {ad : Nat → Nat → Nat} {args : Array Value} (S : CallFix p m c cX9_token 1 s args GW "OnChinModel") (V : EvM D q ad s) (hr : meth.sig.returnType = none) (hlocks : meth.locks = false) (post : St → Prop)  : ∀ (σ : St) (H : Heap) (locs : List Loc) (ls : Array Slot), wp_X9_token_38 post  σ → wo D clA LM ad s.heap H locs (EM q ad σ) → lv_has ls 1 [(0, .ref (ad 0 0))] → W p l e { frames := 1, cells := 0, slots := 0, locals := 20 } s m args below meth c H locs 0 0 (MQ below (zQv D clA LM ad (EM q ad) post) args s 0 0 (zA LM ad)) (F0 m 38 ls []) := by
  have hx := S.1
  have hb := S.2.1
  intro  σ H locs ls h  hw hl
  refine lv_aload_n hx hb dX9_token_38 rfl (lv_at hl 0 rfl) ?_
  refine lv_aload_n hx hb dX9_token_39 rfl (lv_at hl 0 rfl) ?_
  refine gM_0_18 S V hw (Nat.le_of_ble_eq_true rfl) fl_X9_101 rfl dX9_token_40 ?_
  refine pM_0_19 S V hw (Nat.le_of_ble_eq_true rfl) fl_X9_104 dX9_token_43 (fun H locs hw => ?_)
  refine lv_aload_n hx hb dX9_token_46 rfl (lv_at hl 0 rfl) ?_
  refine lv_dup hx hb dX9_token_47 rfl ?_
  refine gM_0_18 S V hw (Nat.le_of_ble_eq_true rfl) fl_X9_101 (su_nk rfl) dX9_token_48 ?_
  refine lv_aload_n hx hb dX9_token_51 rfl (lv_at hl 0 rfl) ?_
  refine gM_0_18 S V hw (Nat.le_of_ble_eq_true rfl) fl_X9_101 (su_nk rfl) dX9_token_52 ?_
  refine lv_aload_n hx hb dX9_token_55 rfl (lv_at hl 0 rfl) ?_
  refine gM_0_1 S V hw (Nat.le_of_ble_eq_true rfl) fl_X9_96 (su_nk rfl) dX9_token_56 ?_
  refine lv_icmp_ge (tgt := 66) hx hb dX9_token_59 (by decide) (fun hc => ?_) (fun hc => ?_)
  · have h := h.1 hc
    refine lv_iconst (v := 0) hx hb dX9_token_66 (by decide) ?_
    exact wk_X9_token_67 S V hr hlocks    post  (σ 0 0 18) 0 _ _ _ _ h  hw (lv_sub hl [0] rfl)
  · have h := h.2 hc
    refine lv_iconst (v := 1) hx hb dX9_token_62 (by decide) ?_
    refine lv_goto (tgt := 67) hx hb dX9_token_63 (by decide) ?_
    exact wk_X9_token_67 S V hr hlocks    post  (σ 0 0 18) 1 _ _ _ _ h  hw (lv_sub hl [0] rfl)
def wp_X9_token_0 (post : St → Prop) : Nat → St → Prop
  | 0 => fun  _ => False
  | n + 1 => fun  σ => (((σ 0 0 1) ≤ (σ 0 0 18) → wp_X9_token_38 post  σ) ∧ (¬ (σ 0 0 1) ≤ (σ 0 0 18) → (vp_in (σ 0 0 18) 200 ∧ ((¬ (σ 1 0 ((σ 0 0 18).toNatClampNeg)) = 32 → wp_X9_token_38 post  σ) ∧ ((σ 1 0 ((σ 0 0 18).toNatClampNeg)) = 32 → wp_X9_token_0 post n  (su σ 0 0 18 ((σ 0 0 18) + 1)))))))
set_option maxHeartbeats 4000000 in
set_option maxRecDepth 100000 in
theorem wk_X9_token_0 {p : Program} {l : Launch} {e : Env} {s : State} {m : MethodId} {below : List Frame} {meth : Method} {c : Code} {D : va_G} {q : ClassId × ClassId × ClassId × ClassId} {ad : Nat → Nat → Nat} {args : Array Value} (S : CallFix p m c cX9_token 1 s args GW "OnChinModel") (V : EvM D q ad s) (hr : meth.sig.returnType = none) (hlocks : meth.locks = false) (post : St → Prop)  : ∀ (n : Nat) (σ : St) (H : Heap) (locs : List Loc) (ls : Array Slot), wp_X9_token_0 post n  σ → wo D clA LM ad s.heap H locs (EM q ad σ) → lv_has ls 1 [(0, .ref (ad 0 0))] → W p l e { frames := 1, cells := 0, slots := 0, locals := 20 } s m args below meth c H locs 0 0 (MQ below (zQv D clA LM ad (EM q ad) post) args s 0 0 (zA LM ad)) (F0 m 0 ls []) := by
  have hx := S.1
  have hb := S.2.1
  intro n
  induction n with
  | zero => intro  σ H locs ls h; exact False.elim h
  | succ n ih =>
    intro  σ H locs ls h  hw hl
    refine lv_aload_n hx hb dX9_token_0 rfl (lv_at hl 0 rfl) ?_
    refine gM_0_18 S V hw (Nat.le_of_ble_eq_true rfl) fl_X9_101 rfl dX9_token_1 ?_
    refine lv_aload_n hx hb dX9_token_4 rfl (lv_at hl 0 rfl) ?_
    refine gM_0_1 S V hw (Nat.le_of_ble_eq_true rfl) fl_X9_96 rfl dX9_token_5 ?_
    refine lv_icmp_ge (tgt := 38) hx hb dX9_token_8 (by decide) (fun hc => ?_) (fun hc => ?_)
    · have h := h.1 hc
      exact wk_X9_token_38 S V hr hlocks    post   _ _ _ _ h  hw (lv_sub hl [0] rfl)
    · have h := h.2 hc
      refine lv_aload_n hx hb dX9_token_11 rfl (lv_at hl 0 rfl) ?_
      refine gM_0_0 S V hw (Nat.le_of_ble_eq_true rfl) fl_X9_7 dX9_token_12 ?_
      refine lv_aload_n hx hb dX9_token_15 rfl (lv_at hl 0 rfl) ?_
      refine gM_0_18 S V hw (Nat.le_of_ble_eq_true rfl) fl_X9_101 rfl dX9_token_16 ?_
      refine aM_1 S V hw (Nat.le_of_ble_eq_true rfl) h.1 (z := (σ 1 0 ((σ 0 0 18).toNatClampNeg))) rfl dX9_token_19 ?_
      have h := h.2
      refine lv_bipush (v := 32) hx hb dX9_token_20 (by decide) ?_
      refine lv_icmp_ne (tgt := 38) hx hb dX9_token_22 (by decide) (fun hc => ?_) (fun hc => ?_)
      · have h := h.1 hc
        exact wk_X9_token_38 S V hr hlocks    post   _ _ _ _ h  hw (lv_sub hl [0] rfl)
      · have h := h.2 hc
        refine lv_aload_n hx hb dX9_token_25 rfl (lv_at hl 0 rfl) ?_
        refine lv_dup hx hb dX9_token_26 rfl ?_
        refine gM_0_18 S V hw (Nat.le_of_ble_eq_true rfl) fl_X9_101 rfl dX9_token_27 ?_
        refine lv_iconst (v := 1) hx hb dX9_token_30 (by decide) ?_
        refine lv_iadd hx hb dX9_token_31 ?_
        refine pM_0_18 S V hw (Nat.le_of_ble_eq_true rfl) fl_X9_101 dX9_token_32 (fun H locs hw => ?_)
        refine lv_goto (tgt := 0) hx hb dX9_token_35 (by decide) ?_
        exact ih  _ _ _ _ h  hw (lv_sub hl [0] rfl)
def wp_X9_token  (post : St → Prop)  (σ : St) : Prop := ∃ n, wp_X9_token_0 post n  σ
theorem mt_X9_token (l : Launch) (D : va_G) (q : ClassId × ClassId × ClassId × ClassId) (ad : Nat → Nat → Nat)  (σ : St) (post : St → Prop) (h : wp_X9_token post σ) : cV l D clA LM ad (EM q ad) (EvM D q ad) yX9_token cX9_token 1 none { frames := 1, cells := 0, slots := 0, locals := 20 } [.ref (ad 0 0)] σ post :=
  ent_v (by decide) (Nat.le_of_ble_eq_true rfl) (fun p e s m below meth c S V hr hlocks hw ls hl => wk_X9_token_0 S V hr hlocks   post h.choose  σ _ _ ls h.choose_spec  hw (lv_sub hl [0] rfl))
def wp_X9_isWord_76 (x1 : Int64) (x3 : Int32) (post : Int32 → St → Prop) (x4 : Int32) (σ : St) : Prop := (narrow .boolean (.int x4) = .int x4 ∧ post x4 σ)
set_option maxHeartbeats 4000000 in
set_option maxRecDepth 100000 in
theorem wk_X9_isWord_76 {p : Program} {l : Launch} {e : Env} {s : State} {m : MethodId} {below : List Frame} {meth : Method} {c : Code} {D : va_G} {q : ClassId × ClassId × ClassId × ClassId} {ad : Nat → Nat → Nat} {args : Array Value} (S : CallFix p m c cX9_isWord 6 s args GW "OnChinModel") (V : EvM D q ad s) (hr : meth.sig.returnType = (some .boolean)) (hlocks : meth.locks = false) (x1 : Int64) (x3 : Int32) (post : Int32 → St → Prop)  : ∀ (x4 : Int32) (σ : St) (H : Heap) (locs : List Loc) (ls : Array Slot), wp_X9_isWord_76 x1 x3 post x4 σ → wo D clA LM ad s.heap H locs (EM q ad σ) → lv_has ls 6 [(0, .ref (ad 0 0)), (1, .long x1), (3, .int x3), (4, .int x4)] → W p l e { frames := 0, cells := 0, slots := 0, locals := 0 } s m args below meth c H locs 0 0 (MQ below (zQi D clA LM ad (EM q ad) post) args s 0 0 (zA LM ad)) (F0 m 76 ls []) := by
  have hx := S.1
  have hb := S.2.1
  intro x4 σ H locs ls h  hw hl
  refine lv_iload hx hb dX9_isWord_76 (lv_at hl 3 rfl) ?_
  exact ret_z S hr hlocks hw h.1 h.2 dX9_isWord_78
def wp_X9_isWord_68 (x1 : Int64) (x3 : Int32) (K23 : Int32 → Int32 → St → Prop) (post : Int32 → St → Prop) (x5 : Int32) (xs0 : Int32) (σ : St) : Prop := K23 xs0 (x5 + 1) σ
set_option maxHeartbeats 4000000 in
set_option maxRecDepth 100000 in
theorem wk_X9_isWord_68 {p : Program} {l : Launch} {e : Env} {s : State} {m : MethodId} {below : List Frame} {meth : Method} {c : Code} {D : va_G} {q : ClassId × ClassId × ClassId × ClassId} {ad : Nat → Nat → Nat} {args : Array Value} (S : CallFix p m c cX9_isWord 6 s args GW "OnChinModel") (V : EvM D q ad s) (hr : meth.sig.returnType = (some .boolean)) (hlocks : meth.locks = false) (x1 : Int64) (x3 : Int32) (K23 : Int32 → Int32 → St → Prop) (post : Int32 → St → Prop) (hK23 : ∀ (x4 : Int32) (x5 : Int32) (σ : St) (H : Heap) (locs : List Loc) (ls : Array Slot), K23 x4 x5 σ → wo D clA LM ad s.heap H locs (EM q ad σ) → lv_has ls 6 [(0, .ref (ad 0 0)), (1, .long x1), (3, .int x3), (4, .int x4), (5, .int x5)] → W p l e { frames := 0, cells := 0, slots := 0, locals := 0 } s m args below meth c H locs 0 0 (MQ below (zQi D clA LM ad (EM q ad) post) args s 0 0 (zA LM ad)) (F0 m 23 ls [])) : ∀ (x5 : Int32) (xs0 : Int32) (σ : St) (H : Heap) (locs : List Loc) (ls : Array Slot), wp_X9_isWord_68 x1 x3 K23 post x5 xs0 σ → wo D clA LM ad s.heap H locs (EM q ad σ) → lv_has ls 6 [(0, .ref (ad 0 0)), (1, .long x1), (3, .int x3), (5, .int x5)] → W p l e { frames := 0, cells := 0, slots := 0, locals := 0 } s m args below meth c H locs 0 0 (MQ below (zQi D clA LM ad (EM q ad) post) args s 0 0 (zA LM ad)) (F0 m 68 ls [.int xs0]) := by
  have hx := S.1
  have hb := S.2.1
  intro x5 xs0 σ H locs ls h  hw hl
  refine lv_istore (lv' := [(4, .int xs0), (0, .ref (ad 0 0)), (1, .long x1), (3, .int x3), (5, .int x5)]) hx hb dX9_isWord_68 hl (by decide) rfl (fun ls hl => ?_)
  refine lv_iinc (v := (x5 + 1)) (lv' := [(5, .int (x5 + 1)), (4, .int xs0), (0, .ref (ad 0 0)), (1, .long x1), (3, .int x3)]) hx hb dX9_isWord_70 hl (k := 4) rfl rfl (by decide) rfl (fun ls hl => ?_)
  refine lv_goto (tgt := 23) hx hb dX9_isWord_73 (by decide) ?_
  exact hK23 xs0 (x5 + 1) _ _ _ _ h  hw (lv_sub hl [2, 3, 4, 1, 0] rfl)
def wp_X9_isWord_23 (x1 : Int64) (x3 : Int32) (post : Int32 → St → Prop) : Nat → Int32 → Int32 → St → Prop
  | 0 => fun _ _ _ => False
  | n + 1 => fun x4 x5 σ => ((x4 = 0 → wp_X9_isWord_76 x1 x3 post x4 σ) ∧ (¬ x4 = 0 → ((x3 ≤ x5 → wp_X9_isWord_76 x1 x3 post x4 σ) ∧ (¬ x3 ≤ x5 → (vp_in ((σ 0 0 19) + x5) 200 ∧ ((¬ (σ 1 0 (((σ 0 0 19) + x5).toNatClampNeg)) = (96 + (Int64.toInt32 ((x1 >>> (Int32.toInt64 (5 * x5) &&& 63)) &&& 31))) → wp_X9_isWord_68 x1 x3 (fun y0 y1 τ => wp_X9_isWord_23 x1 x3 post n y0 y1 τ) post x5 0 σ) ∧ ((σ 1 0 (((σ 0 0 19) + x5).toNatClampNeg)) = (96 + (Int64.toInt32 ((x1 >>> (Int32.toInt64 (5 * x5) &&& 63)) &&& 31))) → wp_X9_isWord_68 x1 x3 (fun y0 y1 τ => wp_X9_isWord_23 x1 x3 post n y0 y1 τ) post x5 1 σ)))))))
set_option maxHeartbeats 4000000 in
set_option maxRecDepth 100000 in
theorem wk_X9_isWord_23 {p : Program} {l : Launch} {e : Env} {s : State} {m : MethodId} {below : List Frame} {meth : Method} {c : Code} {D : va_G} {q : ClassId × ClassId × ClassId × ClassId} {ad : Nat → Nat → Nat} {args : Array Value} (S : CallFix p m c cX9_isWord 6 s args GW "OnChinModel") (V : EvM D q ad s) (hr : meth.sig.returnType = (some .boolean)) (hlocks : meth.locks = false) (x1 : Int64) (x3 : Int32) (post : Int32 → St → Prop)  : ∀ (n : Nat) (x4 : Int32) (x5 : Int32) (σ : St) (H : Heap) (locs : List Loc) (ls : Array Slot), wp_X9_isWord_23 x1 x3 post n x4 x5 σ → wo D clA LM ad s.heap H locs (EM q ad σ) → lv_has ls 6 [(0, .ref (ad 0 0)), (1, .long x1), (3, .int x3), (4, .int x4), (5, .int x5)] → W p l e { frames := 0, cells := 0, slots := 0, locals := 0 } s m args below meth c H locs 0 0 (MQ below (zQi D clA LM ad (EM q ad) post) args s 0 0 (zA LM ad)) (F0 m 23 ls []) := by
  have hx := S.1
  have hb := S.2.1
  intro n
  induction n with
  | zero => intro x4 x5 σ H locs ls h; exact False.elim h
  | succ n ih =>
    intro x4 x5 σ H locs ls h  hw hl
    refine lv_iload hx hb dX9_isWord_23 (lv_at hl 3 rfl) ?_
    refine lv_if_eq (tgt := 76) hx hb dX9_isWord_25 (by decide) (fun hc => ?_) (fun hc => ?_)
    · have h := h.1 hc
      exact wk_X9_isWord_76 S V hr hlocks x1 x3   post  x4 _ _ _ _ h  hw (lv_sub hl [0, 1, 2, 3] rfl)
    · have h := h.2 hc
      refine lv_iload hx hb dX9_isWord_28 (lv_at hl 4 rfl) ?_
      refine lv_iload_n hx hb dX9_isWord_30 rfl (lv_at hl 2 rfl) ?_
      refine lv_icmp_ge (tgt := 76) hx hb dX9_isWord_31 (by decide) (fun hc => ?_) (fun hc => ?_)
      · have h := h.1 hc
        exact wk_X9_isWord_76 S V hr hlocks x1 x3   post  x4 _ _ _ _ h  hw (lv_sub hl [0, 1, 2, 3] rfl)
      · have h := h.2 hc
        refine lv_aload_n hx hb dX9_isWord_34 rfl (lv_at hl 0 rfl) ?_
        refine gM_0_0 S V hw (Nat.le_of_ble_eq_true rfl) fl_X9_7 dX9_isWord_35 ?_
        refine lv_aload_n hx hb dX9_isWord_38 rfl (lv_at hl 0 rfl) ?_
        refine gM_0_19 S V hw (Nat.le_of_ble_eq_true rfl) fl_X9_104 rfl dX9_isWord_39 ?_
        refine lv_iload hx hb dX9_isWord_42 (lv_at hl 4 rfl) ?_
        refine lv_iadd hx hb dX9_isWord_44 ?_
        refine aM_1 S V hw (Nat.le_of_ble_eq_true rfl) h.1 (z := (σ 1 0 (((σ 0 0 19) + x5).toNatClampNeg))) rfl dX9_isWord_45 ?_
        have h := h.2
        refine lv_bipush (v := 96) hx hb dX9_isWord_46 (by decide) ?_
        refine lv_lload_n hx hb dX9_isWord_48 rfl (lv_at hl 1 rfl) ?_
        refine lv_iconst (v := 5) hx hb dX9_isWord_49 (by decide) ?_
        refine lv_iload hx hb dX9_isWord_50 (lv_at hl 4 rfl) ?_
        refine lv_imul hx hb dX9_isWord_52 ?_
        refine lv_lshr (v := (x1 >>> (Int32.toInt64 (5 * x5) &&& 63))) hx hb dX9_isWord_53 rfl ?_
        refine lv_ldc2 (v := 31) hx hb S.2.2.2.1 (gw_S S _ kc_X9_114) dX9_isWord_54 ?_
        refine lv_land hx hb dX9_isWord_57 ?_
        refine lv_l2i (v := (Int64.toInt32 ((x1 >>> (Int32.toInt64 (5 * x5) &&& 63)) &&& 31))) hx hb dX9_isWord_58 rfl ?_
        refine lv_iadd hx hb dX9_isWord_59 ?_
        refine lv_icmp_ne (tgt := 67) hx hb dX9_isWord_60 (by decide) (fun hc => ?_) (fun hc => ?_)
        · have h := h.1 hc
          refine lv_iconst (v := 0) hx hb dX9_isWord_67 (by decide) ?_
          exact wk_X9_isWord_68 S V hr hlocks x1 x3  (fun y0 y1 τ => wp_X9_isWord_23 x1 x3 post n y0 y1 τ) post ih x5 0 _ _ _ _ h  hw (lv_sub hl [0, 1, 2, 4] rfl)
        · have h := h.2 hc
          refine lv_iconst (v := 1) hx hb dX9_isWord_63 (by decide) ?_
          refine lv_goto (tgt := 68) hx hb dX9_isWord_64 (by decide) ?_
          exact wk_X9_isWord_68 S V hr hlocks x1 x3  (fun y0 y1 τ => wp_X9_isWord_23 x1 x3 post n y0 y1 τ) post ih x5 1 _ _ _ _ h  hw (lv_sub hl [0, 1, 2, 4] rfl)
def wp_X9_isWord_18 (x1 : Int64) (x3 : Int32) (post : Int32 → St → Prop) (xs0 : Int32) (σ : St) : Prop := ∃ nn, wp_X9_isWord_23 x1 x3 post nn xs0 0 σ
set_option maxHeartbeats 4000000 in
set_option maxRecDepth 100000 in
theorem wk_X9_isWord_18 {p : Program} {l : Launch} {e : Env} {s : State} {m : MethodId} {below : List Frame} {meth : Method} {c : Code} {D : va_G} {q : ClassId × ClassId × ClassId × ClassId} {ad : Nat → Nat → Nat} {args : Array Value} (S : CallFix p m c cX9_isWord 6 s args GW "OnChinModel") (V : EvM D q ad s) (hr : meth.sig.returnType = (some .boolean)) (hlocks : meth.locks = false) (x1 : Int64) (x3 : Int32) (post : Int32 → St → Prop)  : ∀ (xs0 : Int32) (σ : St) (H : Heap) (locs : List Loc) (ls : Array Slot), wp_X9_isWord_18 x1 x3 post xs0 σ → wo D clA LM ad s.heap H locs (EM q ad σ) → lv_has ls 6 [(0, .ref (ad 0 0)), (1, .long x1), (3, .int x3)] → W p l e { frames := 0, cells := 0, slots := 0, locals := 0 } s m args below meth c H locs 0 0 (MQ below (zQi D clA LM ad (EM q ad) post) args s 0 0 (zA LM ad)) (F0 m 18 ls [.int xs0]) := by
  have hx := S.1
  have hb := S.2.1
  intro xs0 σ H locs ls h  hw hl
  refine lv_istore (lv' := [(4, .int xs0), (0, .ref (ad 0 0)), (1, .long x1), (3, .int x3)]) hx hb dX9_isWord_18 hl (by decide) rfl (fun ls hl => ?_)
  refine lv_iconst (v := 0) hx hb dX9_isWord_20 (by decide) ?_
  refine lv_istore (lv' := [(5, .int 0), (4, .int xs0), (0, .ref (ad 0 0)), (1, .long x1), (3, .int x3)]) hx hb dX9_isWord_21 hl (by decide) rfl (fun ls hl => ?_)
  obtain ⟨n9, h⟩ := h
  exact wk_X9_isWord_23 S V hr hlocks x1 x3   post  n9 xs0 0 _ _ _ _ h  hw (lv_sub hl [2, 3, 4, 1, 0] rfl)
def wp_X9_isWord (x1 : Int64) (x3 : Int32) (post : Int32 → St → Prop)  (σ : St) : Prop := ((¬ ((σ 0 0 20) - (σ 0 0 19)) = x3 → wp_X9_isWord_18 x1 x3 post 0 σ) ∧ (((σ 0 0 20) - (σ 0 0 19)) = x3 → wp_X9_isWord_18 x1 x3 post 1 σ))
set_option maxHeartbeats 4000000 in
set_option maxRecDepth 100000 in
theorem wk_X9_isWord_0 {p : Program} {l : Launch} {e : Env} {s : State} {m : MethodId} {below : List Frame} {meth : Method} {c : Code} {D : va_G} {q : ClassId × ClassId × ClassId × ClassId} {ad : Nat → Nat → Nat} {args : Array Value} (S : CallFix p m c cX9_isWord 6 s args GW "OnChinModel") (V : EvM D q ad s) (hr : meth.sig.returnType = (some .boolean)) (hlocks : meth.locks = false) (x1 : Int64) (x3 : Int32) (post : Int32 → St → Prop)  : ∀ (σ : St) (H : Heap) (locs : List Loc) (ls : Array Slot), wp_X9_isWord x1 x3 post  σ → wo D clA LM ad s.heap H locs (EM q ad σ) → lv_has ls 6 [(0, .ref (ad 0 0)), (1, .long x1), (3, .int x3)] → W p l e { frames := 0, cells := 0, slots := 0, locals := 0 } s m args below meth c H locs 0 0 (MQ below (zQi D clA LM ad (EM q ad) post) args s 0 0 (zA LM ad)) (F0 m 0 ls []) := by
  have hx := S.1
  have hb := S.2.1
  intro  σ H locs ls h  hw hl
  refine lv_aload_n hx hb dX9_isWord_0 rfl (lv_at hl 0 rfl) ?_
  refine gM_0_20 S V hw (Nat.le_of_ble_eq_true rfl) fl_X9_111 rfl dX9_isWord_1 ?_
  refine lv_aload_n hx hb dX9_isWord_4 rfl (lv_at hl 0 rfl) ?_
  refine gM_0_19 S V hw (Nat.le_of_ble_eq_true rfl) fl_X9_104 rfl dX9_isWord_5 ?_
  refine lv_isub hx hb dX9_isWord_8 ?_
  refine lv_iload_n hx hb dX9_isWord_9 rfl (lv_at hl 2 rfl) ?_
  refine lv_icmp_ne (tgt := 17) hx hb dX9_isWord_10 (by decide) (fun hc => ?_) (fun hc => ?_)
  · have h := h.1 hc
    refine lv_iconst (v := 0) hx hb dX9_isWord_17 (by decide) ?_
    exact wk_X9_isWord_18 S V hr hlocks x1 x3   post  0 _ _ _ _ h  hw (lv_sub hl [0, 1, 2] rfl)
  · have h := h.2 hc
    refine lv_iconst (v := 1) hx hb dX9_isWord_13 (by decide) ?_
    refine lv_goto (tgt := 18) hx hb dX9_isWord_14 (by decide) ?_
    exact wk_X9_isWord_18 S V hr hlocks x1 x3   post  1 _ _ _ _ h  hw (lv_sub hl [0, 1, 2] rfl)
theorem mt_X9_isWord (l : Launch) (D : va_G) (q : ClassId × ClassId × ClassId × ClassId) (ad : Nat → Nat → Nat) (x1 : Int64) (x3 : Int32) (σ : St) (post : Int32 → St → Prop) (h : wp_X9_isWord x1 x3 post σ) : cI l D clA LM ad (EM q ad) (EvM D q ad) yX9_isWord cX9_isWord 6 (some .boolean) { frames := 0, cells := 0, slots := 0, locals := 0 } [.ref (ad 0 0), .long x1, .int x3] σ post :=
  ent_i (by decide) (Nat.le_of_ble_eq_true rfl) (fun p e s m below meth c S V hr hlocks hw ls hl => wk_X9_isWord_0 S V hr hlocks x1 x3  post   σ _ _ ls h  hw (lv_sub hl [0, 1, 2] rfl))
def wp_X9_wordOf_139 (post : Int32 → St → Prop) (xs0 : Int32) (σ : St) : Prop := post xs0 σ
set_option maxHeartbeats 4000000 in
set_option maxRecDepth 100000 in
theorem wk_X9_wordOf_139 {p : Program} {l : Launch} {e : Env} {s : State} {m : MethodId} {below : List Frame} {meth : Method} {c : Code} {D : va_G} {q : ClassId × ClassId × ClassId × ClassId} {ad : Nat → Nat → Nat} {args : Array Value} (S : CallFix p m c cX9_wordOf 1 s args GW "OnChinModel") (V : EvM D q ad s) (hr : meth.sig.returnType = (some .int)) (hlocks : meth.locks = false) (post : Int32 → St → Prop)  : ∀ (xs0 : Int32) (σ : St) (H : Heap) (locs : List Loc) (ls : Array Slot), wp_X9_wordOf_139 post xs0 σ → wo D clA LM ad s.heap H locs (EM q ad σ) → lv_has ls 1 [(0, .ref (ad 0 0))] → W p l e { frames := 1, cells := 0, slots := 0, locals := 25 } s m args below meth c H locs 0 0 (MQ below (zQi D clA LM ad (EM q ad) post) args s 0 0 (zA LM ad)) (F0 m 139 ls [.int xs0]) := by
  have hx := S.1
  have hb := S.2.1
  intro xs0 σ H locs ls h  hw hl
  exact ret_i S hr hlocks hw h dX9_wordOf_139
def wp_X9_wordOf (post : Int32 → St → Prop)  (σ : St) : Prop := wp_X9_isWord 7808276 5 (fun r1 σ1 => ((r1 = 0 → wp_X9_isWord 538284 4 (fun r2 σ2 => ((r2 = 0 → wp_X9_isWord 182306 4 (fun r3 σ3 => ((r3 = 0 → wp_X9_isWord 14381 3 (fun r4 σ4 => ((r4 = 0 → wp_X9_isWord 19381638 5 (fun r5 σ5 => ((r5 = 0 → wp_X9_isWord 406192 4 (fun r6 σ6 => ((r6 = 0 → wp_X9_isWord 4675042 5 (fun r7 σ7 => ((r7 = 0 → wp_X9_isWord 145719 4 (fun r8 σ8 => ((r8 = 0 → wp_X9_isWord 5604627 5 (fun r9 σ9 => ((r9 = 0 → wp_X9_wordOf_139 post (-1) σ9) ∧ (¬ r9 = 0 → wp_X9_wordOf_139 post 8 σ9))) σ8) ∧ (¬ r8 = 0 → wp_X9_wordOf_139 post 7 σ8))) σ7) ∧ (¬ r7 = 0 → wp_X9_wordOf_139 post 6 σ7))) σ6) ∧ (¬ r6 = 0 → wp_X9_wordOf_139 post 5 σ6))) σ5) ∧ (¬ r5 = 0 → wp_X9_wordOf_139 post 4 σ5))) σ4) ∧ (¬ r4 = 0 → wp_X9_wordOf_139 post 3 σ4))) σ3) ∧ (¬ r3 = 0 → wp_X9_wordOf_139 post 2 σ3))) σ2) ∧ (¬ r2 = 0 → wp_X9_wordOf_139 post 1 σ2))) σ1) ∧ (¬ r1 = 0 → wp_X9_wordOf_139 post 0 σ1))) σ
set_option maxHeartbeats 4000000 in
set_option maxRecDepth 100000 in
theorem wk_X9_wordOf_0 {p : Program} {l : Launch} {e : Env} {s : State} {m : MethodId} {below : List Frame} {meth : Method} {c : Code} {D : va_G} {q : ClassId × ClassId × ClassId × ClassId} {ad : Nat → Nat → Nat} {args : Array Value} (S : CallFix p m c cX9_wordOf 1 s args GW "OnChinModel") (V : EvM D q ad s) (hr : meth.sig.returnType = (some .int)) (hlocks : meth.locks = false) (post : Int32 → St → Prop)  : ∀ (σ : St) (H : Heap) (locs : List Loc) (ls : Array Slot), wp_X9_wordOf post  σ → wo D clA LM ad s.heap H locs (EM q ad σ) → lv_has ls 1 [(0, .ref (ad 0 0))] → W p l e { frames := 1, cells := 0, slots := 0, locals := 25 } s m args below meth c H locs 0 0 (MQ below (zQi D clA LM ad (EM q ad) post) args s 0 0 (zA LM ad)) (F0 m 0 ls []) := by
  have hx := S.1
  have hb := S.2.1
  intro  σ H locs ls h  hw hl
  have h : wp_X9_isWord 7808276 5 (fun r1 σ1 => ((r1 = 0 → wp_X9_isWord 538284 4 (fun r2 σ2 => ((r2 = 0 → wp_X9_isWord 182306 4 (fun r3 σ3 => ((r3 = 0 → wp_X9_isWord 14381 3 (fun r4 σ4 => ((r4 = 0 → wp_X9_isWord 19381638 5 (fun r5 σ5 => ((r5 = 0 → wp_X9_isWord 406192 4 (fun r6 σ6 => ((r6 = 0 → wp_X9_isWord 4675042 5 (fun r7 σ7 => ((r7 = 0 → wp_X9_isWord 145719 4 (fun r8 σ8 => ((r8 = 0 → wp_X9_isWord 5604627 5 (fun r9 σ9 => ((r9 = 0 → wp_X9_wordOf_139 post (-1) σ9) ∧ (¬ r9 = 0 → wp_X9_wordOf_139 post 8 σ9))) σ8) ∧ (¬ r8 = 0 → wp_X9_wordOf_139 post 7 σ8))) σ7) ∧ (¬ r7 = 0 → wp_X9_wordOf_139 post 6 σ7))) σ6) ∧ (¬ r6 = 0 → wp_X9_wordOf_139 post 5 σ6))) σ5) ∧ (¬ r5 = 0 → wp_X9_wordOf_139 post 4 σ5))) σ4) ∧ (¬ r4 = 0 → wp_X9_wordOf_139 post 3 σ4))) σ3) ∧ (¬ r3 = 0 → wp_X9_wordOf_139 post 2 σ3))) σ2) ∧ (¬ r2 = 0 → wp_X9_wordOf_139 post 1 σ2))) σ1) ∧ (¬ r1 = 0 → wp_X9_wordOf_139 post 0 σ1))) σ := h
  refine lv_aload_n hx hb dX9_wordOf_0 rfl (lv_at hl 0 rfl) ?_
  refine lv_ldc2 (v := 7808276) hx hb S.2.2.2.1 (gw_S S _ kc_X9_116) dX9_wordOf_1 ?_
  refine lv_iconst (v := 5) hx hb dX9_wordOf_4 (by decide) ?_
  refine call_Vi (As := [.long 7808276, .int 5]) (rest := []) EvM_ok S V hw (mt_X9_isWord l D q ad 7808276 5  σ _ h) ok_X9_isWord ml_X9_118 (rM_0 S V hw (Nat.le_of_ble_eq_true rfl)) ⟨(Nat.le_of_ble_eq_true rfl), (Nat.le_of_ble_eq_true rfl)⟩ ⟨rfl, rfl⟩ rfl hl.1 rfl (Nat.le_of_ble_eq_true rfl) dX9_wordOf_5 (fun r1 σ1 H locs h hw => ?_)
  refine lv_if_eq (tgt := 15) hx hb dX9_wordOf_8 (by decide) (fun hc => ?_) (fun hc => ?_)
  · have h := h.1 hc
    refine lv_aload_n hx hb dX9_wordOf_15 rfl (lv_at hl 0 rfl) ?_
    refine lv_ldc2 (v := 538284) hx hb S.2.2.2.1 (gw_S S _ kc_X9_122) dX9_wordOf_16 ?_
    refine lv_iconst (v := 4) hx hb dX9_wordOf_19 (by decide) ?_
    refine call_Vi (As := [.long 538284, .int 4]) (rest := []) EvM_ok S V hw (mt_X9_isWord l D q ad 538284 4  σ1 _ h) ok_X9_isWord ml_X9_118 (rM_0 S V hw (Nat.le_of_ble_eq_true rfl)) ⟨(Nat.le_of_ble_eq_true rfl), (Nat.le_of_ble_eq_true rfl)⟩ ⟨rfl, rfl⟩ rfl hl.1 rfl (Nat.le_of_ble_eq_true rfl) dX9_wordOf_20 (fun r2 σ2 H locs h hw => ?_)
    refine lv_if_eq (tgt := 30) hx hb dX9_wordOf_23 (by decide) (fun hc => ?_) (fun hc => ?_)
    · have h := h.1 hc
      refine lv_aload_n hx hb dX9_wordOf_30 rfl (lv_at hl 0 rfl) ?_
      refine lv_ldc2 (v := 182306) hx hb S.2.2.2.1 (gw_S S _ kc_X9_124) dX9_wordOf_31 ?_
      refine lv_iconst (v := 4) hx hb dX9_wordOf_34 (by decide) ?_
      refine call_Vi (As := [.long 182306, .int 4]) (rest := []) EvM_ok S V hw (mt_X9_isWord l D q ad 182306 4  σ2 _ h) ok_X9_isWord ml_X9_118 (rM_0 S V hw (Nat.le_of_ble_eq_true rfl)) ⟨(Nat.le_of_ble_eq_true rfl), (Nat.le_of_ble_eq_true rfl)⟩ ⟨rfl, rfl⟩ rfl hl.1 rfl (Nat.le_of_ble_eq_true rfl) dX9_wordOf_35 (fun r3 σ3 H locs h hw => ?_)
      refine lv_if_eq (tgt := 45) hx hb dX9_wordOf_38 (by decide) (fun hc => ?_) (fun hc => ?_)
      · have h := h.1 hc
        refine lv_aload_n hx hb dX9_wordOf_45 rfl (lv_at hl 0 rfl) ?_
        refine lv_ldc2 (v := 14381) hx hb S.2.2.2.1 (gw_S S _ kc_X9_126) dX9_wordOf_46 ?_
        refine lv_iconst (v := 3) hx hb dX9_wordOf_49 (by decide) ?_
        refine call_Vi (As := [.long 14381, .int 3]) (rest := []) EvM_ok S V hw (mt_X9_isWord l D q ad 14381 3  σ3 _ h) ok_X9_isWord ml_X9_118 (rM_0 S V hw (Nat.le_of_ble_eq_true rfl)) ⟨(Nat.le_of_ble_eq_true rfl), (Nat.le_of_ble_eq_true rfl)⟩ ⟨rfl, rfl⟩ rfl hl.1 rfl (Nat.le_of_ble_eq_true rfl) dX9_wordOf_50 (fun r4 σ4 H locs h hw => ?_)
        refine lv_if_eq (tgt := 60) hx hb dX9_wordOf_53 (by decide) (fun hc => ?_) (fun hc => ?_)
        · have h := h.1 hc
          refine lv_aload_n hx hb dX9_wordOf_60 rfl (lv_at hl 0 rfl) ?_
          refine lv_ldc2 (v := 19381638) hx hb S.2.2.2.1 (gw_S S _ kc_X9_128) dX9_wordOf_61 ?_
          refine lv_iconst (v := 5) hx hb dX9_wordOf_64 (by decide) ?_
          refine call_Vi (As := [.long 19381638, .int 5]) (rest := []) EvM_ok S V hw (mt_X9_isWord l D q ad 19381638 5  σ4 _ h) ok_X9_isWord ml_X9_118 (rM_0 S V hw (Nat.le_of_ble_eq_true rfl)) ⟨(Nat.le_of_ble_eq_true rfl), (Nat.le_of_ble_eq_true rfl)⟩ ⟨rfl, rfl⟩ rfl hl.1 rfl (Nat.le_of_ble_eq_true rfl) dX9_wordOf_65 (fun r5 σ5 H locs h hw => ?_)
          refine lv_if_eq (tgt := 75) hx hb dX9_wordOf_68 (by decide) (fun hc => ?_) (fun hc => ?_)
          · have h := h.1 hc
            refine lv_aload_n hx hb dX9_wordOf_75 rfl (lv_at hl 0 rfl) ?_
            refine lv_ldc2 (v := 406192) hx hb S.2.2.2.1 (gw_S S _ kc_X9_130) dX9_wordOf_76 ?_
            refine lv_iconst (v := 4) hx hb dX9_wordOf_79 (by decide) ?_
            refine call_Vi (As := [.long 406192, .int 4]) (rest := []) EvM_ok S V hw (mt_X9_isWord l D q ad 406192 4  σ5 _ h) ok_X9_isWord ml_X9_118 (rM_0 S V hw (Nat.le_of_ble_eq_true rfl)) ⟨(Nat.le_of_ble_eq_true rfl), (Nat.le_of_ble_eq_true rfl)⟩ ⟨rfl, rfl⟩ rfl hl.1 rfl (Nat.le_of_ble_eq_true rfl) dX9_wordOf_80 (fun r6 σ6 H locs h hw => ?_)
            refine lv_if_eq (tgt := 90) hx hb dX9_wordOf_83 (by decide) (fun hc => ?_) (fun hc => ?_)
            · have h := h.1 hc
              refine lv_aload_n hx hb dX9_wordOf_90 rfl (lv_at hl 0 rfl) ?_
              refine lv_ldc2 (v := 4675042) hx hb S.2.2.2.1 (gw_S S _ kc_X9_132) dX9_wordOf_91 ?_
              refine lv_iconst (v := 5) hx hb dX9_wordOf_94 (by decide) ?_
              refine call_Vi (As := [.long 4675042, .int 5]) (rest := []) EvM_ok S V hw (mt_X9_isWord l D q ad 4675042 5  σ6 _ h) ok_X9_isWord ml_X9_118 (rM_0 S V hw (Nat.le_of_ble_eq_true rfl)) ⟨(Nat.le_of_ble_eq_true rfl), (Nat.le_of_ble_eq_true rfl)⟩ ⟨rfl, rfl⟩ rfl hl.1 rfl (Nat.le_of_ble_eq_true rfl) dX9_wordOf_95 (fun r7 σ7 H locs h hw => ?_)
              refine lv_if_eq (tgt := 106) hx hb dX9_wordOf_98 (by decide) (fun hc => ?_) (fun hc => ?_)
              · have h := h.1 hc
                refine lv_aload_n hx hb dX9_wordOf_106 rfl (lv_at hl 0 rfl) ?_
                refine lv_ldc2 (v := 145719) hx hb S.2.2.2.1 (gw_S S _ kc_X9_134) dX9_wordOf_107 ?_
                refine lv_iconst (v := 4) hx hb dX9_wordOf_110 (by decide) ?_
                refine call_Vi (As := [.long 145719, .int 4]) (rest := []) EvM_ok S V hw (mt_X9_isWord l D q ad 145719 4  σ7 _ h) ok_X9_isWord ml_X9_118 (rM_0 S V hw (Nat.le_of_ble_eq_true rfl)) ⟨(Nat.le_of_ble_eq_true rfl), (Nat.le_of_ble_eq_true rfl)⟩ ⟨rfl, rfl⟩ rfl hl.1 rfl (Nat.le_of_ble_eq_true rfl) dX9_wordOf_111 (fun r8 σ8 H locs h hw => ?_)
                refine lv_if_eq (tgt := 122) hx hb dX9_wordOf_114 (by decide) (fun hc => ?_) (fun hc => ?_)
                · have h := h.1 hc
                  refine lv_aload_n hx hb dX9_wordOf_122 rfl (lv_at hl 0 rfl) ?_
                  refine lv_ldc2 (v := 5604627) hx hb S.2.2.2.1 (gw_S S _ kc_X9_136) dX9_wordOf_123 ?_
                  refine lv_iconst (v := 5) hx hb dX9_wordOf_126 (by decide) ?_
                  refine call_Vi (As := [.long 5604627, .int 5]) (rest := []) EvM_ok S V hw (mt_X9_isWord l D q ad 5604627 5  σ8 _ h) ok_X9_isWord ml_X9_118 (rM_0 S V hw (Nat.le_of_ble_eq_true rfl)) ⟨(Nat.le_of_ble_eq_true rfl), (Nat.le_of_ble_eq_true rfl)⟩ ⟨rfl, rfl⟩ rfl hl.1 rfl (Nat.le_of_ble_eq_true rfl) dX9_wordOf_127 (fun r9 σ9 H locs h hw => ?_)
                  refine lv_if_eq (tgt := 138) hx hb dX9_wordOf_130 (by decide) (fun hc => ?_) (fun hc => ?_)
                  · have h := h.1 hc
                    refine lv_iconst (v := (-1)) hx hb dX9_wordOf_138 (by decide) ?_
                    exact wk_X9_wordOf_139 S V hr hlocks    post  (-1) _ _ _ _ h  hw (lv_sub hl [0] rfl)
                  · have h := h.2 hc
                    refine lv_bipush (v := 8) hx hb dX9_wordOf_133 (by decide) ?_
                    refine lv_goto (tgt := 139) hx hb dX9_wordOf_135 (by decide) ?_
                    exact wk_X9_wordOf_139 S V hr hlocks    post  8 _ _ _ _ h  hw (lv_sub hl [0] rfl)
                · have h := h.2 hc
                  refine lv_bipush (v := 7) hx hb dX9_wordOf_117 (by decide) ?_
                  refine lv_goto (tgt := 139) hx hb dX9_wordOf_119 (by decide) ?_
                  exact wk_X9_wordOf_139 S V hr hlocks    post  7 _ _ _ _ h  hw (lv_sub hl [0] rfl)
              · have h := h.2 hc
                refine lv_bipush (v := 6) hx hb dX9_wordOf_101 (by decide) ?_
                refine lv_goto (tgt := 139) hx hb dX9_wordOf_103 (by decide) ?_
                exact wk_X9_wordOf_139 S V hr hlocks    post  6 _ _ _ _ h  hw (lv_sub hl [0] rfl)
            · have h := h.2 hc
              refine lv_iconst (v := 5) hx hb dX9_wordOf_86 (by decide) ?_
              refine lv_goto (tgt := 139) hx hb dX9_wordOf_87 (by decide) ?_
              exact wk_X9_wordOf_139 S V hr hlocks    post  5 _ _ _ _ h  hw (lv_sub hl [0] rfl)
          · have h := h.2 hc
            refine lv_iconst (v := 4) hx hb dX9_wordOf_71 (by decide) ?_
            refine lv_goto (tgt := 139) hx hb dX9_wordOf_72 (by decide) ?_
            exact wk_X9_wordOf_139 S V hr hlocks    post  4 _ _ _ _ h  hw (lv_sub hl [0] rfl)
        · have h := h.2 hc
          refine lv_iconst (v := 3) hx hb dX9_wordOf_56 (by decide) ?_
          refine lv_goto (tgt := 139) hx hb dX9_wordOf_57 (by decide) ?_
          exact wk_X9_wordOf_139 S V hr hlocks    post  3 _ _ _ _ h  hw (lv_sub hl [0] rfl)
      · have h := h.2 hc
        refine lv_iconst (v := 2) hx hb dX9_wordOf_41 (by decide) ?_
        refine lv_goto (tgt := 139) hx hb dX9_wordOf_42 (by decide) ?_
        exact wk_X9_wordOf_139 S V hr hlocks    post  2 _ _ _ _ h  hw (lv_sub hl [0] rfl)
    · have h := h.2 hc
      refine lv_iconst (v := 1) hx hb dX9_wordOf_26 (by decide) ?_
      refine lv_goto (tgt := 139) hx hb dX9_wordOf_27 (by decide) ?_
      exact wk_X9_wordOf_139 S V hr hlocks    post  1 _ _ _ _ h  hw (lv_sub hl [0] rfl)
  · have h := h.2 hc
    refine lv_iconst (v := 0) hx hb dX9_wordOf_11 (by decide) ?_
    refine lv_goto (tgt := 139) hx hb dX9_wordOf_12 (by decide) ?_
    exact wk_X9_wordOf_139 S V hr hlocks    post  0 _ _ _ _ h  hw (lv_sub hl [0] rfl)
theorem mt_X9_wordOf (l : Launch) (D : va_G) (q : ClassId × ClassId × ClassId × ClassId) (ad : Nat → Nat → Nat)  (σ : St) (post : Int32 → St → Prop) (h : wp_X9_wordOf post σ) : cI l D clA LM ad (EM q ad) (EvM D q ad) yX9_wordOf cX9_wordOf 1 (some .int) { frames := 1, cells := 0, slots := 0, locals := 25 } [.ref (ad 0 0)] σ post :=
  ent_i (by decide) (Nat.le_of_ble_eq_true rfl) (fun p e s m below meth c S V hr hlocks hw ls hl => wk_X9_wordOf_0 S V hr hlocks   post   σ _ _ ls h  hw (lv_sub hl [0] rfl))
def wp_X9_reads_40 (x1 : Int32) (x2 : Int32) (x3 : Int32) (post : Int32 → St → Prop)  (σ : St) : Prop := post 0 σ
set_option maxHeartbeats 4000000 in
set_option maxRecDepth 100000 in
theorem wk_X9_reads_40 {p : Program} {l : Launch} {e : Env} {s : State} {m : MethodId} {below : List Frame} {meth : Method} {c : Code} {D : va_G} {q : ClassId × ClassId × ClassId × ClassId} {ad : Nat → Nat → Nat} {args : Array Value} (S : CallFix p m c cX9_reads 6 s args GW "OnChinModel") (V : EvM D q ad s) (hr : meth.sig.returnType = (some .boolean)) (hlocks : meth.locks = false) (x1 : Int32) (x2 : Int32) (x3 : Int32) (post : Int32 → St → Prop)  : ∀ (σ : St) (H : Heap) (locs : List Loc) (ls : Array Slot), wp_X9_reads_40 x1 x2 x3 post  σ → wo D clA LM ad s.heap H locs (EM q ad σ) → lv_has ls 6 [(0, .ref (ad 0 0)), (1, .int x1), (2, .int x2), (3, .int x3)] → W p l e { frames := 2, cells := 0, slots := 0, locals := 40 } s m args below meth c H locs 0 0 (MQ below (zQi D clA LM ad (EM q ad) post) args s 0 0 (zA LM ad)) (F0 m 40 ls []) := by
  have hx := S.1
  have hb := S.2.1
  intro  σ H locs ls h  hw hl
  refine lv_iconst (v := 0) hx hb dX9_reads_40 (by decide) ?_
  exact ret_z S hr hlocks hw (by decide) h dX9_reads_41
def wp_X9_reads_51 (x1 : Int32) (x2 : Int32) (x3 : Int32) (post : Int32 → St → Prop) : Nat → Int32 → Int32 → St → Prop
  | 0 => fun _ _ _ => False
  | n + 1 => fun x4 x5 σ => (((σ 0 0 20) ≤ x5 → wp_X9_in (Int32.toInt64 x4) (Int32.toInt64 x2) (Int32.toInt64 x3) (fun r1 σ1 => ((¬ r1 = 0 → (vp_in (((6 * (σ1 0 0 3)) + 1) + x1) 48 ∧ wp_X9_token (fun σ2 => post 1 σ2) (su σ1 2 0 ((((6 * (σ1 0 0 3)) + 1) + x1).toNatClampNeg) x4))) ∧ (r1 = 0 → post 0 σ1))) σ) ∧ (¬ (σ 0 0 20) ≤ x5 → (vp_in x5 200 ∧ wp_X9_reads_51 x1 x2 x3 post n (((10 * x4) + (σ 1 0 x5.toNatClampNeg)) - 48) (x5 + 1) σ)))
set_option maxHeartbeats 4000000 in
set_option maxRecDepth 100000 in
theorem wk_X9_reads_51 {p : Program} {l : Launch} {e : Env} {s : State} {m : MethodId} {below : List Frame} {meth : Method} {c : Code} {D : va_G} {q : ClassId × ClassId × ClassId × ClassId} {ad : Nat → Nat → Nat} {args : Array Value} (S : CallFix p m c cX9_reads 6 s args GW "OnChinModel") (V : EvM D q ad s) (hr : meth.sig.returnType = (some .boolean)) (hlocks : meth.locks = false) (x1 : Int32) (x2 : Int32) (x3 : Int32) (post : Int32 → St → Prop)  : ∀ (n : Nat) (x4 : Int32) (x5 : Int32) (σ : St) (H : Heap) (locs : List Loc) (ls : Array Slot), wp_X9_reads_51 x1 x2 x3 post n x4 x5 σ → wo D clA LM ad s.heap H locs (EM q ad σ) → lv_has ls 6 [(0, .ref (ad 0 0)), (1, .int x1), (2, .int x2), (3, .int x3), (4, .int x4), (5, .int x5)] → W p l e { frames := 2, cells := 0, slots := 0, locals := 40 } s m args below meth c H locs 0 0 (MQ below (zQi D clA LM ad (EM q ad) post) args s 0 0 (zA LM ad)) (F0 m 51 ls []) := by
  have hx := S.1
  have hb := S.2.1
  intro n
  induction n with
  | zero => intro x4 x5 σ H locs ls h; exact False.elim h
  | succ n ih =>
    intro x4 x5 σ H locs ls h  hw hl
    refine lv_iload hx hb dX9_reads_51 (lv_at hl 5 rfl) ?_
    refine lv_aload_n hx hb dX9_reads_53 rfl (lv_at hl 0 rfl) ?_
    refine gM_0_20 S V hw (Nat.le_of_ble_eq_true rfl) fl_X9_111 rfl dX9_reads_54 ?_
    refine lv_icmp_ge (tgt := 84) hx hb dX9_reads_57 (by decide) (fun hc => ?_) (fun hc => ?_)
    · have h := h.1 hc
      refine lv_iload hx hb dX9_reads_84 (lv_at hl 4 rfl) ?_
      refine lv_i2l (v := (Int32.toInt64 x4)) hx hb dX9_reads_86 rfl ?_
      refine lv_iload_n hx hb dX9_reads_87 rfl (lv_at hl 2 rfl) ?_
      refine lv_i2l (v := (Int32.toInt64 x2)) hx hb dX9_reads_88 rfl ?_
      refine lv_iload_n hx hb dX9_reads_89 rfl (lv_at hl 3 rfl) ?_
      refine lv_i2l (v := (Int32.toInt64 x3)) hx hb dX9_reads_90 rfl ?_
      refine call_Si (As := [.long (Int32.toInt64 x4), .long (Int32.toInt64 x2), .long (Int32.toInt64 x3)]) (rest := []) EvM_ok S V hw (mt_X9_in l D q ad (Int32.toInt64 x4) (Int32.toInt64 x2) (Int32.toInt64 x3)  σ _ h) ok_X9_in ml_X9_92 ⟨(Nat.le_of_ble_eq_true rfl), (Nat.le_of_ble_eq_true rfl)⟩ ⟨rfl, rfl⟩ rfl hl.1 rfl (Nat.le_of_ble_eq_true rfl) dX9_reads_91 (fun r1 σ1 H locs h hw => ?_)
      refine lv_if_ne (tgt := 99) hx hb dX9_reads_94 (by decide) (fun hc => ?_) (fun hc => ?_)
      · have h := h.1 hc
        refine lv_aload_n hx hb dX9_reads_99 rfl (lv_at hl 0 rfl) ?_
        refine gM_0_2 S V hw (Nat.le_of_ble_eq_true rfl) fl_X9_13 dX9_reads_100 ?_
        refine lv_bipush (v := 6) hx hb dX9_reads_103 (by decide) ?_
        refine lv_aload_n hx hb dX9_reads_105 rfl (lv_at hl 0 rfl) ?_
        refine gM_0_3 S V hw (Nat.le_of_ble_eq_true rfl) fl_X9_138 rfl dX9_reads_106 ?_
        refine lv_imul hx hb dX9_reads_109 ?_
        refine lv_iconst (v := 1) hx hb dX9_reads_110 (by decide) ?_
        refine lv_iadd hx hb dX9_reads_111 ?_
        refine lv_iload_n hx hb dX9_reads_112 rfl (lv_at hl 1 rfl) ?_
        refine lv_iadd hx hb dX9_reads_113 ?_
        refine lv_iload hx hb dX9_reads_114 (lv_at hl 4 rfl) ?_
        refine sM_2 S V hw (Nat.le_of_ble_eq_true rfl) h.1 dX9_reads_116 (fun H locs hw => ?_)
        have h := h.2
        refine lv_aload_n hx hb dX9_reads_117 rfl (lv_at hl 0 rfl) ?_
        refine call_Vv (As := []) (rest := []) EvM_ok S V hw (mt_X9_token l D q ad   (su σ1 2 0 ((((6 * (σ1 0 0 3)) + 1) + x1).toNatClampNeg) x4) _ h) ok_X9_token ml_X9_141 (rM_0 S V hw (Nat.le_of_ble_eq_true rfl)) ⟨(Nat.le_of_ble_eq_true rfl), (Nat.le_of_ble_eq_true rfl)⟩ ⟨rfl, rfl⟩ rfl hl.1 rfl (Nat.le_of_ble_eq_true rfl) dX9_reads_118 (fun σ2 H locs h hw => ?_)
        refine lv_iconst (v := 1) hx hb dX9_reads_121 (by decide) ?_
        exact ret_z S hr hlocks hw (by decide) h dX9_reads_122
      · have h := h.2 hc
        refine lv_iconst (v := 0) hx hb dX9_reads_97 (by decide) ?_
        exact ret_z S hr hlocks hw (by decide) h dX9_reads_98
    · have h := h.2 hc
      refine lv_bipush (v := 10) hx hb dX9_reads_60 (by decide) ?_
      refine lv_iload hx hb dX9_reads_62 (lv_at hl 4 rfl) ?_
      refine lv_imul hx hb dX9_reads_64 ?_
      refine lv_aload_n hx hb dX9_reads_65 rfl (lv_at hl 0 rfl) ?_
      refine gM_0_0 S V hw (Nat.le_of_ble_eq_true rfl) fl_X9_7 dX9_reads_66 ?_
      refine lv_iload hx hb dX9_reads_69 (lv_at hl 5 rfl) ?_
      refine aM_1 S V hw (Nat.le_of_ble_eq_true rfl) h.1 (z := (σ 1 0 x5.toNatClampNeg)) rfl dX9_reads_71 ?_
      have h := h.2
      refine lv_iadd hx hb dX9_reads_72 ?_
      refine lv_bipush (v := 48) hx hb dX9_reads_73 (by decide) ?_
      refine lv_isub hx hb dX9_reads_75 ?_
      refine lv_istore (lv' := [(4, .int (((10 * x4) + (σ 1 0 x5.toNatClampNeg)) - 48)), (0, .ref (ad 0 0)), (1, .int x1), (2, .int x2), (3, .int x3), (5, .int x5)]) hx hb dX9_reads_76 hl (by decide) rfl (fun ls hl => ?_)
      refine lv_iinc (v := (x5 + 1)) (lv' := [(5, .int (x5 + 1)), (4, .int (((10 * x4) + (σ 1 0 x5.toNatClampNeg)) - 48)), (0, .ref (ad 0 0)), (1, .int x1), (2, .int x2), (3, .int x3)]) hx hb dX9_reads_78 hl (k := 5) rfl rfl (by decide) rfl (fun ls hl => ?_)
      refine lv_goto (tgt := 51) hx hb dX9_reads_81 (by decide) ?_
      exact ih (((10 * x4) + (σ 1 0 x5.toNatClampNeg)) - 48) (x5 + 1) _ _ _ _ h  hw (lv_sub hl [2, 3, 4, 5, 1, 0] rfl)
def wp_X9_reads (x1 : Int32) (x2 : Int32) (x3 : Int32) (post : Int32 → St → Prop)  (σ : St) : Prop := (((σ 0 0 19) = (σ 0 0 1) → wp_X9_reads_40 x1 x2 x3 post  σ) ∧ (¬ (σ 0 0 19) = (σ 0 0 1) → (vp_in (σ 0 0 19) 200 ∧ wp_X9_sort (σ 1 0 ((σ 0 0 19).toNatClampNeg)) (fun r1 σ1 => ((¬ r1 = 2 → wp_X9_reads_40 x1 x2 x3 post  σ1) ∧ (r1 = 2 → ((((σ1 0 0 20) - (σ1 0 0 19)) ≤ 3 → ∃ nn, wp_X9_reads_51 x1 x2 x3 post nn 0 (σ1 0 0 19) σ1) ∧ (¬ ((σ1 0 0 20) - (σ1 0 0 19)) ≤ 3 → wp_X9_reads_40 x1 x2 x3 post  σ1))))) σ)))
set_option maxHeartbeats 4000000 in
set_option maxRecDepth 100000 in
theorem wk_X9_reads_0 {p : Program} {l : Launch} {e : Env} {s : State} {m : MethodId} {below : List Frame} {meth : Method} {c : Code} {D : va_G} {q : ClassId × ClassId × ClassId × ClassId} {ad : Nat → Nat → Nat} {args : Array Value} (S : CallFix p m c cX9_reads 6 s args GW "OnChinModel") (V : EvM D q ad s) (hr : meth.sig.returnType = (some .boolean)) (hlocks : meth.locks = false) (x1 : Int32) (x2 : Int32) (x3 : Int32) (post : Int32 → St → Prop)  : ∀ (σ : St) (H : Heap) (locs : List Loc) (ls : Array Slot), wp_X9_reads x1 x2 x3 post  σ → wo D clA LM ad s.heap H locs (EM q ad σ) → lv_has ls 6 [(0, .ref (ad 0 0)), (1, .int x1), (2, .int x2), (3, .int x3)] → W p l e { frames := 2, cells := 0, slots := 0, locals := 40 } s m args below meth c H locs 0 0 (MQ below (zQi D clA LM ad (EM q ad) post) args s 0 0 (zA LM ad)) (F0 m 0 ls []) := by
  have hx := S.1
  have hb := S.2.1
  intro  σ H locs ls h  hw hl
  refine lv_aload_n hx hb dX9_reads_0 rfl (lv_at hl 0 rfl) ?_
  refine gM_0_19 S V hw (Nat.le_of_ble_eq_true rfl) fl_X9_104 rfl dX9_reads_1 ?_
  refine lv_aload_n hx hb dX9_reads_4 rfl (lv_at hl 0 rfl) ?_
  refine gM_0_1 S V hw (Nat.le_of_ble_eq_true rfl) fl_X9_96 rfl dX9_reads_5 ?_
  refine lv_icmp_eq (tgt := 40) hx hb dX9_reads_8 (by decide) (fun hc => ?_) (fun hc => ?_)
  · have h := h.1 hc
    exact wk_X9_reads_40 S V hr hlocks x1 x2 x3   post   _ _ _ _ h  hw (lv_sub hl [0, 1, 2, 3] rfl)
  · have h := h.2 hc
    refine lv_aload_n hx hb dX9_reads_11 rfl (lv_at hl 0 rfl) ?_
    refine gM_0_0 S V hw (Nat.le_of_ble_eq_true rfl) fl_X9_7 dX9_reads_12 ?_
    refine lv_aload_n hx hb dX9_reads_15 rfl (lv_at hl 0 rfl) ?_
    refine gM_0_19 S V hw (Nat.le_of_ble_eq_true rfl) fl_X9_104 rfl dX9_reads_16 ?_
    refine aM_1 S V hw (Nat.le_of_ble_eq_true rfl) h.1 (z := (σ 1 0 ((σ 0 0 19).toNatClampNeg))) rfl dX9_reads_19 ?_
    have h := h.2
    refine call_Si (As := [.int (σ 1 0 ((σ 0 0 19).toNatClampNeg))]) (rest := []) EvM_ok S V hw (mt_X9_sort l D q ad (σ 1 0 ((σ 0 0 19).toNatClampNeg))  σ _ h) ok_X9_sort ml_X9_107 ⟨(Nat.le_of_ble_eq_true rfl), (Nat.le_of_ble_eq_true rfl)⟩ ⟨rfl, rfl⟩ rfl hl.1 rfl (Nat.le_of_ble_eq_true rfl) dX9_reads_20 (fun r1 σ1 H locs h hw => ?_)
    refine lv_iconst (v := 2) hx hb dX9_reads_23 (by decide) ?_
    refine lv_icmp_ne (tgt := 40) hx hb dX9_reads_24 (by decide) (fun hc => ?_) (fun hc => ?_)
    · have h := h.1 hc
      exact wk_X9_reads_40 S V hr hlocks x1 x2 x3   post   _ _ _ _ h  hw (lv_sub hl [0, 1, 2, 3] rfl)
    · have h := h.2 hc
      refine lv_aload_n hx hb dX9_reads_27 rfl (lv_at hl 0 rfl) ?_
      refine gM_0_20 S V hw (Nat.le_of_ble_eq_true rfl) fl_X9_111 rfl dX9_reads_28 ?_
      refine lv_aload_n hx hb dX9_reads_31 rfl (lv_at hl 0 rfl) ?_
      refine gM_0_19 S V hw (Nat.le_of_ble_eq_true rfl) fl_X9_104 rfl dX9_reads_32 ?_
      refine lv_isub hx hb dX9_reads_35 ?_
      refine lv_iconst (v := 3) hx hb dX9_reads_36 (by decide) ?_
      refine lv_icmp_le (tgt := 42) hx hb dX9_reads_37 (by decide) (fun hc => ?_) (fun hc => ?_)
      · have h := h.1 hc
        refine lv_iconst (v := 0) hx hb dX9_reads_42 (by decide) ?_
        refine lv_istore (lv' := [(4, .int 0), (0, .ref (ad 0 0)), (1, .int x1), (2, .int x2), (3, .int x3)]) hx hb dX9_reads_43 hl (by decide) rfl (fun ls hl => ?_)
        refine lv_aload_n hx hb dX9_reads_45 rfl (lv_at hl 1 rfl) ?_
        refine gM_0_19 S V hw (Nat.le_of_ble_eq_true rfl) fl_X9_104 rfl dX9_reads_46 ?_
        refine lv_istore (lv' := [(5, .int (σ1 0 0 19)), (4, .int 0), (0, .ref (ad 0 0)), (1, .int x1), (2, .int x2), (3, .int x3)]) hx hb dX9_reads_49 hl (by decide) rfl (fun ls hl => ?_)
        obtain ⟨n9, h⟩ := h
        exact wk_X9_reads_51 S V hr hlocks x1 x2 x3   post  n9 0 (σ1 0 0 19) _ _ _ _ h  hw (lv_sub hl [2, 3, 4, 5, 1, 0] rfl)
      · have h := h.2 hc
        exact wk_X9_reads_40 S V hr hlocks x1 x2 x3   post   _ _ _ _ h  hw (lv_sub hl [0, 1, 2, 3] rfl)
theorem mt_X9_reads (l : Launch) (D : va_G) (q : ClassId × ClassId × ClassId × ClassId) (ad : Nat → Nat → Nat) (x1 : Int32) (x2 : Int32) (x3 : Int32) (σ : St) (post : Int32 → St → Prop) (h : wp_X9_reads x1 x2 x3 post σ) : cI l D clA LM ad (EM q ad) (EvM D q ad) yX9_reads cX9_reads 6 (some .boolean) { frames := 2, cells := 0, slots := 0, locals := 40 } [.ref (ad 0 0), .int x1, .int x2, .int x3] σ post :=
  ent_i (by decide) (Nat.le_of_ble_eq_true rfl) (fun p e s m below meth c S V hr hlocks hw ls hl => wk_X9_reads_0 S V hr hlocks x1 x2 x3  post   σ _ _ ls h  hw (lv_sub hl [0, 1, 2, 3] rfl))
def wp_X9_readsKind_125 (post : Int32 → St → Prop) (xs0 : Int32) (σ : St) : Prop := (narrow .boolean (.int xs0) = .int xs0 ∧ post xs0 σ)
set_option maxHeartbeats 4000000 in
set_option maxRecDepth 100000 in
theorem wk_X9_readsKind_125 {p : Program} {l : Launch} {e : Env} {s : State} {m : MethodId} {below : List Frame} {meth : Method} {c : Code} {D : va_G} {q : ClassId × ClassId × ClassId × ClassId} {ad : Nat → Nat → Nat} {args : Array Value} (S : CallFix p m c cX9_readsKind 2 s args GW "OnChinModel") (V : EvM D q ad s) (hr : meth.sig.returnType = (some .boolean)) (hlocks : meth.locks = false) (post : Int32 → St → Prop)  : ∀ (xs0 : Int32) (σ : St) (H : Heap) (locs : List Loc) (ls : Array Slot), wp_X9_readsKind_125 post xs0 σ → wo D clA LM ad s.heap H locs (EM q ad σ) → lv_has ls 2 [(0, .ref (ad 0 0))] → W p l e { frames := 3, cells := 0, slots := 0, locals := 65 } s m args below meth c H locs 0 0 (MQ below (zQi D clA LM ad (EM q ad) post) args s 0 0 (zA LM ad)) (F0 m 125 ls [.int xs0]) := by
  have hx := S.1
  have hb := S.2.1
  intro xs0 σ H locs ls h  hw hl
  exact ret_z S hr hlocks hw h.1 h.2 dX9_readsKind_125
def wp_X9_readsKind_120 (post : Int32 → St → Prop)  (σ : St) : Prop := wp_X9_readsKind_125 post 1 σ
set_option maxHeartbeats 4000000 in
set_option maxRecDepth 100000 in
theorem wk_X9_readsKind_120 {p : Program} {l : Launch} {e : Env} {s : State} {m : MethodId} {below : List Frame} {meth : Method} {c : Code} {D : va_G} {q : ClassId × ClassId × ClassId × ClassId} {ad : Nat → Nat → Nat} {args : Array Value} (S : CallFix p m c cX9_readsKind 2 s args GW "OnChinModel") (V : EvM D q ad s) (hr : meth.sig.returnType = (some .boolean)) (hlocks : meth.locks = false) (post : Int32 → St → Prop)  : ∀ (σ : St) (H : Heap) (locs : List Loc) (ls : Array Slot), wp_X9_readsKind_120 post  σ → wo D clA LM ad s.heap H locs (EM q ad σ) → lv_has ls 2 [(0, .ref (ad 0 0))] → W p l e { frames := 3, cells := 0, slots := 0, locals := 65 } s m args below meth c H locs 0 0 (MQ below (zQi D clA LM ad (EM q ad) post) args s 0 0 (zA LM ad)) (F0 m 120 ls []) := by
  have hx := S.1
  have hb := S.2.1
  intro  σ H locs ls h  hw hl
  have h : wp_X9_readsKind_125 post 1 σ := h
  refine lv_iconst (v := 1) hx hb dX9_readsKind_120 (by decide) ?_
  refine lv_goto (tgt := 125) hx hb dX9_readsKind_121 (by decide) ?_
  exact wk_X9_readsKind_125 S V hr hlocks    post  1 _ _ _ _ h  hw (lv_sub hl [0] rfl)
def wp_X9_readsKind_63 (post : Int32 → St → Prop) (xs0 : Int32) (σ : St) : Prop := ((¬ xs0 = (-1) → wp_X9_token (fun σ1 => (vp_in ((6 * (σ1 0 0 3)) + 2) 48 ∧ (vp_in ((6 * (σ1 0 0 3)) + 3) 48 ∧ ((xs0 = 0 → wp_X9_readsKind_120 post  (su (su σ1 2 0 (((6 * (σ1 0 0 3)) + 2).toNatClampNeg) xs0) 2 0 (((6 * (σ1 0 0 3)) + 3).toNatClampNeg) 0)) ∧ (¬ xs0 = 0 → wp_X9_reads 2 1 9 (fun r2 σ2 => ((r2 = 0 → wp_X9_readsKind_125 post 0 σ2) ∧ (¬ r2 = 0 → wp_X9_readsKind_120 post  σ2))) (su (su σ1 2 0 (((6 * (σ1 0 0 3)) + 2).toNatClampNeg) xs0) 2 0 (((6 * (σ1 0 0 3)) + 3).toNatClampNeg) 0)))))) σ) ∧ (xs0 = (-1) → post 0 σ))
set_option maxHeartbeats 4000000 in
set_option maxRecDepth 100000 in
theorem wk_X9_readsKind_63 {p : Program} {l : Launch} {e : Env} {s : State} {m : MethodId} {below : List Frame} {meth : Method} {c : Code} {D : va_G} {q : ClassId × ClassId × ClassId × ClassId} {ad : Nat → Nat → Nat} {args : Array Value} (S : CallFix p m c cX9_readsKind 2 s args GW "OnChinModel") (V : EvM D q ad s) (hr : meth.sig.returnType = (some .boolean)) (hlocks : meth.locks = false) (post : Int32 → St → Prop)  : ∀ (xs0 : Int32) (σ : St) (H : Heap) (locs : List Loc) (ls : Array Slot), wp_X9_readsKind_63 post xs0 σ → wo D clA LM ad s.heap H locs (EM q ad σ) → lv_has ls 2 [(0, .ref (ad 0 0))] → W p l e { frames := 3, cells := 0, slots := 0, locals := 65 } s m args below meth c H locs 0 0 (MQ below (zQi D clA LM ad (EM q ad) post) args s 0 0 (zA LM ad)) (F0 m 63 ls [.int xs0]) := by
  have hx := S.1
  have hb := S.2.1
  intro xs0 σ H locs ls h  hw hl
  refine lv_istore_n (lv' := [(1, .int xs0), (0, .ref (ad 0 0))]) hx hb dX9_readsKind_63 rfl hl (by decide) rfl (fun ls hl => ?_)
  refine lv_iload_n hx hb dX9_readsKind_64 rfl (lv_at hl 0 rfl) ?_
  refine lv_iconst (v := (-1)) hx hb dX9_readsKind_65 (by decide) ?_
  refine lv_icmp_ne (tgt := 71) hx hb dX9_readsKind_66 (by decide) (fun hc => ?_) (fun hc => ?_)
  · have h := h.1 hc
    refine lv_aload_n hx hb dX9_readsKind_71 rfl (lv_at hl 1 rfl) ?_
    refine call_Vv (As := []) (rest := []) EvM_ok S V hw (mt_X9_token l D q ad   σ _ h) ok_X9_token ml_X9_141 (rM_0 S V hw (Nat.le_of_ble_eq_true rfl)) ⟨(Nat.le_of_ble_eq_true rfl), (Nat.le_of_ble_eq_true rfl)⟩ ⟨rfl, rfl⟩ rfl hl.1 rfl (Nat.le_of_ble_eq_true rfl) dX9_readsKind_72 (fun σ1 H locs h hw => ?_)
    refine lv_aload_n hx hb dX9_readsKind_75 rfl (lv_at hl 1 rfl) ?_
    refine gM_0_2 S V hw (Nat.le_of_ble_eq_true rfl) fl_X9_13 dX9_readsKind_76 ?_
    refine lv_bipush (v := 6) hx hb dX9_readsKind_79 (by decide) ?_
    refine lv_aload_n hx hb dX9_readsKind_81 rfl (lv_at hl 1 rfl) ?_
    refine gM_0_3 S V hw (Nat.le_of_ble_eq_true rfl) fl_X9_138 rfl dX9_readsKind_82 ?_
    refine lv_imul hx hb dX9_readsKind_85 ?_
    refine lv_iconst (v := 2) hx hb dX9_readsKind_86 (by decide) ?_
    refine lv_iadd hx hb dX9_readsKind_87 ?_
    refine lv_iload_n hx hb dX9_readsKind_88 rfl (lv_at hl 0 rfl) ?_
    refine sM_2 S V hw (Nat.le_of_ble_eq_true rfl) h.1 dX9_readsKind_89 (fun H locs hw => ?_)
    have h := h.2
    refine lv_aload_n hx hb dX9_readsKind_90 rfl (lv_at hl 1 rfl) ?_
    refine gM_0_2 S V hw (Nat.le_of_ble_eq_true rfl) fl_X9_13 dX9_readsKind_91 ?_
    refine lv_bipush (v := 6) hx hb dX9_readsKind_94 (by decide) ?_
    refine lv_aload_n hx hb dX9_readsKind_96 rfl (lv_at hl 1 rfl) ?_
    refine gM_0_3 S V hw (Nat.le_of_ble_eq_true rfl) fl_X9_138 (su_nc rfl) dX9_readsKind_97 ?_
    refine lv_imul hx hb dX9_readsKind_100 ?_
    refine lv_iconst (v := 3) hx hb dX9_readsKind_101 (by decide) ?_
    refine lv_iadd hx hb dX9_readsKind_102 ?_
    refine lv_iconst (v := 0) hx hb dX9_readsKind_103 (by decide) ?_
    refine sM_2 S V hw (Nat.le_of_ble_eq_true rfl) h.1 dX9_readsKind_104 (fun H locs hw => ?_)
    have h := h.2
    refine lv_iload_n hx hb dX9_readsKind_105 rfl (lv_at hl 0 rfl) ?_
    refine lv_if_eq (tgt := 120) hx hb dX9_readsKind_106 (by decide) (fun hc => ?_) (fun hc => ?_)
    · have h := h.1 hc
      exact wk_X9_readsKind_120 S V hr hlocks    post   _ _ _ _ h  hw (lv_sub hl [1] rfl)
    · have h := h.2 hc
      refine lv_aload_n hx hb dX9_readsKind_109 rfl (lv_at hl 1 rfl) ?_
      refine lv_iconst (v := 2) hx hb dX9_readsKind_110 (by decide) ?_
      refine lv_iconst (v := 1) hx hb dX9_readsKind_111 (by decide) ?_
      refine lv_bipush (v := 9) hx hb dX9_readsKind_112 (by decide) ?_
      refine call_Vi (As := [.int 2, .int 1, .int 9]) (rest := []) EvM_ok S V hw (mt_X9_reads l D q ad 2 1 9  (su (su σ1 2 0 (((6 * (σ1 0 0 3)) + 2).toNatClampNeg) xs0) 2 0 (((6 * (σ1 0 0 3)) + 3).toNatClampNeg) 0) _ h) ok_X9_reads ml_X9_152 (rM_0 S V hw (Nat.le_of_ble_eq_true rfl)) ⟨(Nat.le_of_ble_eq_true rfl), (Nat.le_of_ble_eq_true rfl)⟩ ⟨rfl, rfl⟩ rfl hl.1 rfl (Nat.le_of_ble_eq_true rfl) dX9_readsKind_114 (fun r2 σ2 H locs h hw => ?_)
      refine lv_if_eq (tgt := 124) hx hb dX9_readsKind_117 (by decide) (fun hc => ?_) (fun hc => ?_)
      · have h := h.1 hc
        refine lv_iconst (v := 0) hx hb dX9_readsKind_124 (by decide) ?_
        exact wk_X9_readsKind_125 S V hr hlocks    post  0 _ _ _ _ h  hw (lv_sub hl [1] rfl)
      · have h := h.2 hc
        exact wk_X9_readsKind_120 S V hr hlocks    post   _ _ _ _ h  hw (lv_sub hl [1] rfl)
  · have h := h.2 hc
    refine lv_iconst (v := 0) hx hb dX9_readsKind_69 (by decide) ?_
    exact ret_z S hr hlocks hw (by decide) h dX9_readsKind_70
def wp_X9_readsKind (post : Int32 → St → Prop)  (σ : St) : Prop := wp_X9_isWord 14976400 5 (fun r1 σ1 => ((r1 = 0 → wp_X9_isWord 7995869876 7 (fun r2 σ2 => ((r2 = 0 → wp_X9_isWord 20663 3 (fun r3 σ3 => ((r3 = 0 → wp_X9_isWord 4484179434 7 (fun r4 σ4 => ((r4 = 0 → wp_X9_readsKind_63 post (-1) σ4) ∧ (¬ r4 = 0 → wp_X9_readsKind_63 post 3 σ4))) σ3) ∧ (¬ r3 = 0 → wp_X9_readsKind_63 post 2 σ3))) σ2) ∧ (¬ r2 = 0 → wp_X9_readsKind_63 post 1 σ2))) σ1) ∧ (¬ r1 = 0 → wp_X9_readsKind_63 post 0 σ1))) σ
set_option maxHeartbeats 4000000 in
set_option maxRecDepth 100000 in
theorem wk_X9_readsKind_0 {p : Program} {l : Launch} {e : Env} {s : State} {m : MethodId} {below : List Frame} {meth : Method} {c : Code} {D : va_G} {q : ClassId × ClassId × ClassId × ClassId} {ad : Nat → Nat → Nat} {args : Array Value} (S : CallFix p m c cX9_readsKind 2 s args GW "OnChinModel") (V : EvM D q ad s) (hr : meth.sig.returnType = (some .boolean)) (hlocks : meth.locks = false) (post : Int32 → St → Prop)  : ∀ (σ : St) (H : Heap) (locs : List Loc) (ls : Array Slot), wp_X9_readsKind post  σ → wo D clA LM ad s.heap H locs (EM q ad σ) → lv_has ls 2 [(0, .ref (ad 0 0))] → W p l e { frames := 3, cells := 0, slots := 0, locals := 65 } s m args below meth c H locs 0 0 (MQ below (zQi D clA LM ad (EM q ad) post) args s 0 0 (zA LM ad)) (F0 m 0 ls []) := by
  have hx := S.1
  have hb := S.2.1
  intro  σ H locs ls h  hw hl
  have h : wp_X9_isWord 14976400 5 (fun r1 σ1 => ((r1 = 0 → wp_X9_isWord 7995869876 7 (fun r2 σ2 => ((r2 = 0 → wp_X9_isWord 20663 3 (fun r3 σ3 => ((r3 = 0 → wp_X9_isWord 4484179434 7 (fun r4 σ4 => ((r4 = 0 → wp_X9_readsKind_63 post (-1) σ4) ∧ (¬ r4 = 0 → wp_X9_readsKind_63 post 3 σ4))) σ3) ∧ (¬ r3 = 0 → wp_X9_readsKind_63 post 2 σ3))) σ2) ∧ (¬ r2 = 0 → wp_X9_readsKind_63 post 1 σ2))) σ1) ∧ (¬ r1 = 0 → wp_X9_readsKind_63 post 0 σ1))) σ := h
  refine lv_aload_n hx hb dX9_readsKind_0 rfl (lv_at hl 0 rfl) ?_
  refine lv_ldc2 (v := 14976400) hx hb S.2.2.2.1 (gw_S S _ kc_X9_144) dX9_readsKind_1 ?_
  refine lv_iconst (v := 5) hx hb dX9_readsKind_4 (by decide) ?_
  refine call_Vi (As := [.long 14976400, .int 5]) (rest := []) EvM_ok S V hw (mt_X9_isWord l D q ad 14976400 5  σ _ h) ok_X9_isWord ml_X9_118 (rM_0 S V hw (Nat.le_of_ble_eq_true rfl)) ⟨(Nat.le_of_ble_eq_true rfl), (Nat.le_of_ble_eq_true rfl)⟩ ⟨rfl, rfl⟩ rfl hl.1 rfl (Nat.le_of_ble_eq_true rfl) dX9_readsKind_5 (fun r1 σ1 H locs h hw => ?_)
  refine lv_if_eq (tgt := 15) hx hb dX9_readsKind_8 (by decide) (fun hc => ?_) (fun hc => ?_)
  · have h := h.1 hc
    refine lv_aload_n hx hb dX9_readsKind_15 rfl (lv_at hl 0 rfl) ?_
    refine lv_ldc2 (v := 7995869876) hx hb S.2.2.2.1 (gw_S S _ kc_X9_146) dX9_readsKind_16 ?_
    refine lv_bipush (v := 7) hx hb dX9_readsKind_19 (by decide) ?_
    refine call_Vi (As := [.long 7995869876, .int 7]) (rest := []) EvM_ok S V hw (mt_X9_isWord l D q ad 7995869876 7  σ1 _ h) ok_X9_isWord ml_X9_118 (rM_0 S V hw (Nat.le_of_ble_eq_true rfl)) ⟨(Nat.le_of_ble_eq_true rfl), (Nat.le_of_ble_eq_true rfl)⟩ ⟨rfl, rfl⟩ rfl hl.1 rfl (Nat.le_of_ble_eq_true rfl) dX9_readsKind_21 (fun r2 σ2 H locs h hw => ?_)
    refine lv_if_eq (tgt := 31) hx hb dX9_readsKind_24 (by decide) (fun hc => ?_) (fun hc => ?_)
    · have h := h.1 hc
      refine lv_aload_n hx hb dX9_readsKind_31 rfl (lv_at hl 0 rfl) ?_
      refine lv_ldc2 (v := 20663) hx hb S.2.2.2.1 (gw_S S _ kc_X9_148) dX9_readsKind_32 ?_
      refine lv_iconst (v := 3) hx hb dX9_readsKind_35 (by decide) ?_
      refine call_Vi (As := [.long 20663, .int 3]) (rest := []) EvM_ok S V hw (mt_X9_isWord l D q ad 20663 3  σ2 _ h) ok_X9_isWord ml_X9_118 (rM_0 S V hw (Nat.le_of_ble_eq_true rfl)) ⟨(Nat.le_of_ble_eq_true rfl), (Nat.le_of_ble_eq_true rfl)⟩ ⟨rfl, rfl⟩ rfl hl.1 rfl (Nat.le_of_ble_eq_true rfl) dX9_readsKind_36 (fun r3 σ3 H locs h hw => ?_)
      refine lv_if_eq (tgt := 46) hx hb dX9_readsKind_39 (by decide) (fun hc => ?_) (fun hc => ?_)
      · have h := h.1 hc
        refine lv_aload_n hx hb dX9_readsKind_46 rfl (lv_at hl 0 rfl) ?_
        refine lv_ldc2 (v := 4484179434) hx hb S.2.2.2.1 (gw_S S _ kc_X9_150) dX9_readsKind_47 ?_
        refine lv_bipush (v := 7) hx hb dX9_readsKind_50 (by decide) ?_
        refine call_Vi (As := [.long 4484179434, .int 7]) (rest := []) EvM_ok S V hw (mt_X9_isWord l D q ad 4484179434 7  σ3 _ h) ok_X9_isWord ml_X9_118 (rM_0 S V hw (Nat.le_of_ble_eq_true rfl)) ⟨(Nat.le_of_ble_eq_true rfl), (Nat.le_of_ble_eq_true rfl)⟩ ⟨rfl, rfl⟩ rfl hl.1 rfl (Nat.le_of_ble_eq_true rfl) dX9_readsKind_52 (fun r4 σ4 H locs h hw => ?_)
        refine lv_if_eq (tgt := 62) hx hb dX9_readsKind_55 (by decide) (fun hc => ?_) (fun hc => ?_)
        · have h := h.1 hc
          refine lv_iconst (v := (-1)) hx hb dX9_readsKind_62 (by decide) ?_
          exact wk_X9_readsKind_63 S V hr hlocks    post  (-1) _ _ _ _ h  hw (lv_sub hl [0] rfl)
        · have h := h.2 hc
          refine lv_iconst (v := 3) hx hb dX9_readsKind_58 (by decide) ?_
          refine lv_goto (tgt := 63) hx hb dX9_readsKind_59 (by decide) ?_
          exact wk_X9_readsKind_63 S V hr hlocks    post  3 _ _ _ _ h  hw (lv_sub hl [0] rfl)
      · have h := h.2 hc
        refine lv_iconst (v := 2) hx hb dX9_readsKind_42 (by decide) ?_
        refine lv_goto (tgt := 63) hx hb dX9_readsKind_43 (by decide) ?_
        exact wk_X9_readsKind_63 S V hr hlocks    post  2 _ _ _ _ h  hw (lv_sub hl [0] rfl)
    · have h := h.2 hc
      refine lv_iconst (v := 1) hx hb dX9_readsKind_27 (by decide) ?_
      refine lv_goto (tgt := 63) hx hb dX9_readsKind_28 (by decide) ?_
      exact wk_X9_readsKind_63 S V hr hlocks    post  1 _ _ _ _ h  hw (lv_sub hl [0] rfl)
  · have h := h.2 hc
    refine lv_iconst (v := 0) hx hb dX9_readsKind_11 (by decide) ?_
    refine lv_goto (tgt := 63) hx hb dX9_readsKind_12 (by decide) ?_
    exact wk_X9_readsKind_63 S V hr hlocks    post  0 _ _ _ _ h  hw (lv_sub hl [0] rfl)
theorem mt_X9_readsKind (l : Launch) (D : va_G) (q : ClassId × ClassId × ClassId × ClassId) (ad : Nat → Nat → Nat)  (σ : St) (post : Int32 → St → Prop) (h : wp_X9_readsKind post σ) : cI l D clA LM ad (EM q ad) (EvM D q ad) yX9_readsKind cX9_readsKind 2 (some .boolean) { frames := 3, cells := 0, slots := 0, locals := 65 } [.ref (ad 0 0)] σ post :=
  ent_i (by decide) (Nat.le_of_ble_eq_true rfl) (fun p e s m below meth c S V hr hlocks hw ls hl => wk_X9_readsKind_0 S V hr hlocks   post   σ _ _ ls h  hw (lv_sub hl [0] rfl))
def wp_X9_readsLump_75 (post : Int32 → St → Prop) (xs0 : Int32) (σ : St) : Prop := (narrow .boolean (.int xs0) = .int xs0 ∧ post xs0 σ)
set_option maxHeartbeats 4000000 in
set_option maxRecDepth 100000 in
theorem wk_X9_readsLump_75 {p : Program} {l : Launch} {e : Env} {s : State} {m : MethodId} {below : List Frame} {meth : Method} {c : Code} {D : va_G} {q : ClassId × ClassId × ClassId × ClassId} {ad : Nat → Nat → Nat} {args : Array Value} (S : CallFix p m c cX9_readsLump 2 s args GW "OnChinModel") (V : EvM D q ad s) (hr : meth.sig.returnType = (some .boolean)) (hlocks : meth.locks = false) (post : Int32 → St → Prop)  : ∀ (xs0 : Int32) (σ : St) (H : Heap) (locs : List Loc) (ls : Array Slot), wp_X9_readsLump_75 post xs0 σ → wo D clA LM ad s.heap H locs (EM q ad σ) → lv_has ls 2 [(0, .ref (ad 0 0))] → W p l e { frames := 3, cells := 0, slots := 0, locals := 65 } s m args below meth c H locs 0 0 (MQ below (zQi D clA LM ad (EM q ad) post) args s 0 0 (zA LM ad)) (F0 m 75 ls [.int xs0]) := by
  have hx := S.1
  have hb := S.2.1
  intro xs0 σ H locs ls h  hw hl
  exact ret_z S hr hlocks hw h.1 h.2 dX9_readsLump_75
def wp_X9_readsLump_74 (post : Int32 → St → Prop)  (σ : St) : Prop := wp_X9_readsLump_75 post 0 σ
set_option maxHeartbeats 4000000 in
set_option maxRecDepth 100000 in
theorem wk_X9_readsLump_74 {p : Program} {l : Launch} {e : Env} {s : State} {m : MethodId} {below : List Frame} {meth : Method} {c : Code} {D : va_G} {q : ClassId × ClassId × ClassId × ClassId} {ad : Nat → Nat → Nat} {args : Array Value} (S : CallFix p m c cX9_readsLump 2 s args GW "OnChinModel") (V : EvM D q ad s) (hr : meth.sig.returnType = (some .boolean)) (hlocks : meth.locks = false) (post : Int32 → St → Prop)  : ∀ (σ : St) (H : Heap) (locs : List Loc) (ls : Array Slot), wp_X9_readsLump_74 post  σ → wo D clA LM ad s.heap H locs (EM q ad σ) → lv_has ls 2 [(0, .ref (ad 0 0))] → W p l e { frames := 3, cells := 0, slots := 0, locals := 65 } s m args below meth c H locs 0 0 (MQ below (zQi D clA LM ad (EM q ad) post) args s 0 0 (zA LM ad)) (F0 m 74 ls []) := by
  have hx := S.1
  have hb := S.2.1
  intro  σ H locs ls h  hw hl
  have h : wp_X9_readsLump_75 post 0 σ := h
  refine lv_iconst (v := 0) hx hb dX9_readsLump_74 (by decide) ?_
  exact wk_X9_readsLump_75 S V hr hlocks    post  0 _ _ _ _ h  hw (lv_sub hl [0] rfl)
def wp_X9_readsLump (post : Int32 → St → Prop)  (σ : St) : Prop := wp_X9_reads 0 0 3 (fun r1 σ1 => ((¬ r1 = 0 → (vp_in ((6 * (σ1 0 0 3)) + 1) 48 ∧ (vp_in (σ1 2 0 (((6 * (σ1 0 0 3)) + 1).toNatClampNeg)) 4 ∧ ((¬ (σ1 7 0 ((σ1 2 0 (((6 * (σ1 0 0 3)) + 1).toNatClampNeg)).toNatClampNeg)) = 4 → wp_X9_reads 1 1 300 (fun r2 σ2 => ((r2 = 0 → wp_X9_readsLump_74 post  σ2) ∧ (¬ r2 = 0 → wp_X9_reads 2 1 99 (fun r3 σ3 => ((r3 = 0 → wp_X9_readsLump_74 post  σ3) ∧ (¬ r3 = 0 → wp_X9_readsLump_75 post 1 σ3))) σ2))) σ1) ∧ ((σ1 7 0 ((σ1 2 0 (((6 * (σ1 0 0 3)) + 1).toNatClampNeg)).toNatClampNeg)) = 4 → post 0 (su σ1 0 0 19 (σ 0 0 19))))))) ∧ (r1 = 0 → post 0 σ1))) σ
set_option maxHeartbeats 4000000 in
set_option maxRecDepth 100000 in
theorem wk_X9_readsLump_0 {p : Program} {l : Launch} {e : Env} {s : State} {m : MethodId} {below : List Frame} {meth : Method} {c : Code} {D : va_G} {q : ClassId × ClassId × ClassId × ClassId} {ad : Nat → Nat → Nat} {args : Array Value} (S : CallFix p m c cX9_readsLump 2 s args GW "OnChinModel") (V : EvM D q ad s) (hr : meth.sig.returnType = (some .boolean)) (hlocks : meth.locks = false) (post : Int32 → St → Prop)  : ∀ (σ : St) (H : Heap) (locs : List Loc) (ls : Array Slot), wp_X9_readsLump post  σ → wo D clA LM ad s.heap H locs (EM q ad σ) → lv_has ls 2 [(0, .ref (ad 0 0))] → W p l e { frames := 3, cells := 0, slots := 0, locals := 65 } s m args below meth c H locs 0 0 (MQ below (zQi D clA LM ad (EM q ad) post) args s 0 0 (zA LM ad)) (F0 m 0 ls []) := by
  have hx := S.1
  have hb := S.2.1
  intro  σ H locs ls h  hw hl
  have h : wp_X9_reads 0 0 3 (fun r1 σ1 => ((¬ r1 = 0 → (vp_in ((6 * (σ1 0 0 3)) + 1) 48 ∧ (vp_in (σ1 2 0 (((6 * (σ1 0 0 3)) + 1).toNatClampNeg)) 4 ∧ ((¬ (σ1 7 0 ((σ1 2 0 (((6 * (σ1 0 0 3)) + 1).toNatClampNeg)).toNatClampNeg)) = 4 → wp_X9_reads 1 1 300 (fun r2 σ2 => ((r2 = 0 → wp_X9_readsLump_74 post  σ2) ∧ (¬ r2 = 0 → wp_X9_reads 2 1 99 (fun r3 σ3 => ((r3 = 0 → wp_X9_readsLump_74 post  σ3) ∧ (¬ r3 = 0 → wp_X9_readsLump_75 post 1 σ3))) σ2))) σ1) ∧ ((σ1 7 0 ((σ1 2 0 (((6 * (σ1 0 0 3)) + 1).toNatClampNeg)).toNatClampNeg)) = 4 → post 0 (su σ1 0 0 19 (σ 0 0 19))))))) ∧ (r1 = 0 → post 0 σ1))) σ := h
  refine lv_aload_n hx hb dX9_readsLump_0 rfl (lv_at hl 0 rfl) ?_
  refine gM_0_19 S V hw (Nat.le_of_ble_eq_true rfl) fl_X9_104 rfl dX9_readsLump_1 ?_
  refine lv_istore_n (lv' := [(1, .int (σ 0 0 19)), (0, .ref (ad 0 0))]) hx hb dX9_readsLump_4 rfl hl (by decide) rfl (fun ls hl => ?_)
  refine lv_aload_n hx hb dX9_readsLump_5 rfl (lv_at hl 1 rfl) ?_
  refine lv_iconst (v := 0) hx hb dX9_readsLump_6 (by decide) ?_
  refine lv_iconst (v := 0) hx hb dX9_readsLump_7 (by decide) ?_
  refine lv_iconst (v := 3) hx hb dX9_readsLump_8 (by decide) ?_
  refine call_Vi (As := [.int 0, .int 0, .int 3]) (rest := []) EvM_ok S V hw (mt_X9_reads l D q ad 0 0 3  σ _ h) ok_X9_reads ml_X9_152 (rM_0 S V hw (Nat.le_of_ble_eq_true rfl)) ⟨(Nat.le_of_ble_eq_true rfl), (Nat.le_of_ble_eq_true rfl)⟩ ⟨rfl, rfl⟩ rfl hl.1 rfl (Nat.le_of_ble_eq_true rfl) dX9_readsLump_9 (fun r1 σ1 H locs h hw => ?_)
  refine lv_if_ne (tgt := 17) hx hb dX9_readsLump_12 (by decide) (fun hc => ?_) (fun hc => ?_)
  · have h := h.1 hc
    refine lv_aload_n hx hb dX9_readsLump_17 rfl (lv_at hl 1 rfl) ?_
    refine gM_0_21 S V hw (Nat.le_of_ble_eq_true rfl) fl_X9_50 dX9_readsLump_18 ?_
    refine lv_aload_n hx hb dX9_readsLump_21 rfl (lv_at hl 1 rfl) ?_
    refine gM_0_2 S V hw (Nat.le_of_ble_eq_true rfl) fl_X9_13 dX9_readsLump_22 ?_
    refine lv_bipush (v := 6) hx hb dX9_readsLump_25 (by decide) ?_
    refine lv_aload_n hx hb dX9_readsLump_27 rfl (lv_at hl 1 rfl) ?_
    refine gM_0_3 S V hw (Nat.le_of_ble_eq_true rfl) fl_X9_138 rfl dX9_readsLump_28 ?_
    refine lv_imul hx hb dX9_readsLump_31 ?_
    refine lv_iconst (v := 1) hx hb dX9_readsLump_32 (by decide) ?_
    refine lv_iadd hx hb dX9_readsLump_33 ?_
    refine aM_2 S V hw (Nat.le_of_ble_eq_true rfl) h.1 (z := (σ1 2 0 (((6 * (σ1 0 0 3)) + 1).toNatClampNeg))) rfl dX9_readsLump_34 ?_
    have h := h.2
    refine aM_7 S V hw (Nat.le_of_ble_eq_true rfl) h.1 (z := (σ1 7 0 ((σ1 2 0 (((6 * (σ1 0 0 3)) + 1).toNatClampNeg)).toNatClampNeg))) rfl dX9_readsLump_35 ?_
    have h := h.2
    refine lv_iconst (v := 4) hx hb dX9_readsLump_36 (by decide) ?_
    refine lv_icmp_ne (tgt := 47) hx hb dX9_readsLump_37 (by decide) (fun hc => ?_) (fun hc => ?_)
    · have h := h.1 hc
      refine lv_aload_n hx hb dX9_readsLump_47 rfl (lv_at hl 1 rfl) ?_
      refine lv_iconst (v := 1) hx hb dX9_readsLump_48 (by decide) ?_
      refine lv_iconst (v := 1) hx hb dX9_readsLump_49 (by decide) ?_
      refine lv_sipush (v := 300) hx hb dX9_readsLump_50 (by decide) ?_
      refine call_Vi (As := [.int 1, .int 1, .int 300]) (rest := []) EvM_ok S V hw (mt_X9_reads l D q ad 1 1 300  σ1 _ h) ok_X9_reads ml_X9_152 (rM_0 S V hw (Nat.le_of_ble_eq_true rfl)) ⟨(Nat.le_of_ble_eq_true rfl), (Nat.le_of_ble_eq_true rfl)⟩ ⟨rfl, rfl⟩ rfl hl.1 rfl (Nat.le_of_ble_eq_true rfl) dX9_readsLump_53 (fun r2 σ2 H locs h hw => ?_)
      refine lv_if_eq (tgt := 74) hx hb dX9_readsLump_56 (by decide) (fun hc => ?_) (fun hc => ?_)
      · have h := h.1 hc
        exact wk_X9_readsLump_74 S V hr hlocks    post   _ _ _ _ h  hw (lv_sub hl [1] rfl)
      · have h := h.2 hc
        refine lv_aload_n hx hb dX9_readsLump_59 rfl (lv_at hl 1 rfl) ?_
        refine lv_iconst (v := 2) hx hb dX9_readsLump_60 (by decide) ?_
        refine lv_iconst (v := 1) hx hb dX9_readsLump_61 (by decide) ?_
        refine lv_bipush (v := 99) hx hb dX9_readsLump_62 (by decide) ?_
        refine call_Vi (As := [.int 2, .int 1, .int 99]) (rest := []) EvM_ok S V hw (mt_X9_reads l D q ad 2 1 99  σ2 _ h) ok_X9_reads ml_X9_152 (rM_0 S V hw (Nat.le_of_ble_eq_true rfl)) ⟨(Nat.le_of_ble_eq_true rfl), (Nat.le_of_ble_eq_true rfl)⟩ ⟨rfl, rfl⟩ rfl hl.1 rfl (Nat.le_of_ble_eq_true rfl) dX9_readsLump_64 (fun r3 σ3 H locs h hw => ?_)
        refine lv_if_eq (tgt := 74) hx hb dX9_readsLump_67 (by decide) (fun hc => ?_) (fun hc => ?_)
        · have h := h.1 hc
          exact wk_X9_readsLump_74 S V hr hlocks    post   _ _ _ _ h  hw (lv_sub hl [1] rfl)
        · have h := h.2 hc
          refine lv_iconst (v := 1) hx hb dX9_readsLump_70 (by decide) ?_
          refine lv_goto (tgt := 75) hx hb dX9_readsLump_71 (by decide) ?_
          exact wk_X9_readsLump_75 S V hr hlocks    post  1 _ _ _ _ h  hw (lv_sub hl [1] rfl)
    · have h := h.2 hc
      refine lv_aload_n hx hb dX9_readsLump_40 rfl (lv_at hl 1 rfl) ?_
      refine lv_iload_n hx hb dX9_readsLump_41 rfl (lv_at hl 0 rfl) ?_
      refine pM_0_19 S V hw (Nat.le_of_ble_eq_true rfl) fl_X9_104 dX9_readsLump_42 (fun H locs hw => ?_)
      refine lv_iconst (v := 0) hx hb dX9_readsLump_45 (by decide) ?_
      exact ret_z S hr hlocks hw (by decide) h dX9_readsLump_46
  · have h := h.2 hc
    refine lv_iconst (v := 0) hx hb dX9_readsLump_15 (by decide) ?_
    exact ret_z S hr hlocks hw (by decide) h dX9_readsLump_16
theorem mt_X9_readsLump (l : Launch) (D : va_G) (q : ClassId × ClassId × ClassId × ClassId) (ad : Nat → Nat → Nat)  (σ : St) (post : Int32 → St → Prop) (h : wp_X9_readsLump post σ) : cI l D clA LM ad (EM q ad) (EvM D q ad) yX9_readsLump cX9_readsLump 2 (some .boolean) { frames := 3, cells := 0, slots := 0, locals := 65 } [.ref (ad 0 0)] σ post :=
  ent_i (by decide) (Nat.le_of_ble_eq_true rfl) (fun p e s m below meth c S V hr hlocks hw ls hl => wk_X9_readsLump_0 S V hr hlocks   post   σ _ _ ls h  hw (lv_sub hl [0] rfl))
def wp_X9_readsRest_70 (x1 : Int32) (post : Int32 → St → Prop) (xs0 : Int32) (σ : St) : Prop := (narrow .boolean (.int xs0) = .int xs0 ∧ post xs0 σ)
set_option maxHeartbeats 4000000 in
set_option maxRecDepth 100000 in
theorem wk_X9_readsRest_70 {p : Program} {l : Launch} {e : Env} {s : State} {m : MethodId} {below : List Frame} {meth : Method} {c : Code} {D : va_G} {q : ClassId × ClassId × ClassId × ClassId} {ad : Nat → Nat → Nat} {args : Array Value} (S : CallFix p m c cX9_readsRest 2 s args GW "OnChinModel") (V : EvM D q ad s) (hr : meth.sig.returnType = (some .boolean)) (hlocks : meth.locks = false) (x1 : Int32) (post : Int32 → St → Prop)  : ∀ (xs0 : Int32) (σ : St) (H : Heap) (locs : List Loc) (ls : Array Slot), wp_X9_readsRest_70 x1 post xs0 σ → wo D clA LM ad s.heap H locs (EM q ad σ) → lv_has ls 2 [(0, .ref (ad 0 0)), (1, .int x1)] → W p l e { frames := 4, cells := 0, slots := 0, locals := 86 } s m args below meth c H locs 0 0 (MQ below (zQi D clA LM ad (EM q ad) post) args s 0 0 (zA LM ad)) (F0 m 70 ls [.int xs0]) := by
  have hx := S.1
  have hb := S.2.1
  intro xs0 σ H locs ls h  hw hl
  exact ret_z S hr hlocks hw h.1 h.2 dX9_readsRest_70
def wp_X9_readsRest_69 (x1 : Int32) (post : Int32 → St → Prop)  (σ : St) : Prop := wp_X9_readsRest_70 x1 post 0 σ
set_option maxHeartbeats 4000000 in
set_option maxRecDepth 100000 in
theorem wk_X9_readsRest_69 {p : Program} {l : Launch} {e : Env} {s : State} {m : MethodId} {below : List Frame} {meth : Method} {c : Code} {D : va_G} {q : ClassId × ClassId × ClassId × ClassId} {ad : Nat → Nat → Nat} {args : Array Value} (S : CallFix p m c cX9_readsRest 2 s args GW "OnChinModel") (V : EvM D q ad s) (hr : meth.sig.returnType = (some .boolean)) (hlocks : meth.locks = false) (x1 : Int32) (post : Int32 → St → Prop)  : ∀ (σ : St) (H : Heap) (locs : List Loc) (ls : Array Slot), wp_X9_readsRest_69 x1 post  σ → wo D clA LM ad s.heap H locs (EM q ad σ) → lv_has ls 2 [(0, .ref (ad 0 0)), (1, .int x1)] → W p l e { frames := 4, cells := 0, slots := 0, locals := 86 } s m args below meth c H locs 0 0 (MQ below (zQi D clA LM ad (EM q ad) post) args s 0 0 (zA LM ad)) (F0 m 69 ls []) := by
  have hx := S.1
  have hb := S.2.1
  intro  σ H locs ls h  hw hl
  have h : wp_X9_readsRest_70 x1 post 0 σ := h
  refine lv_iconst (v := 0) hx hb dX9_readsRest_69 (by decide) ?_
  exact wk_X9_readsRest_70 S V hr hlocks x1   post  0 _ _ _ _ h  hw (lv_sub hl [0, 1] rfl)
def wp_X9_readsRest_144 (x1 : Int32) (post : Int32 → St → Prop) (xs0 : Int32) (σ : St) : Prop := (narrow .boolean (.int xs0) = .int xs0 ∧ post xs0 σ)
set_option maxHeartbeats 4000000 in
set_option maxRecDepth 100000 in
theorem wk_X9_readsRest_144 {p : Program} {l : Launch} {e : Env} {s : State} {m : MethodId} {below : List Frame} {meth : Method} {c : Code} {D : va_G} {q : ClassId × ClassId × ClassId × ClassId} {ad : Nat → Nat → Nat} {args : Array Value} (S : CallFix p m c cX9_readsRest 2 s args GW "OnChinModel") (V : EvM D q ad s) (hr : meth.sig.returnType = (some .boolean)) (hlocks : meth.locks = false) (x1 : Int32) (post : Int32 → St → Prop)  : ∀ (xs0 : Int32) (σ : St) (H : Heap) (locs : List Loc) (ls : Array Slot), wp_X9_readsRest_144 x1 post xs0 σ → wo D clA LM ad s.heap H locs (EM q ad σ) → lv_has ls 2 [(0, .ref (ad 0 0)), (1, .int x1)] → W p l e { frames := 4, cells := 0, slots := 0, locals := 86 } s m args below meth c H locs 0 0 (MQ below (zQi D clA LM ad (EM q ad) post) args s 0 0 (zA LM ad)) (F0 m 144 ls [.int xs0]) := by
  have hx := S.1
  have hb := S.2.1
  intro xs0 σ H locs ls h  hw hl
  exact ret_z S hr hlocks hw h.1 h.2 dX9_readsRest_144
def wp_X9_readsRest_143 (x1 : Int32) (post : Int32 → St → Prop)  (σ : St) : Prop := wp_X9_readsRest_144 x1 post 0 σ
set_option maxHeartbeats 4000000 in
set_option maxRecDepth 100000 in
theorem wk_X9_readsRest_143 {p : Program} {l : Launch} {e : Env} {s : State} {m : MethodId} {below : List Frame} {meth : Method} {c : Code} {D : va_G} {q : ClassId × ClassId × ClassId × ClassId} {ad : Nat → Nat → Nat} {args : Array Value} (S : CallFix p m c cX9_readsRest 2 s args GW "OnChinModel") (V : EvM D q ad s) (hr : meth.sig.returnType = (some .boolean)) (hlocks : meth.locks = false) (x1 : Int32) (post : Int32 → St → Prop)  : ∀ (σ : St) (H : Heap) (locs : List Loc) (ls : Array Slot), wp_X9_readsRest_143 x1 post  σ → wo D clA LM ad s.heap H locs (EM q ad σ) → lv_has ls 2 [(0, .ref (ad 0 0)), (1, .int x1)] → W p l e { frames := 4, cells := 0, slots := 0, locals := 86 } s m args below meth c H locs 0 0 (MQ below (zQi D clA LM ad (EM q ad) post) args s 0 0 (zA LM ad)) (F0 m 143 ls []) := by
  have hx := S.1
  have hb := S.2.1
  intro  σ H locs ls h  hw hl
  have h : wp_X9_readsRest_144 x1 post 0 σ := h
  refine lv_iconst (v := 0) hx hb dX9_readsRest_143 (by decide) ?_
  exact wk_X9_readsRest_144 S V hr hlocks x1   post  0 _ _ _ _ h  hw (lv_sub hl [0, 1] rfl)
def wp_X9_readsRest (x1 : Int32) (post : Int32 → St → Prop)  (σ : St) : Prop := ((x1 = 0 → wp_X9_reads 0 0 3 (fun r1 σ1 => ((r1 = 0 → wp_X9_readsRest_69 x1 post  σ1) ∧ (¬ r1 = 0 → wp_X9_readsKind (fun r2 σ2 => ((r2 = 0 → wp_X9_readsRest_69 x1 post  σ2) ∧ (¬ r2 = 0 → wp_X9_readsRest_70 x1 post 1 σ2))) σ1))) σ) ∧ (¬ x1 = 0 → ((x1 = 1 → wp_X9_readsLump (fun r3 σ3 => (narrow .boolean (.int r3) = .int r3 ∧ post r3 σ3)) σ) ∧ (¬ x1 = 1 → ((x1 = 2 → wp_X9_reads 0 0 3 (fun r4 σ4 => (narrow .boolean (.int r4) = .int r4 ∧ post r4 σ4)) σ) ∧ (¬ x1 = 2 → ((x1 = 3 → wp_X9_reads 0 0 40 (fun r5 σ5 => ((r5 = 0 → wp_X9_readsRest_143 x1 post  σ5) ∧ (¬ r5 = 0 → wp_X9_reads 1 0 40 (fun r6 σ6 => ((r6 = 0 → wp_X9_readsRest_143 x1 post  σ6) ∧ (¬ r6 = 0 → wp_X9_reads 2 0 6 (fun r7 σ7 => ((r7 = 0 → wp_X9_readsRest_143 x1 post  σ7) ∧ (¬ r7 = 0 → wp_X9_reads 3 1 99 (fun r8 σ8 => ((r8 = 0 → wp_X9_readsRest_143 x1 post  σ8) ∧ (¬ r8 = 0 → wp_X9_reads 4 0 99 (fun r9 σ9 => ((r9 = 0 → wp_X9_readsRest_143 x1 post  σ9) ∧ (¬ r9 = 0 → wp_X9_readsRest_144 x1 post 1 σ9))) σ8))) σ7))) σ6))) σ5))) σ) ∧ (¬ x1 = 3 → ((x1 = 4 → wp_X9_reads 0 0 999 (fun r10 σ10 => (narrow .boolean (.int r10) = .int r10 ∧ post r10 σ10)) σ) ∧ (¬ x1 = 4 → ((x1 = 5 → wp_X9_reads 0 1 99 (fun r11 σ11 => (narrow .boolean (.int r11) = .int r11 ∧ post r11 σ11)) σ) ∧ (¬ x1 = 5 → ((x1 = 6 → wp_X9_reads 0 1 999 (fun r12 σ12 => (narrow .boolean (.int r12) = .int r12 ∧ post r12 σ12)) σ) ∧ (¬ x1 = 6 → ((x1 = 7 → wp_X9_reads 0 0 20 (fun r13 σ13 => (narrow .boolean (.int r13) = .int r13 ∧ post r13 σ13)) σ) ∧ (¬ x1 = 7 → wp_X9_reads 0 0 99 (fun r14 σ14 => (narrow .boolean (.int r14) = .int r14 ∧ post r14 σ14)) σ))))))))))))))))
set_option maxHeartbeats 4000000 in
set_option maxRecDepth 100000 in
theorem wk_X9_readsRest_0 {p : Program} {l : Launch} {e : Env} {s : State} {m : MethodId} {below : List Frame} {meth : Method} {c : Code} {D : va_G} {q : ClassId × ClassId × ClassId × ClassId} {ad : Nat → Nat → Nat} {args : Array Value} (S : CallFix p m c cX9_readsRest 2 s args GW "OnChinModel") (V : EvM D q ad s) (hr : meth.sig.returnType = (some .boolean)) (hlocks : meth.locks = false) (x1 : Int32) (post : Int32 → St → Prop)  : ∀ (σ : St) (H : Heap) (locs : List Loc) (ls : Array Slot), wp_X9_readsRest x1 post  σ → wo D clA LM ad s.heap H locs (EM q ad σ) → lv_has ls 2 [(0, .ref (ad 0 0)), (1, .int x1)] → W p l e { frames := 4, cells := 0, slots := 0, locals := 86 } s m args below meth c H locs 0 0 (MQ below (zQi D clA LM ad (EM q ad) post) args s 0 0 (zA LM ad)) (F0 m 0 ls []) := by
  have hx := S.1
  have hb := S.2.1
  intro  σ H locs ls h  hw hl
  refine lv_iload_n hx hb dX9_readsRest_0 rfl (lv_at hl 1 rfl) ?_
  by_cases hc0 : x1 = 0
  · have h := h.1 hc0
    refine lv_tableIn (tgt := 48) hx hb dX9_readsRest_1 (by rw [hc0]; decide) (by rw [hc0]; decide) (by rw [hc0]; rfl) (by decide) ?_
    refine lv_aload_n hx hb dX9_readsRest_48 rfl (lv_at hl 0 rfl) ?_
    refine lv_iconst (v := 0) hx hb dX9_readsRest_49 (by decide) ?_
    refine lv_iconst (v := 0) hx hb dX9_readsRest_50 (by decide) ?_
    refine lv_iconst (v := 3) hx hb dX9_readsRest_51 (by decide) ?_
    refine call_Vi (As := [.int 0, .int 0, .int 3]) (rest := []) EvM_ok S V hw (mt_X9_reads l D q ad 0 0 3  σ _ h) ok_X9_reads ml_X9_152 (rM_0 S V hw (Nat.le_of_ble_eq_true rfl)) ⟨(Nat.le_of_ble_eq_true rfl), (Nat.le_of_ble_eq_true rfl)⟩ ⟨rfl, rfl⟩ rfl hl.1 rfl (Nat.le_of_ble_eq_true rfl) dX9_readsRest_52 (fun r1 σ1 H locs h hw => ?_)
    refine lv_if_eq (tgt := 69) hx hb dX9_readsRest_55 (by decide) (fun hc => ?_) (fun hc => ?_)
    · have h := h.1 hc
      exact wk_X9_readsRest_69 S V hr hlocks x1   post   _ _ _ _ h  hw (lv_sub hl [0, 1] rfl)
    · have h := h.2 hc
      refine lv_aload_n hx hb dX9_readsRest_58 rfl (lv_at hl 0 rfl) ?_
      refine call_Vi (As := []) (rest := []) EvM_ok S V hw (mt_X9_readsKind l D q ad   σ1 _ h) ok_X9_readsKind ml_X9_156 (rM_0 S V hw (Nat.le_of_ble_eq_true rfl)) ⟨(Nat.le_of_ble_eq_true rfl), (Nat.le_of_ble_eq_true rfl)⟩ ⟨rfl, rfl⟩ rfl hl.1 rfl (Nat.le_of_ble_eq_true rfl) dX9_readsRest_59 (fun r2 σ2 H locs h hw => ?_)
      refine lv_if_eq (tgt := 69) hx hb dX9_readsRest_62 (by decide) (fun hc => ?_) (fun hc => ?_)
      · have h := h.1 hc
        exact wk_X9_readsRest_69 S V hr hlocks x1   post   _ _ _ _ h  hw (lv_sub hl [0, 1] rfl)
      · have h := h.2 hc
        refine lv_iconst (v := 1) hx hb dX9_readsRest_65 (by decide) ?_
        refine lv_goto (tgt := 70) hx hb dX9_readsRest_66 (by decide) ?_
        exact wk_X9_readsRest_70 S V hr hlocks x1   post  1 _ _ _ _ h  hw (lv_sub hl [0, 1] rfl)
  · have h := h.2 hc0
    by_cases hc1 : x1 = 1
    · have h := h.1 hc1
      refine lv_tableIn (tgt := 71) hx hb dX9_readsRest_1 (by rw [hc1]; decide) (by rw [hc1]; decide) (by rw [hc1]; rfl) (by decide) ?_
      refine lv_aload_n hx hb dX9_readsRest_71 rfl (lv_at hl 0 rfl) ?_
      refine call_Vi (As := []) (rest := []) EvM_ok S V hw (mt_X9_readsLump l D q ad   σ _ h) ok_X9_readsLump ml_X9_160 (rM_0 S V hw (Nat.le_of_ble_eq_true rfl)) ⟨(Nat.le_of_ble_eq_true rfl), (Nat.le_of_ble_eq_true rfl)⟩ ⟨rfl, rfl⟩ rfl hl.1 rfl (Nat.le_of_ble_eq_true rfl) dX9_readsRest_72 (fun r3 σ3 H locs h hw => ?_)
      exact ret_z S hr hlocks hw h.1 h.2 dX9_readsRest_75
    · have h := h.2 hc1
      by_cases hc2 : x1 = 2
      · have h := h.1 hc2
        refine lv_tableIn (tgt := 76) hx hb dX9_readsRest_1 (by rw [hc2]; decide) (by rw [hc2]; decide) (by rw [hc2]; rfl) (by decide) ?_
        refine lv_aload_n hx hb dX9_readsRest_76 rfl (lv_at hl 0 rfl) ?_
        refine lv_iconst (v := 0) hx hb dX9_readsRest_77 (by decide) ?_
        refine lv_iconst (v := 0) hx hb dX9_readsRest_78 (by decide) ?_
        refine lv_iconst (v := 3) hx hb dX9_readsRest_79 (by decide) ?_
        refine call_Vi (As := [.int 0, .int 0, .int 3]) (rest := []) EvM_ok S V hw (mt_X9_reads l D q ad 0 0 3  σ _ h) ok_X9_reads ml_X9_152 (rM_0 S V hw (Nat.le_of_ble_eq_true rfl)) ⟨(Nat.le_of_ble_eq_true rfl), (Nat.le_of_ble_eq_true rfl)⟩ ⟨rfl, rfl⟩ rfl hl.1 rfl (Nat.le_of_ble_eq_true rfl) dX9_readsRest_80 (fun r4 σ4 H locs h hw => ?_)
        exact ret_z S hr hlocks hw h.1 h.2 dX9_readsRest_83
      · have h := h.2 hc2
        by_cases hc3 : x1 = 3
        · have h := h.1 hc3
          refine lv_tableIn (tgt := 84) hx hb dX9_readsRest_1 (by rw [hc3]; decide) (by rw [hc3]; decide) (by rw [hc3]; rfl) (by decide) ?_
          refine lv_aload_n hx hb dX9_readsRest_84 rfl (lv_at hl 0 rfl) ?_
          refine lv_iconst (v := 0) hx hb dX9_readsRest_85 (by decide) ?_
          refine lv_iconst (v := 0) hx hb dX9_readsRest_86 (by decide) ?_
          refine lv_bipush (v := 40) hx hb dX9_readsRest_87 (by decide) ?_
          refine call_Vi (As := [.int 0, .int 0, .int 40]) (rest := []) EvM_ok S V hw (mt_X9_reads l D q ad 0 0 40  σ _ h) ok_X9_reads ml_X9_152 (rM_0 S V hw (Nat.le_of_ble_eq_true rfl)) ⟨(Nat.le_of_ble_eq_true rfl), (Nat.le_of_ble_eq_true rfl)⟩ ⟨rfl, rfl⟩ rfl hl.1 rfl (Nat.le_of_ble_eq_true rfl) dX9_readsRest_89 (fun r5 σ5 H locs h hw => ?_)
          refine lv_if_eq (tgt := 143) hx hb dX9_readsRest_92 (by decide) (fun hc => ?_) (fun hc => ?_)
          · have h := h.1 hc
            exact wk_X9_readsRest_143 S V hr hlocks x1   post   _ _ _ _ h  hw (lv_sub hl [0, 1] rfl)
          · have h := h.2 hc
            refine lv_aload_n hx hb dX9_readsRest_95 rfl (lv_at hl 0 rfl) ?_
            refine lv_iconst (v := 1) hx hb dX9_readsRest_96 (by decide) ?_
            refine lv_iconst (v := 0) hx hb dX9_readsRest_97 (by decide) ?_
            refine lv_bipush (v := 40) hx hb dX9_readsRest_98 (by decide) ?_
            refine call_Vi (As := [.int 1, .int 0, .int 40]) (rest := []) EvM_ok S V hw (mt_X9_reads l D q ad 1 0 40  σ5 _ h) ok_X9_reads ml_X9_152 (rM_0 S V hw (Nat.le_of_ble_eq_true rfl)) ⟨(Nat.le_of_ble_eq_true rfl), (Nat.le_of_ble_eq_true rfl)⟩ ⟨rfl, rfl⟩ rfl hl.1 rfl (Nat.le_of_ble_eq_true rfl) dX9_readsRest_100 (fun r6 σ6 H locs h hw => ?_)
            refine lv_if_eq (tgt := 143) hx hb dX9_readsRest_103 (by decide) (fun hc => ?_) (fun hc => ?_)
            · have h := h.1 hc
              exact wk_X9_readsRest_143 S V hr hlocks x1   post   _ _ _ _ h  hw (lv_sub hl [0, 1] rfl)
            · have h := h.2 hc
              refine lv_aload_n hx hb dX9_readsRest_106 rfl (lv_at hl 0 rfl) ?_
              refine lv_iconst (v := 2) hx hb dX9_readsRest_107 (by decide) ?_
              refine lv_iconst (v := 0) hx hb dX9_readsRest_108 (by decide) ?_
              refine lv_bipush (v := 6) hx hb dX9_readsRest_109 (by decide) ?_
              refine call_Vi (As := [.int 2, .int 0, .int 6]) (rest := []) EvM_ok S V hw (mt_X9_reads l D q ad 2 0 6  σ6 _ h) ok_X9_reads ml_X9_152 (rM_0 S V hw (Nat.le_of_ble_eq_true rfl)) ⟨(Nat.le_of_ble_eq_true rfl), (Nat.le_of_ble_eq_true rfl)⟩ ⟨rfl, rfl⟩ rfl hl.1 rfl (Nat.le_of_ble_eq_true rfl) dX9_readsRest_111 (fun r7 σ7 H locs h hw => ?_)
              refine lv_if_eq (tgt := 143) hx hb dX9_readsRest_114 (by decide) (fun hc => ?_) (fun hc => ?_)
              · have h := h.1 hc
                exact wk_X9_readsRest_143 S V hr hlocks x1   post   _ _ _ _ h  hw (lv_sub hl [0, 1] rfl)
              · have h := h.2 hc
                refine lv_aload_n hx hb dX9_readsRest_117 rfl (lv_at hl 0 rfl) ?_
                refine lv_iconst (v := 3) hx hb dX9_readsRest_118 (by decide) ?_
                refine lv_iconst (v := 1) hx hb dX9_readsRest_119 (by decide) ?_
                refine lv_bipush (v := 99) hx hb dX9_readsRest_120 (by decide) ?_
                refine call_Vi (As := [.int 3, .int 1, .int 99]) (rest := []) EvM_ok S V hw (mt_X9_reads l D q ad 3 1 99  σ7 _ h) ok_X9_reads ml_X9_152 (rM_0 S V hw (Nat.le_of_ble_eq_true rfl)) ⟨(Nat.le_of_ble_eq_true rfl), (Nat.le_of_ble_eq_true rfl)⟩ ⟨rfl, rfl⟩ rfl hl.1 rfl (Nat.le_of_ble_eq_true rfl) dX9_readsRest_122 (fun r8 σ8 H locs h hw => ?_)
                refine lv_if_eq (tgt := 143) hx hb dX9_readsRest_125 (by decide) (fun hc => ?_) (fun hc => ?_)
                · have h := h.1 hc
                  exact wk_X9_readsRest_143 S V hr hlocks x1   post   _ _ _ _ h  hw (lv_sub hl [0, 1] rfl)
                · have h := h.2 hc
                  refine lv_aload_n hx hb dX9_readsRest_128 rfl (lv_at hl 0 rfl) ?_
                  refine lv_iconst (v := 4) hx hb dX9_readsRest_129 (by decide) ?_
                  refine lv_iconst (v := 0) hx hb dX9_readsRest_130 (by decide) ?_
                  refine lv_bipush (v := 99) hx hb dX9_readsRest_131 (by decide) ?_
                  refine call_Vi (As := [.int 4, .int 0, .int 99]) (rest := []) EvM_ok S V hw (mt_X9_reads l D q ad 4 0 99  σ8 _ h) ok_X9_reads ml_X9_152 (rM_0 S V hw (Nat.le_of_ble_eq_true rfl)) ⟨(Nat.le_of_ble_eq_true rfl), (Nat.le_of_ble_eq_true rfl)⟩ ⟨rfl, rfl⟩ rfl hl.1 rfl (Nat.le_of_ble_eq_true rfl) dX9_readsRest_133 (fun r9 σ9 H locs h hw => ?_)
                  refine lv_if_eq (tgt := 143) hx hb dX9_readsRest_136 (by decide) (fun hc => ?_) (fun hc => ?_)
                  · have h := h.1 hc
                    exact wk_X9_readsRest_143 S V hr hlocks x1   post   _ _ _ _ h  hw (lv_sub hl [0, 1] rfl)
                  · have h := h.2 hc
                    refine lv_iconst (v := 1) hx hb dX9_readsRest_139 (by decide) ?_
                    refine lv_goto (tgt := 144) hx hb dX9_readsRest_140 (by decide) ?_
                    exact wk_X9_readsRest_144 S V hr hlocks x1   post  1 _ _ _ _ h  hw (lv_sub hl [0, 1] rfl)
        · have h := h.2 hc3
          by_cases hc4 : x1 = 4
          · have h := h.1 hc4
            refine lv_tableIn (tgt := 145) hx hb dX9_readsRest_1 (by rw [hc4]; decide) (by rw [hc4]; decide) (by rw [hc4]; rfl) (by decide) ?_
            refine lv_aload_n hx hb dX9_readsRest_145 rfl (lv_at hl 0 rfl) ?_
            refine lv_iconst (v := 0) hx hb dX9_readsRest_146 (by decide) ?_
            refine lv_iconst (v := 0) hx hb dX9_readsRest_147 (by decide) ?_
            refine lv_sipush (v := 999) hx hb dX9_readsRest_148 (by decide) ?_
            refine call_Vi (As := [.int 0, .int 0, .int 999]) (rest := []) EvM_ok S V hw (mt_X9_reads l D q ad 0 0 999  σ _ h) ok_X9_reads ml_X9_152 (rM_0 S V hw (Nat.le_of_ble_eq_true rfl)) ⟨(Nat.le_of_ble_eq_true rfl), (Nat.le_of_ble_eq_true rfl)⟩ ⟨rfl, rfl⟩ rfl hl.1 rfl (Nat.le_of_ble_eq_true rfl) dX9_readsRest_151 (fun r10 σ10 H locs h hw => ?_)
            exact ret_z S hr hlocks hw h.1 h.2 dX9_readsRest_154
          · have h := h.2 hc4
            by_cases hc5 : x1 = 5
            · have h := h.1 hc5
              refine lv_tableIn (tgt := 155) hx hb dX9_readsRest_1 (by rw [hc5]; decide) (by rw [hc5]; decide) (by rw [hc5]; rfl) (by decide) ?_
              refine lv_aload_n hx hb dX9_readsRest_155 rfl (lv_at hl 0 rfl) ?_
              refine lv_iconst (v := 0) hx hb dX9_readsRest_156 (by decide) ?_
              refine lv_iconst (v := 1) hx hb dX9_readsRest_157 (by decide) ?_
              refine lv_bipush (v := 99) hx hb dX9_readsRest_158 (by decide) ?_
              refine call_Vi (As := [.int 0, .int 1, .int 99]) (rest := []) EvM_ok S V hw (mt_X9_reads l D q ad 0 1 99  σ _ h) ok_X9_reads ml_X9_152 (rM_0 S V hw (Nat.le_of_ble_eq_true rfl)) ⟨(Nat.le_of_ble_eq_true rfl), (Nat.le_of_ble_eq_true rfl)⟩ ⟨rfl, rfl⟩ rfl hl.1 rfl (Nat.le_of_ble_eq_true rfl) dX9_readsRest_160 (fun r11 σ11 H locs h hw => ?_)
              exact ret_z S hr hlocks hw h.1 h.2 dX9_readsRest_163
            · have h := h.2 hc5
              by_cases hc6 : x1 = 6
              · have h := h.1 hc6
                refine lv_tableIn (tgt := 164) hx hb dX9_readsRest_1 (by rw [hc6]; decide) (by rw [hc6]; decide) (by rw [hc6]; rfl) (by decide) ?_
                refine lv_aload_n hx hb dX9_readsRest_164 rfl (lv_at hl 0 rfl) ?_
                refine lv_iconst (v := 0) hx hb dX9_readsRest_165 (by decide) ?_
                refine lv_iconst (v := 1) hx hb dX9_readsRest_166 (by decide) ?_
                refine lv_sipush (v := 999) hx hb dX9_readsRest_167 (by decide) ?_
                refine call_Vi (As := [.int 0, .int 1, .int 999]) (rest := []) EvM_ok S V hw (mt_X9_reads l D q ad 0 1 999  σ _ h) ok_X9_reads ml_X9_152 (rM_0 S V hw (Nat.le_of_ble_eq_true rfl)) ⟨(Nat.le_of_ble_eq_true rfl), (Nat.le_of_ble_eq_true rfl)⟩ ⟨rfl, rfl⟩ rfl hl.1 rfl (Nat.le_of_ble_eq_true rfl) dX9_readsRest_170 (fun r12 σ12 H locs h hw => ?_)
                exact ret_z S hr hlocks hw h.1 h.2 dX9_readsRest_173
              · have h := h.2 hc6
                by_cases hc7 : x1 = 7
                · have h := h.1 hc7
                  refine lv_tableIn (tgt := 174) hx hb dX9_readsRest_1 (by rw [hc7]; decide) (by rw [hc7]; decide) (by rw [hc7]; rfl) (by decide) ?_
                  refine lv_aload_n hx hb dX9_readsRest_174 rfl (lv_at hl 0 rfl) ?_
                  refine lv_iconst (v := 0) hx hb dX9_readsRest_175 (by decide) ?_
                  refine lv_iconst (v := 0) hx hb dX9_readsRest_176 (by decide) ?_
                  refine lv_bipush (v := 20) hx hb dX9_readsRest_177 (by decide) ?_
                  refine call_Vi (As := [.int 0, .int 0, .int 20]) (rest := []) EvM_ok S V hw (mt_X9_reads l D q ad 0 0 20  σ _ h) ok_X9_reads ml_X9_152 (rM_0 S V hw (Nat.le_of_ble_eq_true rfl)) ⟨(Nat.le_of_ble_eq_true rfl), (Nat.le_of_ble_eq_true rfl)⟩ ⟨rfl, rfl⟩ rfl hl.1 rfl (Nat.le_of_ble_eq_true rfl) dX9_readsRest_179 (fun r13 σ13 H locs h hw => ?_)
                  exact ret_z S hr hlocks hw h.1 h.2 dX9_readsRest_182
                · have h := h.2 hc7
                  refine lv_tableOut (tgt := 183) hx hb dX9_readsRest_1 (by have e0 := lv_neT (k := 0) (a := 0) hc0 rfl; have e1 := lv_neT (k := 1) (a := 1) hc1 rfl; have e2 := lv_neT (k := 2) (a := 2) hc2 rfl; have e3 := lv_neT (k := 3) (a := 3) hc3 rfl; have e4 := lv_neT (k := 4) (a := 4) hc4 rfl; have e5 := lv_neT (k := 5) (a := 5) hc5 rfl; have e6 := lv_neT (k := 6) (a := 6) hc6 rfl; have e7 := lv_neT (k := 7) (a := 7) hc7 rfl; omega) (by decide) ?_
                  refine lv_aload_n hx hb dX9_readsRest_183 rfl (lv_at hl 0 rfl) ?_
                  refine lv_iconst (v := 0) hx hb dX9_readsRest_184 (by decide) ?_
                  refine lv_iconst (v := 0) hx hb dX9_readsRest_185 (by decide) ?_
                  refine lv_bipush (v := 99) hx hb dX9_readsRest_186 (by decide) ?_
                  refine call_Vi (As := [.int 0, .int 0, .int 99]) (rest := []) EvM_ok S V hw (mt_X9_reads l D q ad 0 0 99  σ _ h) ok_X9_reads ml_X9_152 (rM_0 S V hw (Nat.le_of_ble_eq_true rfl)) ⟨(Nat.le_of_ble_eq_true rfl), (Nat.le_of_ble_eq_true rfl)⟩ ⟨rfl, rfl⟩ rfl hl.1 rfl (Nat.le_of_ble_eq_true rfl) dX9_readsRest_188 (fun r14 σ14 H locs h hw => ?_)
                  exact ret_z S hr hlocks hw h.1 h.2 dX9_readsRest_191
theorem mt_X9_readsRest (l : Launch) (D : va_G) (q : ClassId × ClassId × ClassId × ClassId) (ad : Nat → Nat → Nat) (x1 : Int32) (σ : St) (post : Int32 → St → Prop) (h : wp_X9_readsRest x1 post σ) : cI l D clA LM ad (EM q ad) (EvM D q ad) yX9_readsRest cX9_readsRest 2 (some .boolean) { frames := 4, cells := 0, slots := 0, locals := 86 } [.ref (ad 0 0), .int x1] σ post :=
  ent_i (by decide) (Nat.le_of_ble_eq_true rfl) (fun p e s m below meth c S V hr hlocks hw ls hl => wk_X9_readsRest_0 S V hr hlocks x1  post   σ _ _ ls h  hw (lv_sub hl [0, 1] rfl))
def wp_X9_readsLine_85 (post : Int32 → St → Prop)  (σ : St) : Prop := post 1 (su σ 0 0 3 ((σ 0 0 3) + 1))
set_option maxHeartbeats 4000000 in
set_option maxRecDepth 100000 in
theorem wk_X9_readsLine_85 {p : Program} {l : Launch} {e : Env} {s : State} {m : MethodId} {below : List Frame} {meth : Method} {c : Code} {D : va_G} {q : ClassId × ClassId × ClassId × ClassId} {ad : Nat → Nat → Nat} {args : Array Value} (S : CallFix p m c cX9_readsLine 3 s args GW "OnChinModel") (V : EvM D q ad s) (hr : meth.sig.returnType = (some .boolean)) (hlocks : meth.locks = false) (post : Int32 → St → Prop)  : ∀ (σ : St) (H : Heap) (locs : List Loc) (ls : Array Slot), wp_X9_readsLine_85 post  σ → wo D clA LM ad s.heap H locs (EM q ad σ) → lv_has ls 3 [(0, .ref (ad 0 0))] → W p l e { frames := 5, cells := 0, slots := 0, locals := 107 } s m args below meth c H locs 0 0 (MQ below (zQi D clA LM ad (EM q ad) post) args s 0 0 (zA LM ad)) (F0 m 85 ls []) := by
  have hx := S.1
  have hb := S.2.1
  intro  σ H locs ls h  hw hl
  refine lv_aload_n hx hb dX9_readsLine_85 rfl (lv_at hl 0 rfl) ?_
  refine lv_dup hx hb dX9_readsLine_86 rfl ?_
  refine gM_0_3 S V hw (Nat.le_of_ble_eq_true rfl) fl_X9_138 rfl dX9_readsLine_87 ?_
  refine lv_iconst (v := 1) hx hb dX9_readsLine_90 (by decide) ?_
  refine lv_iadd hx hb dX9_readsLine_91 ?_
  refine pM_0_3 S V hw (Nat.le_of_ble_eq_true rfl) fl_X9_138 dX9_readsLine_92 (fun H locs hw => ?_)
  refine lv_iconst (v := 1) hx hb dX9_readsLine_95 (by decide) ?_
  exact ret_z S hr hlocks hw (by decide) h dX9_readsLine_96
def wp_X9_readsLine (post : Int32 → St → Prop)  (σ : St) : Prop := wp_X9_wordOf (fun r1 σ1 => ((¬ r1 = (-1) → wp_X9_token (fun σ2 => (vp_in (6 * (σ2 0 0 3)) 48 ∧ wp_X9_readsRest r1 (fun r3 σ3 => ((¬ r3 = 0 → ((¬ r1 = 1 → ((¬ r1 = 2 → wp_X9_readsLine_85 post  σ3) ∧ (r1 = 2 → (vp_in ((6 * (σ2 0 0 3)) + 1) 48 ∧ (vp_in (σ3 2 0 (((6 * (σ2 0 0 3)) + 1).toNatClampNeg)) 4 ∧ wp_X9_readsLine_85 post  (su σ3 7 0 ((σ3 2 0 (((6 * (σ2 0 0 3)) + 1).toNatClampNeg)).toNatClampNeg) 0)))))) ∧ (r1 = 1 → (vp_in ((6 * (σ2 0 0 3)) + 1) 48 ∧ (vp_in (σ3 2 0 (((6 * (σ2 0 0 3)) + 1).toNatClampNeg)) 4 ∧ (vp_in (σ3 2 0 (((6 * (σ2 0 0 3)) + 1).toNatClampNeg)) 4 ∧ wp_X9_readsLine_85 post  (su σ3 7 0 ((σ3 2 0 (((6 * (σ2 0 0 3)) + 1).toNatClampNeg)).toNatClampNeg) ((σ3 7 0 ((σ3 2 0 (((6 * (σ2 0 0 3)) + 1).toNatClampNeg)).toNatClampNeg)) + 1)))))))) ∧ (r3 = 0 → post 0 σ3))) (su σ2 2 0 ((6 * (σ2 0 0 3)).toNatClampNeg) r1))) σ1) ∧ (r1 = (-1) → post 0 σ1))) σ
set_option maxHeartbeats 4000000 in
set_option maxRecDepth 100000 in
theorem wk_X9_readsLine_0 {p : Program} {l : Launch} {e : Env} {s : State} {m : MethodId} {below : List Frame} {meth : Method} {c : Code} {D : va_G} {q : ClassId × ClassId × ClassId × ClassId} {ad : Nat → Nat → Nat} {args : Array Value} (S : CallFix p m c cX9_readsLine 3 s args GW "OnChinModel") (V : EvM D q ad s) (hr : meth.sig.returnType = (some .boolean)) (hlocks : meth.locks = false) (post : Int32 → St → Prop)  : ∀ (σ : St) (H : Heap) (locs : List Loc) (ls : Array Slot), wp_X9_readsLine post  σ → wo D clA LM ad s.heap H locs (EM q ad σ) → lv_has ls 3 [(0, .ref (ad 0 0))] → W p l e { frames := 5, cells := 0, slots := 0, locals := 107 } s m args below meth c H locs 0 0 (MQ below (zQi D clA LM ad (EM q ad) post) args s 0 0 (zA LM ad)) (F0 m 0 ls []) := by
  have hx := S.1
  have hb := S.2.1
  intro  σ H locs ls h  hw hl
  have h : wp_X9_wordOf (fun r1 σ1 => ((¬ r1 = (-1) → wp_X9_token (fun σ2 => (vp_in (6 * (σ2 0 0 3)) 48 ∧ wp_X9_readsRest r1 (fun r3 σ3 => ((¬ r3 = 0 → ((¬ r1 = 1 → ((¬ r1 = 2 → wp_X9_readsLine_85 post  σ3) ∧ (r1 = 2 → (vp_in ((6 * (σ2 0 0 3)) + 1) 48 ∧ (vp_in (σ3 2 0 (((6 * (σ2 0 0 3)) + 1).toNatClampNeg)) 4 ∧ wp_X9_readsLine_85 post  (su σ3 7 0 ((σ3 2 0 (((6 * (σ2 0 0 3)) + 1).toNatClampNeg)).toNatClampNeg) 0)))))) ∧ (r1 = 1 → (vp_in ((6 * (σ2 0 0 3)) + 1) 48 ∧ (vp_in (σ3 2 0 (((6 * (σ2 0 0 3)) + 1).toNatClampNeg)) 4 ∧ (vp_in (σ3 2 0 (((6 * (σ2 0 0 3)) + 1).toNatClampNeg)) 4 ∧ wp_X9_readsLine_85 post  (su σ3 7 0 ((σ3 2 0 (((6 * (σ2 0 0 3)) + 1).toNatClampNeg)).toNatClampNeg) ((σ3 7 0 ((σ3 2 0 (((6 * (σ2 0 0 3)) + 1).toNatClampNeg)).toNatClampNeg)) + 1)))))))) ∧ (r3 = 0 → post 0 σ3))) (su σ2 2 0 ((6 * (σ2 0 0 3)).toNatClampNeg) r1))) σ1) ∧ (r1 = (-1) → post 0 σ1))) σ := h
  refine lv_aload_n hx hb dX9_readsLine_0 rfl (lv_at hl 0 rfl) ?_
  refine call_Vi (As := []) (rest := []) EvM_ok S V hw (mt_X9_wordOf l D q ad   σ _ h) ok_X9_wordOf ml_X9_163 (rM_0 S V hw (Nat.le_of_ble_eq_true rfl)) ⟨(Nat.le_of_ble_eq_true rfl), (Nat.le_of_ble_eq_true rfl)⟩ ⟨rfl, rfl⟩ rfl hl.1 rfl (Nat.le_of_ble_eq_true rfl) dX9_readsLine_1 (fun r1 σ1 H locs h hw => ?_)
  refine lv_istore_n (lv' := [(1, .int r1), (0, .ref (ad 0 0))]) hx hb dX9_readsLine_4 rfl hl (by decide) rfl (fun ls hl => ?_)
  refine lv_iload_n hx hb dX9_readsLine_5 rfl (lv_at hl 0 rfl) ?_
  refine lv_iconst (v := (-1)) hx hb dX9_readsLine_6 (by decide) ?_
  refine lv_icmp_ne (tgt := 12) hx hb dX9_readsLine_7 (by decide) (fun hc => ?_) (fun hc => ?_)
  · have h := h.1 hc
    refine lv_aload_n hx hb dX9_readsLine_12 rfl (lv_at hl 1 rfl) ?_
    refine call_Vv (As := []) (rest := []) EvM_ok S V hw (mt_X9_token l D q ad   σ1 _ h) ok_X9_token ml_X9_141 (rM_0 S V hw (Nat.le_of_ble_eq_true rfl)) ⟨(Nat.le_of_ble_eq_true rfl), (Nat.le_of_ble_eq_true rfl)⟩ ⟨rfl, rfl⟩ rfl hl.1 rfl (Nat.le_of_ble_eq_true rfl) dX9_readsLine_13 (fun σ2 H locs h hw => ?_)
    refine lv_bipush (v := 6) hx hb dX9_readsLine_16 (by decide) ?_
    refine lv_aload_n hx hb dX9_readsLine_18 rfl (lv_at hl 1 rfl) ?_
    refine gM_0_3 S V hw (Nat.le_of_ble_eq_true rfl) fl_X9_138 rfl dX9_readsLine_19 ?_
    refine lv_imul hx hb dX9_readsLine_22 ?_
    refine lv_istore_n (lv' := [(2, .int (6 * (σ2 0 0 3))), (1, .int r1), (0, .ref (ad 0 0))]) hx hb dX9_readsLine_23 rfl hl (by decide) rfl (fun ls hl => ?_)
    refine lv_aload_n hx hb dX9_readsLine_24 rfl (lv_at hl 2 rfl) ?_
    refine gM_0_2 S V hw (Nat.le_of_ble_eq_true rfl) fl_X9_13 dX9_readsLine_25 ?_
    refine lv_iload_n hx hb dX9_readsLine_28 rfl (lv_at hl 0 rfl) ?_
    refine lv_iload_n hx hb dX9_readsLine_29 rfl (lv_at hl 1 rfl) ?_
    refine sM_2 S V hw (Nat.le_of_ble_eq_true rfl) h.1 dX9_readsLine_30 (fun H locs hw => ?_)
    have h := h.2
    refine lv_aload_n hx hb dX9_readsLine_31 rfl (lv_at hl 2 rfl) ?_
    refine lv_iload_n hx hb dX9_readsLine_32 rfl (lv_at hl 1 rfl) ?_
    refine call_Vi (As := [.int r1]) (rest := []) EvM_ok S V hw (mt_X9_readsRest l D q ad r1  (su σ2 2 0 ((6 * (σ2 0 0 3)).toNatClampNeg) r1) _ h) ok_X9_readsRest ml_X9_167 (rM_0 S V hw (Nat.le_of_ble_eq_true rfl)) ⟨(Nat.le_of_ble_eq_true rfl), (Nat.le_of_ble_eq_true rfl)⟩ ⟨rfl, rfl⟩ rfl hl.1 rfl (Nat.le_of_ble_eq_true rfl) dX9_readsLine_33 (fun r3 σ3 H locs h hw => ?_)
    refine lv_if_ne (tgt := 41) hx hb dX9_readsLine_36 (by decide) (fun hc => ?_) (fun hc => ?_)
    · have h := h.1 hc
      refine lv_iload_n hx hb dX9_readsLine_41 rfl (lv_at hl 1 rfl) ?_
      refine lv_iconst (v := 1) hx hb dX9_readsLine_42 (by decide) ?_
      refine lv_icmp_ne (tgt := 66) hx hb dX9_readsLine_43 (by decide) (fun hc => ?_) (fun hc => ?_)
      · have h := h.1 hc
        refine lv_iload_n hx hb dX9_readsLine_66 rfl (lv_at hl 1 rfl) ?_
        refine lv_iconst (v := 2) hx hb dX9_readsLine_67 (by decide) ?_
        refine lv_icmp_ne (tgt := 85) hx hb dX9_readsLine_68 (by decide) (fun hc => ?_) (fun hc => ?_)
        · have h := h.1 hc
          exact wk_X9_readsLine_85 S V hr hlocks    post   _ _ _ _ h  hw (lv_sub hl [2] rfl)
        · have h := h.2 hc
          refine lv_aload_n hx hb dX9_readsLine_71 rfl (lv_at hl 2 rfl) ?_
          refine gM_0_21 S V hw (Nat.le_of_ble_eq_true rfl) fl_X9_50 dX9_readsLine_72 ?_
          refine lv_aload_n hx hb dX9_readsLine_75 rfl (lv_at hl 2 rfl) ?_
          refine gM_0_2 S V hw (Nat.le_of_ble_eq_true rfl) fl_X9_13 dX9_readsLine_76 ?_
          refine lv_iload_n hx hb dX9_readsLine_79 rfl (lv_at hl 0 rfl) ?_
          refine lv_iconst (v := 1) hx hb dX9_readsLine_80 (by decide) ?_
          refine lv_iadd hx hb dX9_readsLine_81 ?_
          refine aM_2 S V hw (Nat.le_of_ble_eq_true rfl) h.1 (z := (σ3 2 0 (((6 * (σ2 0 0 3)) + 1).toNatClampNeg))) rfl dX9_readsLine_82 ?_
          have h := h.2
          refine lv_iconst (v := 0) hx hb dX9_readsLine_83 (by decide) ?_
          refine sM_7 S V hw (Nat.le_of_ble_eq_true rfl) h.1 dX9_readsLine_84 (fun H locs hw => ?_)
          have h := h.2
          exact wk_X9_readsLine_85 S V hr hlocks    post   _ _ _ _ h  hw (lv_sub hl [2] rfl)
      · have h := h.2 hc
        refine lv_aload_n hx hb dX9_readsLine_46 rfl (lv_at hl 2 rfl) ?_
        refine gM_0_21 S V hw (Nat.le_of_ble_eq_true rfl) fl_X9_50 dX9_readsLine_47 ?_
        refine lv_aload_n hx hb dX9_readsLine_50 rfl (lv_at hl 2 rfl) ?_
        refine gM_0_2 S V hw (Nat.le_of_ble_eq_true rfl) fl_X9_13 dX9_readsLine_51 ?_
        refine lv_iload_n hx hb dX9_readsLine_54 rfl (lv_at hl 0 rfl) ?_
        refine lv_iconst (v := 1) hx hb dX9_readsLine_55 (by decide) ?_
        refine lv_iadd hx hb dX9_readsLine_56 ?_
        refine aM_2 S V hw (Nat.le_of_ble_eq_true rfl) h.1 (z := (σ3 2 0 (((6 * (σ2 0 0 3)) + 1).toNatClampNeg))) rfl dX9_readsLine_57 ?_
        have h := h.2
        refine lv_dup2_11 hx hb dX9_readsLine_58 rfl rfl ?_
        refine aM_7 S V hw (Nat.le_of_ble_eq_true rfl) h.1 (z := (σ3 7 0 ((σ3 2 0 (((6 * (σ2 0 0 3)) + 1).toNatClampNeg)).toNatClampNeg))) rfl dX9_readsLine_59 ?_
        have h := h.2
        refine lv_iconst (v := 1) hx hb dX9_readsLine_60 (by decide) ?_
        refine lv_iadd hx hb dX9_readsLine_61 ?_
        refine sM_7 S V hw (Nat.le_of_ble_eq_true rfl) h.1 dX9_readsLine_62 (fun H locs hw => ?_)
        have h := h.2
        refine lv_goto (tgt := 85) hx hb dX9_readsLine_63 (by decide) ?_
        exact wk_X9_readsLine_85 S V hr hlocks    post   _ _ _ _ h  hw (lv_sub hl [2] rfl)
    · have h := h.2 hc
      refine lv_iconst (v := 0) hx hb dX9_readsLine_39 (by decide) ?_
      exact ret_z S hr hlocks hw (by decide) h dX9_readsLine_40
  · have h := h.2 hc
    refine lv_iconst (v := 0) hx hb dX9_readsLine_10 (by decide) ?_
    exact ret_z S hr hlocks hw (by decide) h dX9_readsLine_11
theorem mt_X9_readsLine (l : Launch) (D : va_G) (q : ClassId × ClassId × ClassId × ClassId) (ad : Nat → Nat → Nat)  (σ : St) (post : Int32 → St → Prop) (h : wp_X9_readsLine post σ) : cI l D clA LM ad (EM q ad) (EvM D q ad) yX9_readsLine cX9_readsLine 3 (some .boolean) { frames := 5, cells := 0, slots := 0, locals := 107 } [.ref (ad 0 0)] σ post :=
  ent_i (by decide) (Nat.le_of_ble_eq_true rfl) (fun p e s m below meth c S V hr hlocks hw ls hl => wk_X9_readsLine_0 S V hr hlocks   post   σ _ _ ls h  hw (lv_sub hl [0] rfl))
def wp_X9_fault_117 (K51 : St → Prop) (post : Int32 → St → Prop) (x1 : Int32) (σ : St) : Prop := ((¬ x1 = 0 → K51  σ) ∧ (x1 = 0 → post (σ 0 0 19) σ))
set_option maxHeartbeats 4000000 in
set_option maxRecDepth 100000 in
theorem wk_X9_fault_117 {p : Program} {l : Launch} {e : Env} {s : State} {m : MethodId} {below : List Frame} {meth : Method} {c : Code} {D : va_G} {q : ClassId × ClassId × ClassId × ClassId} {ad : Nat → Nat → Nat} {args : Array Value} (S : CallFix p m c cX9_fault 2 s args GW "OnChinModel") (V : EvM D q ad s) (hr : meth.sig.returnType = (some .int)) (hlocks : meth.locks = false) (K51 : St → Prop) (post : Int32 → St → Prop) (hK51 : ∀ (σ : St) (H : Heap) (locs : List Loc) (ls : Array Slot), K51  σ → wo D clA LM ad s.heap H locs (EM q ad σ) → lv_has ls 2 [(0, .ref (ad 0 0))] → W p l e { frames := 6, cells := 0, slots := 0, locals := 129 } s m args below meth c H locs 0 0 (MQ below (zQi D clA LM ad (EM q ad) post) args s 0 0 (zA LM ad)) (F0 m 51 ls [])) : ∀ (x1 : Int32) (σ : St) (H : Heap) (locs : List Loc) (ls : Array Slot), wp_X9_fault_117 K51 post x1 σ → wo D clA LM ad s.heap H locs (EM q ad σ) → lv_has ls 2 [(0, .ref (ad 0 0)), (1, .int x1)] → W p l e { frames := 6, cells := 0, slots := 0, locals := 129 } s m args below meth c H locs 0 0 (MQ below (zQi D clA LM ad (EM q ad) post) args s 0 0 (zA LM ad)) (F0 m 117 ls []) := by
  have hx := S.1
  have hb := S.2.1
  intro x1 σ H locs ls h  hw hl
  refine lv_iload_n hx hb dX9_fault_117 rfl (lv_at hl 1 rfl) ?_
  refine lv_if_ne (tgt := 126) hx hb dX9_fault_118 (by decide) (fun hc => ?_) (fun hc => ?_)
  · have h := h.1 hc
    refine lv_goto (tgt := 51) hx hb dX9_fault_126 (by decide) ?_
    exact hK51  _ _ _ _ h  hw (lv_sub hl [0] rfl)
  · have h := h.2 hc
    refine lv_aload_n hx hb dX9_fault_121 rfl (lv_at hl 0 rfl) ?_
    refine gM_0_19 S V hw (Nat.le_of_ble_eq_true rfl) fl_X9_104 rfl dX9_fault_122 ?_
    exact ret_i S hr hlocks hw h dX9_fault_125
def wp_X9_fault_103 (K51 : St → Prop) (post : Int32 → St → Prop) (xs0 : Int32) (σ : St) : Prop := ((xs0 = 0 → wp_X9_fault_117 K51 post xs0 σ) ∧ (¬ xs0 = 0 → wp_X9_token (fun σ1 => wp_X9_readsLine (fun r2 σ2 => wp_X9_fault_117 K51 post r2 σ2) σ1) σ))
set_option maxHeartbeats 4000000 in
set_option maxRecDepth 100000 in
theorem wk_X9_fault_103 {p : Program} {l : Launch} {e : Env} {s : State} {m : MethodId} {below : List Frame} {meth : Method} {c : Code} {D : va_G} {q : ClassId × ClassId × ClassId × ClassId} {ad : Nat → Nat → Nat} {args : Array Value} (S : CallFix p m c cX9_fault 2 s args GW "OnChinModel") (V : EvM D q ad s) (hr : meth.sig.returnType = (some .int)) (hlocks : meth.locks = false) (K51 : St → Prop) (post : Int32 → St → Prop) (hK51 : ∀ (σ : St) (H : Heap) (locs : List Loc) (ls : Array Slot), K51  σ → wo D clA LM ad s.heap H locs (EM q ad σ) → lv_has ls 2 [(0, .ref (ad 0 0))] → W p l e { frames := 6, cells := 0, slots := 0, locals := 129 } s m args below meth c H locs 0 0 (MQ below (zQi D clA LM ad (EM q ad) post) args s 0 0 (zA LM ad)) (F0 m 51 ls [])) : ∀ (xs0 : Int32) (σ : St) (H : Heap) (locs : List Loc) (ls : Array Slot), wp_X9_fault_103 K51 post xs0 σ → wo D clA LM ad s.heap H locs (EM q ad σ) → lv_has ls 2 [(0, .ref (ad 0 0))] → W p l e { frames := 6, cells := 0, slots := 0, locals := 129 } s m args below meth c H locs 0 0 (MQ below (zQi D clA LM ad (EM q ad) post) args s 0 0 (zA LM ad)) (F0 m 103 ls [.int xs0]) := by
  have hx := S.1
  have hb := S.2.1
  intro xs0 σ H locs ls h  hw hl
  refine lv_istore_n (lv' := [(1, .int xs0), (0, .ref (ad 0 0))]) hx hb dX9_fault_103 rfl hl (by decide) rfl (fun ls hl => ?_)
  refine lv_iload_n hx hb dX9_fault_104 rfl (lv_at hl 0 rfl) ?_
  refine lv_if_eq (tgt := 117) hx hb dX9_fault_105 (by decide) (fun hc => ?_) (fun hc => ?_)
  · have h := h.1 hc
    exact wk_X9_fault_117 S V hr hlocks   K51 post hK51 xs0 _ _ _ _ h  hw (lv_sub hl [1, 0] rfl)
  · have h := h.2 hc
    refine lv_aload_n hx hb dX9_fault_108 rfl (lv_at hl 1 rfl) ?_
    refine call_Vv (As := []) (rest := []) EvM_ok S V hw (mt_X9_token l D q ad   σ _ h) ok_X9_token ml_X9_141 (rM_0 S V hw (Nat.le_of_ble_eq_true rfl)) ⟨(Nat.le_of_ble_eq_true rfl), (Nat.le_of_ble_eq_true rfl)⟩ ⟨rfl, rfl⟩ rfl hl.1 rfl (Nat.le_of_ble_eq_true rfl) dX9_fault_109 (fun σ1 H locs h hw => ?_)
    refine lv_aload_n hx hb dX9_fault_112 rfl (lv_at hl 1 rfl) ?_
    refine call_Vi (As := []) (rest := []) EvM_ok S V hw (mt_X9_readsLine l D q ad   σ1 _ h) ok_X9_readsLine ml_X9_171 (rM_0 S V hw (Nat.le_of_ble_eq_true rfl)) ⟨(Nat.le_of_ble_eq_true rfl), (Nat.le_of_ble_eq_true rfl)⟩ ⟨rfl, rfl⟩ rfl hl.1 rfl (Nat.le_of_ble_eq_true rfl) dX9_fault_113 (fun r2 σ2 H locs h hw => ?_)
    refine lv_istore_n (lv' := [(1, .int r2), (0, .ref (ad 0 0))]) hx hb dX9_fault_116 rfl hl (by decide) rfl (fun ls hl => ?_)
    exact wk_X9_fault_117 S V hr hlocks   K51 post hK51 r2 _ _ _ _ h  hw (lv_sub hl [1, 0] rfl)
def wp_X9_fault_102 (K51 : St → Prop) (post : Int32 → St → Prop)  (σ : St) : Prop := wp_X9_fault_103 K51 post 0 σ
set_option maxHeartbeats 4000000 in
set_option maxRecDepth 100000 in
theorem wk_X9_fault_102 {p : Program} {l : Launch} {e : Env} {s : State} {m : MethodId} {below : List Frame} {meth : Method} {c : Code} {D : va_G} {q : ClassId × ClassId × ClassId × ClassId} {ad : Nat → Nat → Nat} {args : Array Value} (S : CallFix p m c cX9_fault 2 s args GW "OnChinModel") (V : EvM D q ad s) (hr : meth.sig.returnType = (some .int)) (hlocks : meth.locks = false) (K51 : St → Prop) (post : Int32 → St → Prop) (hK51 : ∀ (σ : St) (H : Heap) (locs : List Loc) (ls : Array Slot), K51  σ → wo D clA LM ad s.heap H locs (EM q ad σ) → lv_has ls 2 [(0, .ref (ad 0 0))] → W p l e { frames := 6, cells := 0, slots := 0, locals := 129 } s m args below meth c H locs 0 0 (MQ below (zQi D clA LM ad (EM q ad) post) args s 0 0 (zA LM ad)) (F0 m 51 ls [])) : ∀ (σ : St) (H : Heap) (locs : List Loc) (ls : Array Slot), wp_X9_fault_102 K51 post  σ → wo D clA LM ad s.heap H locs (EM q ad σ) → lv_has ls 2 [(0, .ref (ad 0 0))] → W p l e { frames := 6, cells := 0, slots := 0, locals := 129 } s m args below meth c H locs 0 0 (MQ below (zQi D clA LM ad (EM q ad) post) args s 0 0 (zA LM ad)) (F0 m 102 ls []) := by
  have hx := S.1
  have hb := S.2.1
  intro  σ H locs ls h  hw hl
  have h : wp_X9_fault_103 K51 post 0 σ := h
  refine lv_iconst (v := 0) hx hb dX9_fault_102 (by decide) ?_
  exact wk_X9_fault_103 S V hr hlocks   K51 post hK51 0 _ _ _ _ h  hw (lv_sub hl [0] rfl)
def wp_X9_fault_51 (post : Int32 → St → Prop) : Nat → St → Prop
  | 0 => fun  _ => False
  | n + 1 => fun  σ => (((σ 0 0 1) ≤ (σ 0 0 19) → post (-1) σ) ∧ (¬ (σ 0 0 1) ≤ (σ 0 0 19) → ((¬ ((σ 0 0 20) - (σ 0 0 19)) = 1 → wp_X9_fault_102 (fun  τ => wp_X9_fault_51 post n  τ) post  σ) ∧ (((σ 0 0 20) - (σ 0 0 19)) = 1 → (vp_in (σ 0 0 19) 200 ∧ ((¬ (σ 1 0 ((σ 0 0 19).toNatClampNeg)) = 59 → wp_X9_fault_102 (fun  τ => wp_X9_fault_51 post n  τ) post  σ) ∧ ((σ 1 0 ((σ 0 0 19).toNatClampNeg)) = 59 → ((8 ≤ (σ 0 0 3) → wp_X9_fault_102 (fun  τ => wp_X9_fault_51 post n  τ) post  σ) ∧ (¬ 8 ≤ (σ 0 0 3) → wp_X9_fault_103 (fun  τ => wp_X9_fault_51 post n  τ) post 1 σ)))))))))
set_option maxHeartbeats 4000000 in
set_option maxRecDepth 100000 in
theorem wk_X9_fault_51 {p : Program} {l : Launch} {e : Env} {s : State} {m : MethodId} {below : List Frame} {meth : Method} {c : Code} {D : va_G} {q : ClassId × ClassId × ClassId × ClassId} {ad : Nat → Nat → Nat} {args : Array Value} (S : CallFix p m c cX9_fault 2 s args GW "OnChinModel") (V : EvM D q ad s) (hr : meth.sig.returnType = (some .int)) (hlocks : meth.locks = false) (post : Int32 → St → Prop)  : ∀ (n : Nat) (σ : St) (H : Heap) (locs : List Loc) (ls : Array Slot), wp_X9_fault_51 post n  σ → wo D clA LM ad s.heap H locs (EM q ad σ) → lv_has ls 2 [(0, .ref (ad 0 0))] → W p l e { frames := 6, cells := 0, slots := 0, locals := 129 } s m args below meth c H locs 0 0 (MQ below (zQi D clA LM ad (EM q ad) post) args s 0 0 (zA LM ad)) (F0 m 51 ls []) := by
  have hx := S.1
  have hb := S.2.1
  intro n
  induction n with
  | zero => intro  σ H locs ls h; exact False.elim h
  | succ n ih =>
    intro  σ H locs ls h  hw hl
    refine lv_aload_n hx hb dX9_fault_51 rfl (lv_at hl 0 rfl) ?_
    refine gM_0_19 S V hw (Nat.le_of_ble_eq_true rfl) fl_X9_104 rfl dX9_fault_52 ?_
    refine lv_aload_n hx hb dX9_fault_55 rfl (lv_at hl 0 rfl) ?_
    refine gM_0_1 S V hw (Nat.le_of_ble_eq_true rfl) fl_X9_96 rfl dX9_fault_56 ?_
    refine lv_icmp_ge (tgt := 129) hx hb dX9_fault_59 (by decide) (fun hc => ?_) (fun hc => ?_)
    · have h := h.1 hc
      refine lv_iconst (v := (-1)) hx hb dX9_fault_129 (by decide) ?_
      exact ret_i S hr hlocks hw h dX9_fault_130
    · have h := h.2 hc
      refine lv_aload_n hx hb dX9_fault_62 rfl (lv_at hl 0 rfl) ?_
      refine gM_0_20 S V hw (Nat.le_of_ble_eq_true rfl) fl_X9_111 rfl dX9_fault_63 ?_
      refine lv_aload_n hx hb dX9_fault_66 rfl (lv_at hl 0 rfl) ?_
      refine gM_0_19 S V hw (Nat.le_of_ble_eq_true rfl) fl_X9_104 rfl dX9_fault_67 ?_
      refine lv_isub hx hb dX9_fault_70 ?_
      refine lv_iconst (v := 1) hx hb dX9_fault_71 (by decide) ?_
      refine lv_icmp_ne (tgt := 102) hx hb dX9_fault_72 (by decide) (fun hc => ?_) (fun hc => ?_)
      · have h := h.1 hc
        exact wk_X9_fault_102 S V hr hlocks   (fun  τ => wp_X9_fault_51 post n  τ) post ih  _ _ _ _ h  hw (lv_sub hl [0] rfl)
      · have h := h.2 hc
        refine lv_aload_n hx hb dX9_fault_75 rfl (lv_at hl 0 rfl) ?_
        refine gM_0_0 S V hw (Nat.le_of_ble_eq_true rfl) fl_X9_7 dX9_fault_76 ?_
        refine lv_aload_n hx hb dX9_fault_79 rfl (lv_at hl 0 rfl) ?_
        refine gM_0_19 S V hw (Nat.le_of_ble_eq_true rfl) fl_X9_104 rfl dX9_fault_80 ?_
        refine aM_1 S V hw (Nat.le_of_ble_eq_true rfl) h.1 (z := (σ 1 0 ((σ 0 0 19).toNatClampNeg))) rfl dX9_fault_83 ?_
        have h := h.2
        refine lv_bipush (v := 59) hx hb dX9_fault_84 (by decide) ?_
        refine lv_icmp_ne (tgt := 102) hx hb dX9_fault_86 (by decide) (fun hc => ?_) (fun hc => ?_)
        · have h := h.1 hc
          exact wk_X9_fault_102 S V hr hlocks   (fun  τ => wp_X9_fault_51 post n  τ) post ih  _ _ _ _ h  hw (lv_sub hl [0] rfl)
        · have h := h.2 hc
          refine lv_aload_n hx hb dX9_fault_89 rfl (lv_at hl 0 rfl) ?_
          refine gM_0_3 S V hw (Nat.le_of_ble_eq_true rfl) fl_X9_138 rfl dX9_fault_90 ?_
          refine lv_bipush (v := 8) hx hb dX9_fault_93 (by decide) ?_
          refine lv_icmp_ge (tgt := 102) hx hb dX9_fault_95 (by decide) (fun hc => ?_) (fun hc => ?_)
          · have h := h.1 hc
            exact wk_X9_fault_102 S V hr hlocks   (fun  τ => wp_X9_fault_51 post n  τ) post ih  _ _ _ _ h  hw (lv_sub hl [0] rfl)
          · have h := h.2 hc
            refine lv_iconst (v := 1) hx hb dX9_fault_98 (by decide) ?_
            refine lv_goto (tgt := 103) hx hb dX9_fault_99 (by decide) ?_
            exact wk_X9_fault_103 S V hr hlocks   (fun  τ => wp_X9_fault_51 post n  τ) post ih 1 _ _ _ _ h  hw (lv_sub hl [0] rfl)
def wp_X9_fault_12 (post : Int32 → St → Prop) : Nat → Int32 → St → Prop
  | 0 => fun _ _ => False
  | n + 1 => fun x1 σ => ((4 ≤ x1 → wp_X9_token (fun σ1 => wp_X9_readsLine (fun r2 σ2 => ((¬ r2 = 0 → ∃ nn, wp_X9_fault_51 post nn  σ2) ∧ (r2 = 0 → post (σ2 0 0 19) σ2))) σ1) σ) ∧ (¬ 4 ≤ x1 → (vp_in x1 4 ∧ (vp_in x1 4 ∧ wp_X9_fault_12 post n (x1 + 1) (su σ 7 0 x1.toNatClampNeg (σ 5 0 x1.toNatClampNeg))))))
set_option maxHeartbeats 4000000 in
set_option maxRecDepth 100000 in
theorem wk_X9_fault_12 {p : Program} {l : Launch} {e : Env} {s : State} {m : MethodId} {below : List Frame} {meth : Method} {c : Code} {D : va_G} {q : ClassId × ClassId × ClassId × ClassId} {ad : Nat → Nat → Nat} {args : Array Value} (S : CallFix p m c cX9_fault 2 s args GW "OnChinModel") (V : EvM D q ad s) (hr : meth.sig.returnType = (some .int)) (hlocks : meth.locks = false) (post : Int32 → St → Prop)  : ∀ (n : Nat) (x1 : Int32) (σ : St) (H : Heap) (locs : List Loc) (ls : Array Slot), wp_X9_fault_12 post n x1 σ → wo D clA LM ad s.heap H locs (EM q ad σ) → lv_has ls 2 [(0, .ref (ad 0 0)), (1, .int x1)] → W p l e { frames := 6, cells := 0, slots := 0, locals := 129 } s m args below meth c H locs 0 0 (MQ below (zQi D clA LM ad (EM q ad) post) args s 0 0 (zA LM ad)) (F0 m 12 ls []) := by
  have hx := S.1
  have hb := S.2.1
  intro n
  induction n with
  | zero => intro x1 σ H locs ls h; exact False.elim h
  | succ n ih =>
    intro x1 σ H locs ls h  hw hl
    refine lv_iload_n hx hb dX9_fault_12 rfl (lv_at hl 1 rfl) ?_
    refine lv_iconst (v := 4) hx hb dX9_fault_13 (by decide) ?_
    refine lv_icmp_ge (tgt := 35) hx hb dX9_fault_14 (by decide) (fun hc => ?_) (fun hc => ?_)
    · have h := h.1 hc
      refine lv_aload_n hx hb dX9_fault_35 rfl (lv_at hl 0 rfl) ?_
      refine call_Vv (As := []) (rest := []) EvM_ok S V hw (mt_X9_token l D q ad   σ _ h) ok_X9_token ml_X9_141 (rM_0 S V hw (Nat.le_of_ble_eq_true rfl)) ⟨(Nat.le_of_ble_eq_true rfl), (Nat.le_of_ble_eq_true rfl)⟩ ⟨rfl, rfl⟩ rfl hl.1 rfl (Nat.le_of_ble_eq_true rfl) dX9_fault_36 (fun σ1 H locs h hw => ?_)
      refine lv_aload_n hx hb dX9_fault_39 rfl (lv_at hl 0 rfl) ?_
      refine call_Vi (As := []) (rest := []) EvM_ok S V hw (mt_X9_readsLine l D q ad   σ1 _ h) ok_X9_readsLine ml_X9_171 (rM_0 S V hw (Nat.le_of_ble_eq_true rfl)) ⟨(Nat.le_of_ble_eq_true rfl), (Nat.le_of_ble_eq_true rfl)⟩ ⟨rfl, rfl⟩ rfl hl.1 rfl (Nat.le_of_ble_eq_true rfl) dX9_fault_40 (fun r2 σ2 H locs h hw => ?_)
      refine lv_if_ne (tgt := 51) hx hb dX9_fault_43 (by decide) (fun hc => ?_) (fun hc => ?_)
      · have h := h.1 hc
        obtain ⟨n9, h⟩ := h
        exact wk_X9_fault_51 S V hr hlocks    post  n9  _ _ _ _ h  hw (lv_sub hl [0] rfl)
      · have h := h.2 hc
        refine lv_aload_n hx hb dX9_fault_46 rfl (lv_at hl 0 rfl) ?_
        refine gM_0_19 S V hw (Nat.le_of_ble_eq_true rfl) fl_X9_104 rfl dX9_fault_47 ?_
        exact ret_i S hr hlocks hw h dX9_fault_50
    · have h := h.2 hc
      refine lv_aload_n hx hb dX9_fault_17 rfl (lv_at hl 0 rfl) ?_
      refine gM_0_21 S V hw (Nat.le_of_ble_eq_true rfl) fl_X9_50 dX9_fault_18 ?_
      refine lv_iload_n hx hb dX9_fault_21 rfl (lv_at hl 1 rfl) ?_
      refine lv_aload_n hx hb dX9_fault_22 rfl (lv_at hl 0 rfl) ?_
      refine gM_0_6 S V hw (Nat.le_of_ble_eq_true rfl) fl_X9_22 dX9_fault_23 ?_
      refine lv_iload_n hx hb dX9_fault_26 rfl (lv_at hl 1 rfl) ?_
      refine aM_5 S V hw (Nat.le_of_ble_eq_true rfl) h.1 (z := (σ 5 0 x1.toNatClampNeg)) rfl dX9_fault_27 ?_
      have h := h.2
      refine sM_7 S V hw (Nat.le_of_ble_eq_true rfl) h.1 dX9_fault_28 (fun H locs hw => ?_)
      have h := h.2
      refine lv_iinc (v := (x1 + 1)) (lv' := [(1, .int (x1 + 1)), (0, .ref (ad 0 0))]) hx hb dX9_fault_29 hl (k := 1) rfl rfl (by decide) rfl (fun ls hl => ?_)
      refine lv_goto (tgt := 12) hx hb dX9_fault_32 (by decide) ?_
      exact ih (x1 + 1) _ _ _ _ h  hw (lv_sub hl [1, 0] rfl)
def wp_X9_fault (post : Int32 → St → Prop)  (σ : St) : Prop := ∃ nn, wp_X9_fault_12 post nn 0 (su (su σ 0 0 18 0) 0 0 3 0)
set_option maxHeartbeats 4000000 in
set_option maxRecDepth 100000 in
theorem wk_X9_fault_0 {p : Program} {l : Launch} {e : Env} {s : State} {m : MethodId} {below : List Frame} {meth : Method} {c : Code} {D : va_G} {q : ClassId × ClassId × ClassId × ClassId} {ad : Nat → Nat → Nat} {args : Array Value} (S : CallFix p m c cX9_fault 2 s args GW "OnChinModel") (V : EvM D q ad s) (hr : meth.sig.returnType = (some .int)) (hlocks : meth.locks = false) (post : Int32 → St → Prop)  : ∀ (σ : St) (H : Heap) (locs : List Loc) (ls : Array Slot), wp_X9_fault post  σ → wo D clA LM ad s.heap H locs (EM q ad σ) → lv_has ls 2 [(0, .ref (ad 0 0))] → W p l e { frames := 6, cells := 0, slots := 0, locals := 129 } s m args below meth c H locs 0 0 (MQ below (zQi D clA LM ad (EM q ad) post) args s 0 0 (zA LM ad)) (F0 m 0 ls []) := by
  have hx := S.1
  have hb := S.2.1
  intro  σ H locs ls h  hw hl
  refine lv_aload_n hx hb dX9_fault_0 rfl (lv_at hl 0 rfl) ?_
  refine lv_iconst (v := 0) hx hb dX9_fault_1 (by decide) ?_
  refine pM_0_18 S V hw (Nat.le_of_ble_eq_true rfl) fl_X9_101 dX9_fault_2 (fun H locs hw => ?_)
  refine lv_aload_n hx hb dX9_fault_5 rfl (lv_at hl 0 rfl) ?_
  refine lv_iconst (v := 0) hx hb dX9_fault_6 (by decide) ?_
  refine pM_0_3 S V hw (Nat.le_of_ble_eq_true rfl) fl_X9_138 dX9_fault_7 (fun H locs hw => ?_)
  refine lv_iconst (v := 0) hx hb dX9_fault_10 (by decide) ?_
  refine lv_istore_n (lv' := [(1, .int 0), (0, .ref (ad 0 0))]) hx hb dX9_fault_11 rfl hl (by decide) rfl (fun ls hl => ?_)
  obtain ⟨n9, h⟩ := h
  exact wk_X9_fault_12 S V hr hlocks    post  n9 0 _ _ _ _ h  hw (lv_sub hl [1, 0] rfl)
theorem mt_X9_fault (l : Launch) (D : va_G) (q : ClassId × ClassId × ClassId × ClassId) (ad : Nat → Nat → Nat)  (σ : St) (post : Int32 → St → Prop) (h : wp_X9_fault post σ) : cI l D clA LM ad (EM q ad) (EvM D q ad) yX9_fault cX9_fault 2 (some .int) { frames := 6, cells := 0, slots := 0, locals := 129 } [.ref (ad 0 0)] σ post :=
  ent_i (by decide) (Nat.le_of_ble_eq_true rfl) (fun p e s m below meth c S V hr hlocks hw ls hl => wk_X9_fault_0 S V hr hlocks   post   σ _ _ ls h  hw (lv_sub hl [0] rfl))
def wp_X9_tell (x1 : Int32) (post : St → Prop)  (σ : St) : Prop := (vp_in (x1 + 1) 48 ∧ (vp_in (x1 + 2) 48 ∧ (vp_in (x1 + 3) 48 ∧ (vp_in x1 48 ∧ (((σ 2 0 x1.toNatClampNeg) = 0 → (vp_in (σ 2 0 ((x1 + 1).toNatClampNeg)) 4 ∧ (vp_in (σ 2 0 ((x1 + 1).toNatClampNeg)) 4 ∧ post (su (su σ 3 0 ((σ 2 0 ((x1 + 1).toNatClampNeg)).toNatClampNeg) (σ 2 0 ((x1 + 2).toNatClampNeg))) 4 0 ((σ 2 0 ((x1 + 1).toNatClampNeg)).toNatClampNeg) (σ 2 0 ((x1 + 3).toNatClampNeg)))))) ∧ (¬ (σ 2 0 x1.toNatClampNeg) = 0 → (((σ 2 0 x1.toNatClampNeg) = 1 → (vp_in (σ 2 0 ((x1 + 1).toNatClampNeg)) 4 ∧ (vp_in ((8 * (σ 2 0 ((x1 + 1).toNatClampNeg))) + (2 * (σ 5 0 ((σ 2 0 ((x1 + 1).toNatClampNeg)).toNatClampNeg)))) 32 ∧ (vp_in (σ 2 0 ((x1 + 1).toNatClampNeg)) 4 ∧ (vp_in (((8 * (σ 2 0 ((x1 + 1).toNatClampNeg))) + (2 * (σ 5 0 ((σ 2 0 ((x1 + 1).toNatClampNeg)).toNatClampNeg)))) + 1) 32 ∧ (vp_in (σ 2 0 ((x1 + 1).toNatClampNeg)) 4 ∧ (vp_in (σ 2 0 ((x1 + 1).toNatClampNeg)) 4 ∧ post (su (su (su σ 6 0 (((8 * (σ 2 0 ((x1 + 1).toNatClampNeg))) + (2 * (σ 5 0 ((σ 2 0 ((x1 + 1).toNatClampNeg)).toNatClampNeg)))).toNatClampNeg) (σ 2 0 ((x1 + 2).toNatClampNeg))) 6 0 ((((8 * (σ 2 0 ((x1 + 1).toNatClampNeg))) + (2 * (σ 5 0 ((σ 2 0 ((x1 + 1).toNatClampNeg)).toNatClampNeg)))) + 1).toNatClampNeg) (σ 2 0 ((x1 + 3).toNatClampNeg))) 5 0 ((σ 2 0 ((x1 + 1).toNatClampNeg)).toNatClampNeg) ((σ 5 0 ((σ 2 0 ((x1 + 1).toNatClampNeg)).toNatClampNeg)) + 1))))))))) ∧ (¬ (σ 2 0 x1.toNatClampNeg) = 1 → (((σ 2 0 x1.toNatClampNeg) = 2 → (vp_in (σ 2 0 ((x1 + 1).toNatClampNeg)) 4 ∧ post (su σ 5 0 ((σ 2 0 ((x1 + 1).toNatClampNeg)).toNatClampNeg) 0))) ∧ (¬ (σ 2 0 x1.toNatClampNeg) = 2 → (((σ 2 0 x1.toNatClampNeg) = 3 → (vp_in (x1 + 4) 48 ∧ (vp_in (x1 + 5) 48 ∧ post (su (su (su (su (su σ 0 0 8 (σ 2 0 ((x1 + 1).toNatClampNeg))) 0 0 9 (σ 2 0 ((x1 + 2).toNatClampNeg))) 0 0 10 (σ 2 0 ((x1 + 3).toNatClampNeg))) 0 0 11 (σ 2 0 ((x1 + 4).toNatClampNeg))) 0 0 12 (σ 2 0 ((x1 + 5).toNatClampNeg)))))) ∧ (¬ (σ 2 0 x1.toNatClampNeg) = 3 → (((σ 2 0 x1.toNatClampNeg) = 4 → post (su σ 0 0 13 (σ 2 0 ((x1 + 1).toNatClampNeg)))) ∧ (¬ (σ 2 0 x1.toNatClampNeg) = 4 → (((σ 2 0 x1.toNatClampNeg) = 5 → post (su σ 0 0 14 (σ 2 0 ((x1 + 1).toNatClampNeg)))) ∧ (¬ (σ 2 0 x1.toNatClampNeg) = 5 → (((σ 2 0 x1.toNatClampNeg) = 6 → post (su σ 0 0 15 (σ 2 0 ((x1 + 1).toNatClampNeg)))) ∧ (¬ (σ 2 0 x1.toNatClampNeg) = 6 → (((σ 2 0 x1.toNatClampNeg) = 7 → post (su σ 0 0 16 (σ 2 0 ((x1 + 1).toNatClampNeg)))) ∧ (¬ (σ 2 0 x1.toNatClampNeg) = 7 → post (su σ 0 0 17 (σ 2 0 ((x1 + 1).toNatClampNeg)))))))))))))))))))))))
set_option maxHeartbeats 4000000 in
set_option maxRecDepth 100000 in
theorem wk_X9_tell_0 {p : Program} {l : Launch} {e : Env} {s : State} {m : MethodId} {below : List Frame} {meth : Method} {c : Code} {D : va_G} {q : ClassId × ClassId × ClassId × ClassId} {ad : Nat → Nat → Nat} {args : Array Value} (S : CallFix p m c cX9_tell 5 s args GW "OnChinModel") (V : EvM D q ad s) (hr : meth.sig.returnType = none) (hlocks : meth.locks = false) (x1 : Int32) (post : St → Prop)  : ∀ (σ : St) (H : Heap) (locs : List Loc) (ls : Array Slot), wp_X9_tell x1 post  σ → wo D clA LM ad s.heap H locs (EM q ad σ) → lv_has ls 5 [(0, .ref (ad 0 0)), (1, .int x1)] → W p l e { frames := 0, cells := 0, slots := 0, locals := 0 } s m args below meth c H locs 0 0 (MQ below (zQv D clA LM ad (EM q ad) post) args s 0 0 (zA LM ad)) (F0 m 0 ls []) := by
  have hx := S.1
  have hb := S.2.1
  intro  σ H locs ls h  hw hl
  refine lv_aload_n hx hb dX9_tell_0 rfl (lv_at hl 0 rfl) ?_
  refine gM_0_2 S V hw (Nat.le_of_ble_eq_true rfl) fl_X9_13 dX9_tell_1 ?_
  refine lv_iload_n hx hb dX9_tell_4 rfl (lv_at hl 1 rfl) ?_
  refine lv_iconst (v := 1) hx hb dX9_tell_5 (by decide) ?_
  refine lv_iadd hx hb dX9_tell_6 ?_
  refine aM_2 S V hw (Nat.le_of_ble_eq_true rfl) h.1 (z := (σ 2 0 ((x1 + 1).toNatClampNeg))) rfl dX9_tell_7 ?_
  have h := h.2
  refine lv_istore_n (lv' := [(2, .int (σ 2 0 ((x1 + 1).toNatClampNeg))), (0, .ref (ad 0 0)), (1, .int x1)]) hx hb dX9_tell_8 rfl hl (by decide) rfl (fun ls hl => ?_)
  refine lv_aload_n hx hb dX9_tell_9 rfl (lv_at hl 1 rfl) ?_
  refine gM_0_2 S V hw (Nat.le_of_ble_eq_true rfl) fl_X9_13 dX9_tell_10 ?_
  refine lv_iload_n hx hb dX9_tell_13 rfl (lv_at hl 2 rfl) ?_
  refine lv_iconst (v := 2) hx hb dX9_tell_14 (by decide) ?_
  refine lv_iadd hx hb dX9_tell_15 ?_
  refine aM_2 S V hw (Nat.le_of_ble_eq_true rfl) h.1 (z := (σ 2 0 ((x1 + 2).toNatClampNeg))) rfl dX9_tell_16 ?_
  have h := h.2
  refine lv_istore_n (lv' := [(3, .int (σ 2 0 ((x1 + 2).toNatClampNeg))), (2, .int (σ 2 0 ((x1 + 1).toNatClampNeg))), (0, .ref (ad 0 0)), (1, .int x1)]) hx hb dX9_tell_17 rfl hl (by decide) rfl (fun ls hl => ?_)
  refine lv_aload_n hx hb dX9_tell_18 rfl (lv_at hl 2 rfl) ?_
  refine gM_0_2 S V hw (Nat.le_of_ble_eq_true rfl) fl_X9_13 dX9_tell_19 ?_
  refine lv_iload_n hx hb dX9_tell_22 rfl (lv_at hl 3 rfl) ?_
  refine lv_iconst (v := 3) hx hb dX9_tell_23 (by decide) ?_
  refine lv_iadd hx hb dX9_tell_24 ?_
  refine aM_2 S V hw (Nat.le_of_ble_eq_true rfl) h.1 (z := (σ 2 0 ((x1 + 3).toNatClampNeg))) rfl dX9_tell_25 ?_
  have h := h.2
  refine lv_istore (lv' := [(4, .int (σ 2 0 ((x1 + 3).toNatClampNeg))), (3, .int (σ 2 0 ((x1 + 2).toNatClampNeg))), (2, .int (σ 2 0 ((x1 + 1).toNatClampNeg))), (0, .ref (ad 0 0)), (1, .int x1)]) hx hb dX9_tell_26 hl (by decide) rfl (fun ls hl => ?_)
  refine lv_aload_n hx hb dX9_tell_28 rfl (lv_at hl 3 rfl) ?_
  refine gM_0_2 S V hw (Nat.le_of_ble_eq_true rfl) fl_X9_13 dX9_tell_29 ?_
  refine lv_iload_n hx hb dX9_tell_32 rfl (lv_at hl 4 rfl) ?_
  refine aM_2 S V hw (Nat.le_of_ble_eq_true rfl) h.1 (z := (σ 2 0 x1.toNatClampNeg)) rfl dX9_tell_33 ?_
  have h := h.2
  by_cases hc0 : (σ 2 0 x1.toNatClampNeg) = 0
  · have h := h.1 hc0
    refine lv_tableIn (tgt := 80) hx hb dX9_tell_34 (by rw [hc0]; decide) (by rw [hc0]; decide) (by rw [hc0]; rfl) (by decide) ?_
    refine lv_aload_n hx hb dX9_tell_80 rfl (lv_at hl 3 rfl) ?_
    refine gM_0_4 S V hw (Nat.le_of_ble_eq_true rfl) fl_X9_16 dX9_tell_81 ?_
    refine lv_iload_n hx hb dX9_tell_84 rfl (lv_at hl 2 rfl) ?_
    refine lv_iload_n hx hb dX9_tell_85 rfl (lv_at hl 1 rfl) ?_
    refine sM_3 S V hw (Nat.le_of_ble_eq_true rfl) h.1 dX9_tell_86 (fun H locs hw => ?_)
    have h := h.2
    refine lv_aload_n hx hb dX9_tell_87 rfl (lv_at hl 3 rfl) ?_
    refine gM_0_5 S V hw (Nat.le_of_ble_eq_true rfl) fl_X9_19 dX9_tell_88 ?_
    refine lv_iload_n hx hb dX9_tell_91 rfl (lv_at hl 2 rfl) ?_
    refine lv_iload hx hb dX9_tell_92 (lv_at hl 0 rfl) ?_
    refine sM_4 S V hw (Nat.le_of_ble_eq_true rfl) h.1 dX9_tell_94 (fun H locs hw => ?_)
    have h := h.2
    exact ret_v S hr hlocks hw h dX9_tell_95
  · have h := h.2 hc0
    by_cases hc1 : (σ 2 0 x1.toNatClampNeg) = 1
    · have h := h.1 hc1
      refine lv_tableIn (tgt := 96) hx hb dX9_tell_34 (by rw [hc1]; decide) (by rw [hc1]; decide) (by rw [hc1]; rfl) (by decide) ?_
      refine lv_aload_n hx hb dX9_tell_96 rfl (lv_at hl 3 rfl) ?_
      refine gM_0_7 S V hw (Nat.le_of_ble_eq_true rfl) fl_X9_25 dX9_tell_97 ?_
      refine lv_bipush (v := 8) hx hb dX9_tell_100 (by decide) ?_
      refine lv_iload_n hx hb dX9_tell_102 rfl (lv_at hl 2 rfl) ?_
      refine lv_imul hx hb dX9_tell_103 ?_
      refine lv_iconst (v := 2) hx hb dX9_tell_104 (by decide) ?_
      refine lv_aload_n hx hb dX9_tell_105 rfl (lv_at hl 3 rfl) ?_
      refine gM_0_6 S V hw (Nat.le_of_ble_eq_true rfl) fl_X9_22 dX9_tell_106 ?_
      refine lv_iload_n hx hb dX9_tell_109 rfl (lv_at hl 2 rfl) ?_
      refine aM_5 S V hw (Nat.le_of_ble_eq_true rfl) h.1 (z := (σ 5 0 ((σ 2 0 ((x1 + 1).toNatClampNeg)).toNatClampNeg))) rfl dX9_tell_110 ?_
      have h := h.2
      refine lv_imul hx hb dX9_tell_111 ?_
      refine lv_iadd hx hb dX9_tell_112 ?_
      refine lv_iload_n hx hb dX9_tell_113 rfl (lv_at hl 1 rfl) ?_
      refine sM_6 S V hw (Nat.le_of_ble_eq_true rfl) h.1 dX9_tell_114 (fun H locs hw => ?_)
      have h := h.2
      refine lv_aload_n hx hb dX9_tell_115 rfl (lv_at hl 3 rfl) ?_
      refine gM_0_7 S V hw (Nat.le_of_ble_eq_true rfl) fl_X9_25 dX9_tell_116 ?_
      refine lv_bipush (v := 8) hx hb dX9_tell_119 (by decide) ?_
      refine lv_iload_n hx hb dX9_tell_121 rfl (lv_at hl 2 rfl) ?_
      refine lv_imul hx hb dX9_tell_122 ?_
      refine lv_iconst (v := 2) hx hb dX9_tell_123 (by decide) ?_
      refine lv_aload_n hx hb dX9_tell_124 rfl (lv_at hl 3 rfl) ?_
      refine gM_0_6 S V hw (Nat.le_of_ble_eq_true rfl) fl_X9_22 dX9_tell_125 ?_
      refine lv_iload_n hx hb dX9_tell_128 rfl (lv_at hl 2 rfl) ?_
      refine aM_5 S V hw (Nat.le_of_ble_eq_true rfl) h.1 (z := (σ 5 0 ((σ 2 0 ((x1 + 1).toNatClampNeg)).toNatClampNeg))) (su_nc rfl) dX9_tell_129 ?_
      have h := h.2
      refine lv_imul hx hb dX9_tell_130 ?_
      refine lv_iadd hx hb dX9_tell_131 ?_
      refine lv_iconst (v := 1) hx hb dX9_tell_132 (by decide) ?_
      refine lv_iadd hx hb dX9_tell_133 ?_
      refine lv_iload hx hb dX9_tell_134 (lv_at hl 0 rfl) ?_
      refine sM_6 S V hw (Nat.le_of_ble_eq_true rfl) h.1 dX9_tell_136 (fun H locs hw => ?_)
      have h := h.2
      refine lv_aload_n hx hb dX9_tell_137 rfl (lv_at hl 3 rfl) ?_
      refine gM_0_6 S V hw (Nat.le_of_ble_eq_true rfl) fl_X9_22 dX9_tell_138 ?_
      refine lv_iload_n hx hb dX9_tell_141 rfl (lv_at hl 2 rfl) ?_
      refine lv_dup2_11 hx hb dX9_tell_142 rfl rfl ?_
      refine aM_5 S V hw (Nat.le_of_ble_eq_true rfl) h.1 (z := (σ 5 0 ((σ 2 0 ((x1 + 1).toNatClampNeg)).toNatClampNeg))) ((su_nc rfl).trans (su_nc rfl)) dX9_tell_143 ?_
      have h := h.2
      refine lv_iconst (v := 1) hx hb dX9_tell_144 (by decide) ?_
      refine lv_iadd hx hb dX9_tell_145 ?_
      refine sM_5 S V hw (Nat.le_of_ble_eq_true rfl) h.1 dX9_tell_146 (fun H locs hw => ?_)
      have h := h.2
      exact ret_v S hr hlocks hw h dX9_tell_147
    · have h := h.2 hc1
      by_cases hc2 : (σ 2 0 x1.toNatClampNeg) = 2
      · have h := h.1 hc2
        refine lv_tableIn (tgt := 148) hx hb dX9_tell_34 (by rw [hc2]; decide) (by rw [hc2]; decide) (by rw [hc2]; rfl) (by decide) ?_
        refine lv_aload_n hx hb dX9_tell_148 rfl (lv_at hl 3 rfl) ?_
        refine gM_0_6 S V hw (Nat.le_of_ble_eq_true rfl) fl_X9_22 dX9_tell_149 ?_
        refine lv_iload_n hx hb dX9_tell_152 rfl (lv_at hl 2 rfl) ?_
        refine lv_iconst (v := 0) hx hb dX9_tell_153 (by decide) ?_
        refine sM_5 S V hw (Nat.le_of_ble_eq_true rfl) h.1 dX9_tell_154 (fun H locs hw => ?_)
        have h := h.2
        exact ret_v S hr hlocks hw h dX9_tell_155
      · have h := h.2 hc2
        by_cases hc3 : (σ 2 0 x1.toNatClampNeg) = 3
        · have h := h.1 hc3
          refine lv_tableIn (tgt := 156) hx hb dX9_tell_34 (by rw [hc3]; decide) (by rw [hc3]; decide) (by rw [hc3]; rfl) (by decide) ?_
          refine lv_aload_n hx hb dX9_tell_156 rfl (lv_at hl 3 rfl) ?_
          refine lv_iload_n hx hb dX9_tell_157 rfl (lv_at hl 2 rfl) ?_
          refine pM_0_8 S V hw (Nat.le_of_ble_eq_true rfl) fl_X9_28 dX9_tell_158 (fun H locs hw => ?_)
          refine lv_aload_n hx hb dX9_tell_161 rfl (lv_at hl 3 rfl) ?_
          refine lv_iload_n hx hb dX9_tell_162 rfl (lv_at hl 1 rfl) ?_
          refine pM_0_9 S V hw (Nat.le_of_ble_eq_true rfl) fl_X9_32 dX9_tell_163 (fun H locs hw => ?_)
          refine lv_aload_n hx hb dX9_tell_166 rfl (lv_at hl 3 rfl) ?_
          refine lv_iload hx hb dX9_tell_167 (lv_at hl 0 rfl) ?_
          refine pM_0_10 S V hw (Nat.le_of_ble_eq_true rfl) fl_X9_35 dX9_tell_169 (fun H locs hw => ?_)
          refine lv_aload_n hx hb dX9_tell_172 rfl (lv_at hl 3 rfl) ?_
          refine lv_aload_n hx hb dX9_tell_173 rfl (lv_at hl 3 rfl) ?_
          refine gM_0_2 S V hw (Nat.le_of_ble_eq_true rfl) fl_X9_13 dX9_tell_174 ?_
          refine lv_iload_n hx hb dX9_tell_177 rfl (lv_at hl 4 rfl) ?_
          refine lv_iconst (v := 4) hx hb dX9_tell_178 (by decide) ?_
          refine lv_iadd hx hb dX9_tell_179 ?_
          refine aM_2 S V hw (Nat.le_of_ble_eq_true rfl) h.1 (z := (σ 2 0 ((x1 + 4).toNatClampNeg))) ((su_nc rfl).trans ((su_nc rfl).trans (su_nc rfl))) dX9_tell_180 ?_
          have h := h.2
          refine pM_0_11 S V hw (Nat.le_of_ble_eq_true rfl) fl_X9_38 dX9_tell_181 (fun H locs hw => ?_)
          refine lv_aload_n hx hb dX9_tell_184 rfl (lv_at hl 3 rfl) ?_
          refine lv_aload_n hx hb dX9_tell_185 rfl (lv_at hl 3 rfl) ?_
          refine gM_0_2 S V hw (Nat.le_of_ble_eq_true rfl) fl_X9_13 dX9_tell_186 ?_
          refine lv_iload_n hx hb dX9_tell_189 rfl (lv_at hl 4 rfl) ?_
          refine lv_iconst (v := 5) hx hb dX9_tell_190 (by decide) ?_
          refine lv_iadd hx hb dX9_tell_191 ?_
          refine aM_2 S V hw (Nat.le_of_ble_eq_true rfl) h.1 (z := (σ 2 0 ((x1 + 5).toNatClampNeg))) ((su_nc rfl).trans ((su_nc rfl).trans ((su_nc rfl).trans (su_nc rfl)))) dX9_tell_192 ?_
          have h := h.2
          refine pM_0_12 S V hw (Nat.le_of_ble_eq_true rfl) fl_X9_174 dX9_tell_193 (fun H locs hw => ?_)
          exact ret_v S hr hlocks hw h dX9_tell_196
        · have h := h.2 hc3
          by_cases hc4 : (σ 2 0 x1.toNatClampNeg) = 4
          · have h := h.1 hc4
            refine lv_tableIn (tgt := 197) hx hb dX9_tell_34 (by rw [hc4]; decide) (by rw [hc4]; decide) (by rw [hc4]; rfl) (by decide) ?_
            refine lv_aload_n hx hb dX9_tell_197 rfl (lv_at hl 3 rfl) ?_
            refine lv_iload_n hx hb dX9_tell_198 rfl (lv_at hl 2 rfl) ?_
            refine pM_0_13 S V hw (Nat.le_of_ble_eq_true rfl) fl_X9_41 dX9_tell_199 (fun H locs hw => ?_)
            exact ret_v S hr hlocks hw h dX9_tell_202
          · have h := h.2 hc4
            by_cases hc5 : (σ 2 0 x1.toNatClampNeg) = 5
            · have h := h.1 hc5
              refine lv_tableIn (tgt := 203) hx hb dX9_tell_34 (by rw [hc5]; decide) (by rw [hc5]; decide) (by rw [hc5]; rfl) (by decide) ?_
              refine lv_aload_n hx hb dX9_tell_203 rfl (lv_at hl 3 rfl) ?_
              refine lv_iload_n hx hb dX9_tell_204 rfl (lv_at hl 2 rfl) ?_
              refine pM_0_14 S V hw (Nat.le_of_ble_eq_true rfl) fl_X9_44 dX9_tell_205 (fun H locs hw => ?_)
              exact ret_v S hr hlocks hw h dX9_tell_208
            · have h := h.2 hc5
              by_cases hc6 : (σ 2 0 x1.toNatClampNeg) = 6
              · have h := h.1 hc6
                refine lv_tableIn (tgt := 209) hx hb dX9_tell_34 (by rw [hc6]; decide) (by rw [hc6]; decide) (by rw [hc6]; rfl) (by decide) ?_
                refine lv_aload_n hx hb dX9_tell_209 rfl (lv_at hl 3 rfl) ?_
                refine lv_iload_n hx hb dX9_tell_210 rfl (lv_at hl 2 rfl) ?_
                refine pM_0_15 S V hw (Nat.le_of_ble_eq_true rfl) fl_X9_47 dX9_tell_211 (fun H locs hw => ?_)
                exact ret_v S hr hlocks hw h dX9_tell_214
              · have h := h.2 hc6
                by_cases hc7 : (σ 2 0 x1.toNatClampNeg) = 7
                · have h := h.1 hc7
                  refine lv_tableIn (tgt := 215) hx hb dX9_tell_34 (by rw [hc7]; decide) (by rw [hc7]; decide) (by rw [hc7]; rfl) (by decide) ?_
                  refine lv_aload_n hx hb dX9_tell_215 rfl (lv_at hl 3 rfl) ?_
                  refine lv_iload_n hx hb dX9_tell_216 rfl (lv_at hl 2 rfl) ?_
                  refine pM_0_16 S V hw (Nat.le_of_ble_eq_true rfl) fl_X9_177 dX9_tell_217 (fun H locs hw => ?_)
                  exact ret_v S hr hlocks hw h dX9_tell_220
                · have h := h.2 hc7
                  refine lv_tableOut (tgt := 221) hx hb dX9_tell_34 (by have e0 := lv_neT (k := 0) (a := 0) hc0 rfl; have e1 := lv_neT (k := 1) (a := 1) hc1 rfl; have e2 := lv_neT (k := 2) (a := 2) hc2 rfl; have e3 := lv_neT (k := 3) (a := 3) hc3 rfl; have e4 := lv_neT (k := 4) (a := 4) hc4 rfl; have e5 := lv_neT (k := 5) (a := 5) hc5 rfl; have e6 := lv_neT (k := 6) (a := 6) hc6 rfl; have e7 := lv_neT (k := 7) (a := 7) hc7 rfl; omega) (by decide) ?_
                  refine lv_aload_n hx hb dX9_tell_221 rfl (lv_at hl 3 rfl) ?_
                  refine lv_iload_n hx hb dX9_tell_222 rfl (lv_at hl 2 rfl) ?_
                  refine pM_0_17 S V hw (Nat.le_of_ble_eq_true rfl) fl_X9_180 dX9_tell_223 (fun H locs hw => ?_)
                  exact ret_v S hr hlocks hw h dX9_tell_226
theorem mt_X9_tell (l : Launch) (D : va_G) (q : ClassId × ClassId × ClassId × ClassId) (ad : Nat → Nat → Nat) (x1 : Int32) (σ : St) (post : St → Prop) (h : wp_X9_tell x1 post σ) : cV l D clA LM ad (EM q ad) (EvM D q ad) yX9_tell cX9_tell 5 none { frames := 0, cells := 0, slots := 0, locals := 0 } [.ref (ad 0 0), .int x1] σ post :=
  ent_v (by decide) (Nat.le_of_ble_eq_true rfl) (fun p e s m below meth c S V hr hlocks hw ls hl => wk_X9_tell_0 S V hr hlocks x1  post   σ _ _ ls h  hw (lv_sub hl [0, 1] rfl))
def wp_X9_chin_13 (post : Int32 → St → Prop) : Nat → Int32 → St → Prop
  | 0 => fun _ _ => False
  | n + 1 => fun x1 σ => (((σ 0 0 3) ≤ x1 → post (σ 0 0 3) (su σ 0 0 1 0)) ∧ (¬ (σ 0 0 3) ≤ x1 → wp_X9_tell (6 * x1) (fun σ1 => wp_X9_chin_13 post n (x1 + 1) σ1) σ))
set_option maxHeartbeats 4000000 in
set_option maxRecDepth 100000 in
theorem wk_X9_chin_13 {p : Program} {l : Launch} {e : Env} {s : State} {m : MethodId} {below : List Frame} {meth : Method} {c : Code} {D : va_G} {q : ClassId × ClassId × ClassId × ClassId} {ad : Nat → Nat → Nat} {args : Array Value} (S : CallFix p m c cX9_chin 2 s args GW "OnChinModel") (V : EvM D q ad s) (hr : meth.sig.returnType = (some .int)) (hlocks : meth.locks = false) (post : Int32 → St → Prop)  : ∀ (n : Nat) (x1 : Int32) (σ : St) (H : Heap) (locs : List Loc) (ls : Array Slot), wp_X9_chin_13 post n x1 σ → wo D clA LM ad s.heap H locs (EM q ad σ) → lv_has ls 2 [(0, .ref (ad 0 0)), (1, .int x1)] → W p l e { frames := 7, cells := 0, slots := 0, locals := 150 } s m args below meth c H locs 0 0 (MQ below (zQi D clA LM ad (EM q ad) post) args s 0 0 (zA LM ad)) (F0 m 13 ls []) := by
  have hx := S.1
  have hb := S.2.1
  intro n
  induction n with
  | zero => intro x1 σ H locs ls h; exact False.elim h
  | succ n ih =>
    intro x1 σ H locs ls h  hw hl
    refine lv_iload_n hx hb dX9_chin_13 rfl (lv_at hl 1 rfl) ?_
    refine lv_aload_n hx hb dX9_chin_14 rfl (lv_at hl 0 rfl) ?_
    refine gM_0_3 S V hw (Nat.le_of_ble_eq_true rfl) fl_X9_138 rfl dX9_chin_15 ?_
    refine lv_icmp_ge (tgt := 35) hx hb dX9_chin_18 (by decide) (fun hc => ?_) (fun hc => ?_)
    · have h := h.1 hc
      refine lv_aload_n hx hb dX9_chin_35 rfl (lv_at hl 0 rfl) ?_
      refine lv_iconst (v := 0) hx hb dX9_chin_36 (by decide) ?_
      refine pM_0_1 S V hw (Nat.le_of_ble_eq_true rfl) fl_X9_96 dX9_chin_37 (fun H locs hw => ?_)
      refine lv_aload_n hx hb dX9_chin_40 rfl (lv_at hl 0 rfl) ?_
      refine gM_0_3 S V hw (Nat.le_of_ble_eq_true rfl) fl_X9_138 (su_nk rfl) dX9_chin_41 ?_
      exact ret_i S hr hlocks hw h dX9_chin_44
    · have h := h.2 hc
      refine lv_aload_n hx hb dX9_chin_21 rfl (lv_at hl 0 rfl) ?_
      refine lv_bipush (v := 6) hx hb dX9_chin_22 (by decide) ?_
      refine lv_iload_n hx hb dX9_chin_24 rfl (lv_at hl 1 rfl) ?_
      refine lv_imul hx hb dX9_chin_25 ?_
      refine call_Vv (As := [.int (6 * x1)]) (rest := []) EvM_ok S V hw (mt_X9_tell l D q ad (6 * x1)  σ _ h) ok_X9_tell ml_X9_186 (rM_0 S V hw (Nat.le_of_ble_eq_true rfl)) ⟨(Nat.le_of_ble_eq_true rfl), (Nat.le_of_ble_eq_true rfl)⟩ ⟨rfl, rfl⟩ rfl hl.1 rfl (Nat.le_of_ble_eq_true rfl) dX9_chin_26 (fun σ1 H locs h hw => ?_)
      refine lv_iinc (v := (x1 + 1)) (lv' := [(1, .int (x1 + 1)), (0, .ref (ad 0 0))]) hx hb dX9_chin_29 hl (k := 1) rfl rfl (by decide) rfl (fun ls hl => ?_)
      refine lv_goto (tgt := 13) hx hb dX9_chin_32 (by decide) ?_
      exact ih (x1 + 1) _ _ _ _ h  hw (lv_sub hl [1, 0] rfl)
def wp_X9_chin (post : Int32 → St → Prop)  (σ : St) : Prop := wp_X9_fault (fun r1 σ1 => ((r1 = (-1) → ∃ nn, wp_X9_chin_13 post nn 0 σ1) ∧ (¬ r1 = (-1) → post (-4) σ1))) σ
set_option maxHeartbeats 4000000 in
set_option maxRecDepth 100000 in
theorem wk_X9_chin_0 {p : Program} {l : Launch} {e : Env} {s : State} {m : MethodId} {below : List Frame} {meth : Method} {c : Code} {D : va_G} {q : ClassId × ClassId × ClassId × ClassId} {ad : Nat → Nat → Nat} {args : Array Value} (S : CallFix p m c cX9_chin 2 s args GW "OnChinModel") (V : EvM D q ad s) (hr : meth.sig.returnType = (some .int)) (hlocks : meth.locks = false) (post : Int32 → St → Prop)  : ∀ (σ : St) (H : Heap) (locs : List Loc) (ls : Array Slot), wp_X9_chin post  σ → wo D clA LM ad s.heap H locs (EM q ad σ) → lv_has ls 2 [(0, .ref (ad 0 0))] → W p l e { frames := 7, cells := 0, slots := 0, locals := 150 } s m args below meth c H locs 0 0 (MQ below (zQi D clA LM ad (EM q ad) post) args s 0 0 (zA LM ad)) (F0 m 0 ls []) := by
  have hx := S.1
  have hb := S.2.1
  intro  σ H locs ls h  hw hl
  have h : wp_X9_fault (fun r1 σ1 => ((r1 = (-1) → ∃ nn, wp_X9_chin_13 post nn 0 σ1) ∧ (¬ r1 = (-1) → post (-4) σ1))) σ := h
  refine lv_aload_n hx hb dX9_chin_0 rfl (lv_at hl 0 rfl) ?_
  refine call_Vi (As := []) (rest := []) EvM_ok S V hw (mt_X9_fault l D q ad   σ _ h) ok_X9_fault ml_X9_183 (rM_0 S V hw (Nat.le_of_ble_eq_true rfl)) ⟨(Nat.le_of_ble_eq_true rfl), (Nat.le_of_ble_eq_true rfl)⟩ ⟨rfl, rfl⟩ rfl hl.1 rfl (Nat.le_of_ble_eq_true rfl) dX9_chin_1 (fun r1 σ1 H locs h hw => ?_)
  refine lv_iconst (v := (-1)) hx hb dX9_chin_4 (by decide) ?_
  refine lv_icmp_eq (tgt := 11) hx hb dX9_chin_5 (by decide) (fun hc => ?_) (fun hc => ?_)
  · have h := h.1 hc
    refine lv_iconst (v := 0) hx hb dX9_chin_11 (by decide) ?_
    refine lv_istore_n (lv' := [(1, .int 0), (0, .ref (ad 0 0))]) hx hb dX9_chin_12 rfl hl (by decide) rfl (fun ls hl => ?_)
    obtain ⟨n9, h⟩ := h
    exact wk_X9_chin_13 S V hr hlocks    post  n9 0 _ _ _ _ h  hw (lv_sub hl [1, 0] rfl)
  · have h := h.2 hc
    refine lv_bipush (v := (-4)) hx hb dX9_chin_8 (by decide) ?_
    exact ret_i S hr hlocks hw h dX9_chin_10
theorem mt_X9_chin (l : Launch) (D : va_G) (q : ClassId × ClassId × ClassId × ClassId) (ad : Nat → Nat → Nat)  (σ : St) (post : Int32 → St → Prop) (h : wp_X9_chin post σ) : cI l D clA LM ad (EM q ad) (EvM D q ad) yX9_chin cX9_chin 2 (some .int) { frames := 7, cells := 0, slots := 0, locals := 150 } [.ref (ad 0 0)] σ post :=
  ent_i (by decide) (Nat.le_of_ble_eq_true rfl) (fun p e s m below meth c S V hr hlocks hw ls hl => wk_X9_chin_0 S V hr hlocks   post   σ _ _ ls h  hw (lv_sub hl [0] rfl))
def wp_X9_isThing (x0 : Int32) (post : Int32 → St → Prop)  (σ : St) : Prop := wp_X9_in (Int32.toInt64 x0) 0 3 (fun r1 σ1 => (narrow .boolean (.int r1) = .int r1 ∧ post r1 σ1)) σ
set_option maxHeartbeats 4000000 in
set_option maxRecDepth 100000 in
theorem wk_X9_isThing_0 {p : Program} {l : Launch} {e : Env} {s : State} {m : MethodId} {below : List Frame} {meth : Method} {c : Code} {D : va_G} {q : ClassId × ClassId × ClassId × ClassId} {ad : Nat → Nat → Nat} {args : Array Value} (S : CallFix p m c cX9_isThing 1 s args GW "OnChinModel") (V : EvM D q ad s) (hr : meth.sig.returnType = (some .boolean)) (hlocks : meth.locks = false) (x0 : Int32) (post : Int32 → St → Prop)  : ∀ (σ : St) (H : Heap) (locs : List Loc) (ls : Array Slot), wp_X9_isThing x0 post  σ → wo D clA LM ad s.heap H locs (EM q ad σ) → lv_has ls 1 [(0, .int x0)] → W p l e { frames := 1, cells := 0, slots := 0, locals := 25 } s m args below meth c H locs 0 0 (MQ below (zQi D clA LM ad (EM q ad) post) args s 0 0 (zA LM ad)) (F0 m 0 ls []) := by
  have hx := S.1
  have hb := S.2.1
  intro  σ H locs ls h  hw hl
  have h : wp_X9_in (Int32.toInt64 x0) 0 3 (fun r1 σ1 => (narrow .boolean (.int r1) = .int r1 ∧ post r1 σ1)) σ := h
  refine lv_iload_n hx hb dX9_isThing_0 rfl (lv_at hl 0 rfl) ?_
  refine lv_i2l (v := (Int32.toInt64 x0)) hx hb dX9_isThing_1 rfl ?_
  refine lv_lconst (v := 0) hx hb dX9_isThing_2 (by decide) ?_
  refine lv_ldc2 (v := 3) hx hb S.2.2.2.1 (gw_S S _ kc_X9_190) dX9_isThing_3 ?_
  refine call_Si (As := [.long (Int32.toInt64 x0), .long 0, .long 3]) (rest := []) EvM_ok S V hw (mt_X9_in l D q ad (Int32.toInt64 x0) 0 3  σ _ h) ok_X9_in ml_X9_92 ⟨(Nat.le_of_ble_eq_true rfl), (Nat.le_of_ble_eq_true rfl)⟩ ⟨rfl, rfl⟩ rfl hl.1 rfl (Nat.le_of_ble_eq_true rfl) dX9_isThing_6 (fun r1 σ1 H locs h hw => ?_)
  exact ret_z S hr hlocks hw h.1 h.2 dX9_isThing_9
theorem mt_X9_isThing (l : Launch) (D : va_G) (q : ClassId × ClassId × ClassId × ClassId) (ad : Nat → Nat → Nat) (x0 : Int32) (σ : St) (post : Int32 → St → Prop) (h : wp_X9_isThing x0 post σ) : cI l D clA LM ad (EM q ad) (EvM D q ad) yX9_isThing cX9_isThing 1 (some .boolean) { frames := 1, cells := 0, slots := 0, locals := 25 } [.int x0] σ post :=
  ent_i (by decide) (Nat.le_of_ble_eq_true rfl) (fun p e s m below meth c S V hr hlocks hw ls hl => wk_X9_isThing_0 S V hr hlocks x0  post   σ _ _ ls h  hw (lv_sub hl [0] rfl))
def wp_X9_longOf_88 (x1 : Int32) (post : Int32 → St → Prop) (xs0 : Int32) (σ : St) : Prop := post xs0 σ
set_option maxHeartbeats 4000000 in
set_option maxRecDepth 100000 in
theorem wk_X9_longOf_88 {p : Program} {l : Launch} {e : Env} {s : State} {m : MethodId} {below : List Frame} {meth : Method} {c : Code} {D : va_G} {q : ClassId × ClassId × ClassId × ClassId} {ad : Nat → Nat → Nat} {args : Array Value} (S : CallFix p m c cX9_longOf 7 s args GW "OnChinModel") (V : EvM D q ad s) (hr : meth.sig.returnType = (some .int)) (hlocks : meth.locks = false) (x1 : Int32) (post : Int32 → St → Prop)  : ∀ (xs0 : Int32) (σ : St) (H : Heap) (locs : List Loc) (ls : Array Slot), wp_X9_longOf_88 x1 post xs0 σ → wo D clA LM ad s.heap H locs (EM q ad σ) → lv_has ls 7 [(0, .ref (ad 0 0)), (1, .int x1)] → W p l e { frames := 0, cells := 0, slots := 0, locals := 0 } s m args below meth c H locs 0 0 (MQ below (zQi D clA LM ad (EM q ad) post) args s 0 0 (zA LM ad)) (F0 m 88 ls [.int xs0]) := by
  have hx := S.1
  have hb := S.2.1
  intro xs0 σ H locs ls h  hw hl
  exact ret_i S hr hlocks hw h dX9_longOf_88
def wp_X9_longOf_7 (x1 : Int32) (post : Int32 → St → Prop) : Nat → Int32 → Int32 → Int32 → St → Prop
  | 0 => fun _ _ _ _ => False
  | n + 1 => fun x2 x3 x4 σ => (vp_in x1 4 ∧ (((σ 5 0 x1.toNatClampNeg) ≤ x4 → ((¬ x3 = 0 → (¬ x3 = 0 ∧ wp_X9_longOf_88 x1 post (x2 / x3) σ)) ∧ (x3 = 0 → wp_X9_longOf_88 x1 post (-1) σ))) ∧ (¬ (σ 5 0 x1.toNatClampNeg) ≤ x4 → (vp_in ((8 * x1) + (2 * x4)) 32 ∧ (vp_in (((8 * x1) + (2 * x4)) + 1) 32 ∧ wp_X9_longOf_7 x1 post n (x2 + (((σ 6 0 (((8 * x1) + (2 * x4)).toNatClampNeg)) * (σ 6 0 (((8 * x1) + (2 * x4)).toNatClampNeg))) * (σ 6 0 ((((8 * x1) + (2 * x4)) + 1).toNatClampNeg)))) (x3 + ((σ 6 0 (((8 * x1) + (2 * x4)).toNatClampNeg)) * (σ 6 0 ((((8 * x1) + (2 * x4)) + 1).toNatClampNeg)))) (x4 + 1) σ)))))
set_option maxHeartbeats 4000000 in
set_option maxRecDepth 100000 in
theorem wk_X9_longOf_7 {p : Program} {l : Launch} {e : Env} {s : State} {m : MethodId} {below : List Frame} {meth : Method} {c : Code} {D : va_G} {q : ClassId × ClassId × ClassId × ClassId} {ad : Nat → Nat → Nat} {args : Array Value} (S : CallFix p m c cX9_longOf 7 s args GW "OnChinModel") (V : EvM D q ad s) (hr : meth.sig.returnType = (some .int)) (hlocks : meth.locks = false) (x1 : Int32) (post : Int32 → St → Prop)  : ∀ (n : Nat) (x2 : Int32) (x3 : Int32) (x4 : Int32) (σ : St) (H : Heap) (locs : List Loc) (ls : Array Slot), wp_X9_longOf_7 x1 post n x2 x3 x4 σ → wo D clA LM ad s.heap H locs (EM q ad σ) → lv_has ls 7 [(0, .ref (ad 0 0)), (1, .int x1), (2, .int x2), (3, .int x3), (4, .int x4)] → W p l e { frames := 0, cells := 0, slots := 0, locals := 0 } s m args below meth c H locs 0 0 (MQ below (zQi D clA LM ad (EM q ad) post) args s 0 0 (zA LM ad)) (F0 m 7 ls []) := by
  have hx := S.1
  have hb := S.2.1
  intro n
  induction n with
  | zero => intro x2 x3 x4 σ H locs ls h; exact False.elim h
  | succ n ih =>
    intro x2 x3 x4 σ H locs ls h  hw hl
    refine lv_iload hx hb dX9_longOf_7 (lv_at hl 4 rfl) ?_
    refine lv_aload_n hx hb dX9_longOf_9 rfl (lv_at hl 0 rfl) ?_
    refine gM_0_6 S V hw (Nat.le_of_ble_eq_true rfl) fl_X9_22 dX9_longOf_10 ?_
    refine lv_iload_n hx hb dX9_longOf_13 rfl (lv_at hl 1 rfl) ?_
    refine aM_5 S V hw (Nat.le_of_ble_eq_true rfl) h.1 (z := (σ 5 0 x1.toNatClampNeg)) rfl dX9_longOf_14 ?_
    have h := h.2
    refine lv_icmp_ge (tgt := 77) hx hb dX9_longOf_15 (by decide) (fun hc => ?_) (fun hc => ?_)
    · have h := h.1 hc
      refine lv_iload_n hx hb dX9_longOf_77 rfl (lv_at hl 3 rfl) ?_
      refine lv_if_ne (tgt := 85) hx hb dX9_longOf_78 (by decide) (fun hc => ?_) (fun hc => ?_)
      · have h := h.1 hc
        refine lv_iload_n hx hb dX9_longOf_85 rfl (lv_at hl 2 rfl) ?_
        refine lv_iload_n hx hb dX9_longOf_86 rfl (lv_at hl 3 rfl) ?_
        refine lv_idiv hx hb dX9_longOf_87 h.1 ?_
        have h := h.2
        exact wk_X9_longOf_88 S V hr hlocks x1   post  (x2 / x3) _ _ _ _ h  hw (lv_sub hl [0, 1] rfl)
      · have h := h.2 hc
        refine lv_iconst (v := (-1)) hx hb dX9_longOf_81 (by decide) ?_
        refine lv_goto (tgt := 88) hx hb dX9_longOf_82 (by decide) ?_
        exact wk_X9_longOf_88 S V hr hlocks x1   post  (-1) _ _ _ _ h  hw (lv_sub hl [0, 1] rfl)
    · have h := h.2 hc
      refine lv_aload_n hx hb dX9_longOf_18 rfl (lv_at hl 0 rfl) ?_
      refine gM_0_7 S V hw (Nat.le_of_ble_eq_true rfl) fl_X9_25 dX9_longOf_19 ?_
      refine lv_bipush (v := 8) hx hb dX9_longOf_22 (by decide) ?_
      refine lv_iload_n hx hb dX9_longOf_24 rfl (lv_at hl 1 rfl) ?_
      refine lv_imul hx hb dX9_longOf_25 ?_
      refine lv_iconst (v := 2) hx hb dX9_longOf_26 (by decide) ?_
      refine lv_iload hx hb dX9_longOf_27 (lv_at hl 4 rfl) ?_
      refine lv_imul hx hb dX9_longOf_29 ?_
      refine lv_iadd hx hb dX9_longOf_30 ?_
      refine aM_6 S V hw (Nat.le_of_ble_eq_true rfl) h.1 (z := (σ 6 0 (((8 * x1) + (2 * x4)).toNatClampNeg))) rfl dX9_longOf_31 ?_
      have h := h.2
      refine lv_istore (lv' := [(5, .int (σ 6 0 (((8 * x1) + (2 * x4)).toNatClampNeg))), (0, .ref (ad 0 0)), (1, .int x1), (2, .int x2), (3, .int x3), (4, .int x4)]) hx hb dX9_longOf_32 hl (by decide) rfl (fun ls hl => ?_)
      refine lv_aload_n hx hb dX9_longOf_34 rfl (lv_at hl 1 rfl) ?_
      refine gM_0_7 S V hw (Nat.le_of_ble_eq_true rfl) fl_X9_25 dX9_longOf_35 ?_
      refine lv_bipush (v := 8) hx hb dX9_longOf_38 (by decide) ?_
      refine lv_iload_n hx hb dX9_longOf_40 rfl (lv_at hl 2 rfl) ?_
      refine lv_imul hx hb dX9_longOf_41 ?_
      refine lv_iconst (v := 2) hx hb dX9_longOf_42 (by decide) ?_
      refine lv_iload hx hb dX9_longOf_43 (lv_at hl 5 rfl) ?_
      refine lv_imul hx hb dX9_longOf_45 ?_
      refine lv_iadd hx hb dX9_longOf_46 ?_
      refine lv_iconst (v := 1) hx hb dX9_longOf_47 (by decide) ?_
      refine lv_iadd hx hb dX9_longOf_48 ?_
      refine aM_6 S V hw (Nat.le_of_ble_eq_true rfl) h.1 (z := (σ 6 0 ((((8 * x1) + (2 * x4)) + 1).toNatClampNeg))) rfl dX9_longOf_49 ?_
      have h := h.2
      refine lv_istore (lv' := [(6, .int (σ 6 0 ((((8 * x1) + (2 * x4)) + 1).toNatClampNeg))), (5, .int (σ 6 0 (((8 * x1) + (2 * x4)).toNatClampNeg))), (0, .ref (ad 0 0)), (1, .int x1), (2, .int x2), (3, .int x3), (4, .int x4)]) hx hb dX9_longOf_50 hl (by decide) rfl (fun ls hl => ?_)
      refine lv_iload_n hx hb dX9_longOf_52 rfl (lv_at hl 4 rfl) ?_
      refine lv_iload hx hb dX9_longOf_53 (lv_at hl 1 rfl) ?_
      refine lv_iload hx hb dX9_longOf_55 (lv_at hl 1 rfl) ?_
      refine lv_imul hx hb dX9_longOf_57 ?_
      refine lv_iload hx hb dX9_longOf_58 (lv_at hl 0 rfl) ?_
      refine lv_imul hx hb dX9_longOf_60 ?_
      refine lv_iadd hx hb dX9_longOf_61 ?_
      refine lv_istore_n (lv' := [(2, .int (x2 + (((σ 6 0 (((8 * x1) + (2 * x4)).toNatClampNeg)) * (σ 6 0 (((8 * x1) + (2 * x4)).toNatClampNeg))) * (σ 6 0 ((((8 * x1) + (2 * x4)) + 1).toNatClampNeg))))), (6, .int (σ 6 0 ((((8 * x1) + (2 * x4)) + 1).toNatClampNeg))), (5, .int (σ 6 0 (((8 * x1) + (2 * x4)).toNatClampNeg))), (0, .ref (ad 0 0)), (1, .int x1), (3, .int x3), (4, .int x4)]) hx hb dX9_longOf_62 rfl hl (by decide) rfl (fun ls hl => ?_)
      refine lv_iload_n hx hb dX9_longOf_63 rfl (lv_at hl 5 rfl) ?_
      refine lv_iload hx hb dX9_longOf_64 (lv_at hl 2 rfl) ?_
      refine lv_iload hx hb dX9_longOf_66 (lv_at hl 1 rfl) ?_
      refine lv_imul hx hb dX9_longOf_68 ?_
      refine lv_iadd hx hb dX9_longOf_69 ?_
      refine lv_istore_n (lv' := [(3, .int (x3 + ((σ 6 0 (((8 * x1) + (2 * x4)).toNatClampNeg)) * (σ 6 0 ((((8 * x1) + (2 * x4)) + 1).toNatClampNeg))))), (2, .int (x2 + (((σ 6 0 (((8 * x1) + (2 * x4)).toNatClampNeg)) * (σ 6 0 (((8 * x1) + (2 * x4)).toNatClampNeg))) * (σ 6 0 ((((8 * x1) + (2 * x4)) + 1).toNatClampNeg))))), (6, .int (σ 6 0 ((((8 * x1) + (2 * x4)) + 1).toNatClampNeg))), (5, .int (σ 6 0 (((8 * x1) + (2 * x4)).toNatClampNeg))), (0, .ref (ad 0 0)), (1, .int x1), (4, .int x4)]) hx hb dX9_longOf_70 rfl hl (by decide) rfl (fun ls hl => ?_)
      refine lv_iinc (v := (x4 + 1)) (lv' := [(4, .int (x4 + 1)), (3, .int (x3 + ((σ 6 0 (((8 * x1) + (2 * x4)).toNatClampNeg)) * (σ 6 0 ((((8 * x1) + (2 * x4)) + 1).toNatClampNeg))))), (2, .int (x2 + (((σ 6 0 (((8 * x1) + (2 * x4)).toNatClampNeg)) * (σ 6 0 (((8 * x1) + (2 * x4)).toNatClampNeg))) * (σ 6 0 ((((8 * x1) + (2 * x4)) + 1).toNatClampNeg))))), (6, .int (σ 6 0 ((((8 * x1) + (2 * x4)) + 1).toNatClampNeg))), (5, .int (σ 6 0 (((8 * x1) + (2 * x4)).toNatClampNeg))), (0, .ref (ad 0 0)), (1, .int x1)]) hx hb dX9_longOf_71 hl (k := 6) rfl rfl (by decide) rfl (fun ls hl => ?_)
      refine lv_goto (tgt := 7) hx hb dX9_longOf_74 (by decide) ?_
      exact ih (x2 + (((σ 6 0 (((8 * x1) + (2 * x4)).toNatClampNeg)) * (σ 6 0 (((8 * x1) + (2 * x4)).toNatClampNeg))) * (σ 6 0 ((((8 * x1) + (2 * x4)) + 1).toNatClampNeg)))) (x3 + ((σ 6 0 (((8 * x1) + (2 * x4)).toNatClampNeg)) * (σ 6 0 ((((8 * x1) + (2 * x4)) + 1).toNatClampNeg)))) (x4 + 1) _ _ _ _ h  hw (lv_sub hl [5, 6, 2, 1, 0] rfl)
def wp_X9_longOf (x1 : Int32) (post : Int32 → St → Prop)  (σ : St) : Prop := ∃ nn, wp_X9_longOf_7 x1 post nn 0 0 0 σ
set_option maxHeartbeats 4000000 in
set_option maxRecDepth 100000 in
theorem wk_X9_longOf_0 {p : Program} {l : Launch} {e : Env} {s : State} {m : MethodId} {below : List Frame} {meth : Method} {c : Code} {D : va_G} {q : ClassId × ClassId × ClassId × ClassId} {ad : Nat → Nat → Nat} {args : Array Value} (S : CallFix p m c cX9_longOf 7 s args GW "OnChinModel") (V : EvM D q ad s) (hr : meth.sig.returnType = (some .int)) (hlocks : meth.locks = false) (x1 : Int32) (post : Int32 → St → Prop)  : ∀ (σ : St) (H : Heap) (locs : List Loc) (ls : Array Slot), wp_X9_longOf x1 post  σ → wo D clA LM ad s.heap H locs (EM q ad σ) → lv_has ls 7 [(0, .ref (ad 0 0)), (1, .int x1)] → W p l e { frames := 0, cells := 0, slots := 0, locals := 0 } s m args below meth c H locs 0 0 (MQ below (zQi D clA LM ad (EM q ad) post) args s 0 0 (zA LM ad)) (F0 m 0 ls []) := by
  have hx := S.1
  have hb := S.2.1
  intro  σ H locs ls h  hw hl
  refine lv_iconst (v := 0) hx hb dX9_longOf_0 (by decide) ?_
  refine lv_istore_n (lv' := [(2, .int 0), (0, .ref (ad 0 0)), (1, .int x1)]) hx hb dX9_longOf_1 rfl hl (by decide) rfl (fun ls hl => ?_)
  refine lv_iconst (v := 0) hx hb dX9_longOf_2 (by decide) ?_
  refine lv_istore_n (lv' := [(3, .int 0), (2, .int 0), (0, .ref (ad 0 0)), (1, .int x1)]) hx hb dX9_longOf_3 rfl hl (by decide) rfl (fun ls hl => ?_)
  refine lv_iconst (v := 0) hx hb dX9_longOf_4 (by decide) ?_
  refine lv_istore (lv' := [(4, .int 0), (3, .int 0), (2, .int 0), (0, .ref (ad 0 0)), (1, .int x1)]) hx hb dX9_longOf_5 hl (by decide) rfl (fun ls hl => ?_)
  obtain ⟨n9, h⟩ := h
  exact wk_X9_longOf_7 S V hr hlocks x1   post  n9 0 0 0 _ _ _ _ h  hw (lv_sub hl [3, 4, 2, 1, 0] rfl)
theorem mt_X9_longOf (l : Launch) (D : va_G) (q : ClassId × ClassId × ClassId × ClassId) (ad : Nat → Nat → Nat) (x1 : Int32) (σ : St) (post : Int32 → St → Prop) (h : wp_X9_longOf x1 post σ) : cI l D clA LM ad (EM q ad) (EvM D q ad) yX9_longOf cX9_longOf 7 (some .int) { frames := 0, cells := 0, slots := 0, locals := 0 } [.ref (ad 0 0), .int x1] σ post :=
  ent_i (by decide) (Nat.le_of_ble_eq_true rfl) (fun p e s m below meth c S V hr hlocks hw ls hl => wk_X9_longOf_0 S V hr hlocks x1  post   σ _ _ ls h  hw (lv_sub hl [0, 1] rfl))
def wp_X9_greatest_48 (x1 : Int32) (K4 : Int32 → Int32 → St → Prop) (post : Int32 → St → Prop) (x3 : Int32) (xs0 : Int32) (σ : St) : Prop := K4 xs0 (x3 + 1) σ
set_option maxHeartbeats 4000000 in
set_option maxRecDepth 100000 in
theorem wk_X9_greatest_48 {p : Program} {l : Launch} {e : Env} {s : State} {m : MethodId} {below : List Frame} {meth : Method} {c : Code} {D : va_G} {q : ClassId × ClassId × ClassId × ClassId} {ad : Nat → Nat → Nat} {args : Array Value} (S : CallFix p m c cX9_greatest 4 s args GW "OnChinModel") (V : EvM D q ad s) (hr : meth.sig.returnType = (some .int)) (hlocks : meth.locks = false) (x1 : Int32) (K4 : Int32 → Int32 → St → Prop) (post : Int32 → St → Prop) (hK4 : ∀ (x2 : Int32) (x3 : Int32) (σ : St) (H : Heap) (locs : List Loc) (ls : Array Slot), K4 x2 x3 σ → wo D clA LM ad s.heap H locs (EM q ad σ) → lv_has ls 4 [(0, .ref (ad 0 0)), (1, .int x1), (2, .int x2), (3, .int x3)] → W p l e { frames := 0, cells := 0, slots := 0, locals := 0 } s m args below meth c H locs 0 0 (MQ below (zQi D clA LM ad (EM q ad) post) args s 0 0 (zA LM ad)) (F0 m 4 ls [])) : ∀ (x3 : Int32) (xs0 : Int32) (σ : St) (H : Heap) (locs : List Loc) (ls : Array Slot), wp_X9_greatest_48 x1 K4 post x3 xs0 σ → wo D clA LM ad s.heap H locs (EM q ad σ) → lv_has ls 4 [(0, .ref (ad 0 0)), (1, .int x1), (3, .int x3)] → W p l e { frames := 0, cells := 0, slots := 0, locals := 0 } s m args below meth c H locs 0 0 (MQ below (zQi D clA LM ad (EM q ad) post) args s 0 0 (zA LM ad)) (F0 m 48 ls [.int xs0]) := by
  have hx := S.1
  have hb := S.2.1
  intro x3 xs0 σ H locs ls h  hw hl
  refine lv_istore_n (lv' := [(2, .int xs0), (0, .ref (ad 0 0)), (1, .int x1), (3, .int x3)]) hx hb dX9_greatest_48 rfl hl (by decide) rfl (fun ls hl => ?_)
  refine lv_iinc (v := (x3 + 1)) (lv' := [(3, .int (x3 + 1)), (2, .int xs0), (0, .ref (ad 0 0)), (1, .int x1)]) hx hb dX9_greatest_49 hl (k := 3) rfl rfl (by decide) rfl (fun ls hl => ?_)
  refine lv_goto (tgt := 4) hx hb dX9_greatest_52 (by decide) ?_
  exact hK4 xs0 (x3 + 1) _ _ _ _ h  hw (lv_sub hl [2, 3, 1, 0] rfl)
def wp_X9_greatest_4 (x1 : Int32) (post : Int32 → St → Prop) : Nat → Int32 → Int32 → St → Prop
  | 0 => fun _ _ _ => False
  | n + 1 => fun x2 x3 σ => (vp_in x1 4 ∧ (((σ 5 0 x1.toNatClampNeg) ≤ x3 → post x2 σ) ∧ (¬ (σ 5 0 x1.toNatClampNeg) ≤ x3 → (vp_in ((8 * x1) + (2 * x3)) 32 ∧ (((σ 6 0 (((8 * x1) + (2 * x3)).toNatClampNeg)) ≤ x2 → wp_X9_greatest_48 x1 (fun y0 y1 τ => wp_X9_greatest_4 x1 post n y0 y1 τ) post x3 x2 σ) ∧ (¬ (σ 6 0 (((8 * x1) + (2 * x3)).toNatClampNeg)) ≤ x2 → (vp_in ((8 * x1) + (2 * x3)) 32 ∧ wp_X9_greatest_48 x1 (fun y0 y1 τ => wp_X9_greatest_4 x1 post n y0 y1 τ) post x3 (σ 6 0 (((8 * x1) + (2 * x3)).toNatClampNeg)) σ)))))))
set_option maxHeartbeats 4000000 in
set_option maxRecDepth 100000 in
theorem wk_X9_greatest_4 {p : Program} {l : Launch} {e : Env} {s : State} {m : MethodId} {below : List Frame} {meth : Method} {c : Code} {D : va_G} {q : ClassId × ClassId × ClassId × ClassId} {ad : Nat → Nat → Nat} {args : Array Value} (S : CallFix p m c cX9_greatest 4 s args GW "OnChinModel") (V : EvM D q ad s) (hr : meth.sig.returnType = (some .int)) (hlocks : meth.locks = false) (x1 : Int32) (post : Int32 → St → Prop)  : ∀ (n : Nat) (x2 : Int32) (x3 : Int32) (σ : St) (H : Heap) (locs : List Loc) (ls : Array Slot), wp_X9_greatest_4 x1 post n x2 x3 σ → wo D clA LM ad s.heap H locs (EM q ad σ) → lv_has ls 4 [(0, .ref (ad 0 0)), (1, .int x1), (2, .int x2), (3, .int x3)] → W p l e { frames := 0, cells := 0, slots := 0, locals := 0 } s m args below meth c H locs 0 0 (MQ below (zQi D clA LM ad (EM q ad) post) args s 0 0 (zA LM ad)) (F0 m 4 ls []) := by
  have hx := S.1
  have hb := S.2.1
  intro n
  induction n with
  | zero => intro x2 x3 σ H locs ls h; exact False.elim h
  | succ n ih =>
    intro x2 x3 σ H locs ls h  hw hl
    refine lv_iload_n hx hb dX9_greatest_4 rfl (lv_at hl 3 rfl) ?_
    refine lv_aload_n hx hb dX9_greatest_5 rfl (lv_at hl 0 rfl) ?_
    refine gM_0_6 S V hw (Nat.le_of_ble_eq_true rfl) fl_X9_22 dX9_greatest_6 ?_
    refine lv_iload_n hx hb dX9_greatest_9 rfl (lv_at hl 1 rfl) ?_
    refine aM_5 S V hw (Nat.le_of_ble_eq_true rfl) h.1 (z := (σ 5 0 x1.toNatClampNeg)) rfl dX9_greatest_10 ?_
    have h := h.2
    refine lv_icmp_ge (tgt := 55) hx hb dX9_greatest_11 (by decide) (fun hc => ?_) (fun hc => ?_)
    · have h := h.1 hc
      refine lv_iload_n hx hb dX9_greatest_55 rfl (lv_at hl 2 rfl) ?_
      exact ret_i S hr hlocks hw h dX9_greatest_56
    · have h := h.2 hc
      refine lv_aload_n hx hb dX9_greatest_14 rfl (lv_at hl 0 rfl) ?_
      refine gM_0_7 S V hw (Nat.le_of_ble_eq_true rfl) fl_X9_25 dX9_greatest_15 ?_
      refine lv_bipush (v := 8) hx hb dX9_greatest_18 (by decide) ?_
      refine lv_iload_n hx hb dX9_greatest_20 rfl (lv_at hl 1 rfl) ?_
      refine lv_imul hx hb dX9_greatest_21 ?_
      refine lv_iconst (v := 2) hx hb dX9_greatest_22 (by decide) ?_
      refine lv_iload_n hx hb dX9_greatest_23 rfl (lv_at hl 3 rfl) ?_
      refine lv_imul hx hb dX9_greatest_24 ?_
      refine lv_iadd hx hb dX9_greatest_25 ?_
      refine aM_6 S V hw (Nat.le_of_ble_eq_true rfl) h.1 (z := (σ 6 0 (((8 * x1) + (2 * x3)).toNatClampNeg))) rfl dX9_greatest_26 ?_
      have h := h.2
      refine lv_iload_n hx hb dX9_greatest_27 rfl (lv_at hl 2 rfl) ?_
      refine lv_icmp_le (tgt := 47) hx hb dX9_greatest_28 (by decide) (fun hc => ?_) (fun hc => ?_)
      · have h := h.1 hc
        refine lv_iload_n hx hb dX9_greatest_47 rfl (lv_at hl 2 rfl) ?_
        exact wk_X9_greatest_48 S V hr hlocks x1  (fun y0 y1 τ => wp_X9_greatest_4 x1 post n y0 y1 τ) post ih x3 x2 _ _ _ _ h  hw (lv_sub hl [0, 1, 3] rfl)
      · have h := h.2 hc
        refine lv_aload_n hx hb dX9_greatest_31 rfl (lv_at hl 0 rfl) ?_
        refine gM_0_7 S V hw (Nat.le_of_ble_eq_true rfl) fl_X9_25 dX9_greatest_32 ?_
        refine lv_bipush (v := 8) hx hb dX9_greatest_35 (by decide) ?_
        refine lv_iload_n hx hb dX9_greatest_37 rfl (lv_at hl 1 rfl) ?_
        refine lv_imul hx hb dX9_greatest_38 ?_
        refine lv_iconst (v := 2) hx hb dX9_greatest_39 (by decide) ?_
        refine lv_iload_n hx hb dX9_greatest_40 rfl (lv_at hl 3 rfl) ?_
        refine lv_imul hx hb dX9_greatest_41 ?_
        refine lv_iadd hx hb dX9_greatest_42 ?_
        refine aM_6 S V hw (Nat.le_of_ble_eq_true rfl) h.1 (z := (σ 6 0 (((8 * x1) + (2 * x3)).toNatClampNeg))) rfl dX9_greatest_43 ?_
        have h := h.2
        refine lv_goto (tgt := 48) hx hb dX9_greatest_44 (by decide) ?_
        exact wk_X9_greatest_48 S V hr hlocks x1  (fun y0 y1 τ => wp_X9_greatest_4 x1 post n y0 y1 τ) post ih x3 (σ 6 0 (((8 * x1) + (2 * x3)).toNatClampNeg)) _ _ _ _ h  hw (lv_sub hl [0, 1, 3] rfl)
def wp_X9_greatest (x1 : Int32) (post : Int32 → St → Prop)  (σ : St) : Prop := ∃ nn, wp_X9_greatest_4 x1 post nn 0 0 σ
set_option maxHeartbeats 4000000 in
set_option maxRecDepth 100000 in
theorem wk_X9_greatest_0 {p : Program} {l : Launch} {e : Env} {s : State} {m : MethodId} {below : List Frame} {meth : Method} {c : Code} {D : va_G} {q : ClassId × ClassId × ClassId × ClassId} {ad : Nat → Nat → Nat} {args : Array Value} (S : CallFix p m c cX9_greatest 4 s args GW "OnChinModel") (V : EvM D q ad s) (hr : meth.sig.returnType = (some .int)) (hlocks : meth.locks = false) (x1 : Int32) (post : Int32 → St → Prop)  : ∀ (σ : St) (H : Heap) (locs : List Loc) (ls : Array Slot), wp_X9_greatest x1 post  σ → wo D clA LM ad s.heap H locs (EM q ad σ) → lv_has ls 4 [(0, .ref (ad 0 0)), (1, .int x1)] → W p l e { frames := 0, cells := 0, slots := 0, locals := 0 } s m args below meth c H locs 0 0 (MQ below (zQi D clA LM ad (EM q ad) post) args s 0 0 (zA LM ad)) (F0 m 0 ls []) := by
  have hx := S.1
  have hb := S.2.1
  intro  σ H locs ls h  hw hl
  refine lv_iconst (v := 0) hx hb dX9_greatest_0 (by decide) ?_
  refine lv_istore_n (lv' := [(2, .int 0), (0, .ref (ad 0 0)), (1, .int x1)]) hx hb dX9_greatest_1 rfl hl (by decide) rfl (fun ls hl => ?_)
  refine lv_iconst (v := 0) hx hb dX9_greatest_2 (by decide) ?_
  refine lv_istore_n (lv' := [(3, .int 0), (2, .int 0), (0, .ref (ad 0 0)), (1, .int x1)]) hx hb dX9_greatest_3 rfl hl (by decide) rfl (fun ls hl => ?_)
  obtain ⟨n9, h⟩ := h
  exact wk_X9_greatest_4 S V hr hlocks x1   post  n9 0 0 _ _ _ _ h  hw (lv_sub hl [2, 3, 1, 0] rfl)
theorem mt_X9_greatest (l : Launch) (D : va_G) (q : ClassId × ClassId × ClassId × ClassId) (ad : Nat → Nat → Nat) (x1 : Int32) (σ : St) (post : Int32 → St → Prop) (h : wp_X9_greatest x1 post σ) : cI l D clA LM ad (EM q ad) (EvM D q ad) yX9_greatest cX9_greatest 4 (some .int) { frames := 0, cells := 0, slots := 0, locals := 0 } [.ref (ad 0 0), .int x1] σ post :=
  ent_i (by decide) (Nat.le_of_ble_eq_true rfl) (fun p e s m below meth c S V hr hlocks hw ls hl => wk_X9_greatest_0 S V hr hlocks x1  post   σ _ _ ls h  hw (lv_sub hl [0, 1] rfl))
def wp_X9_thing (x1 : Int32) (x2 : Int32) (post : Int32 → St → Prop)  (σ : St) : Prop := wp_X9_isThing x1 (fun r1 σ1 => ((¬ r1 = 0 → ((x2 = 0 → (vp_in x1 4 ∧ post (σ1 3 0 x1.toNatClampNeg) σ1)) ∧ (¬ x2 = 0 → ((x2 = 1 → (vp_in x1 4 ∧ post (σ1 4 0 x1.toNatClampNeg) σ1)) ∧ (¬ x2 = 1 → ((x2 = 2 → (vp_in x1 4 ∧ post (σ1 5 0 x1.toNatClampNeg) σ1)) ∧ (¬ x2 = 2 → ((x2 = 3 → wp_X9_longOf x1 (fun r2 σ2 => post r2 σ2) σ1) ∧ (¬ x2 = 3 → ((x2 = 4 → wp_X9_greatest x1 (fun r3 σ3 => post r3 σ3) σ1) ∧ (¬ x2 = 4 → post (-3) σ1))))))))))) ∧ (r1 = 0 → post (-2) σ1))) σ
set_option maxHeartbeats 4000000 in
set_option maxRecDepth 100000 in
theorem wk_X9_thing_0 {p : Program} {l : Launch} {e : Env} {s : State} {m : MethodId} {below : List Frame} {meth : Method} {c : Code} {D : va_G} {q : ClassId × ClassId × ClassId × ClassId} {ad : Nat → Nat → Nat} {args : Array Value} (S : CallFix p m c cX9_thing 3 s args GW "OnChinModel") (V : EvM D q ad s) (hr : meth.sig.returnType = (some .int)) (hlocks : meth.locks = false) (x1 : Int32) (x2 : Int32) (post : Int32 → St → Prop)  : ∀ (σ : St) (H : Heap) (locs : List Loc) (ls : Array Slot), wp_X9_thing x1 x2 post  σ → wo D clA LM ad s.heap H locs (EM q ad σ) → lv_has ls 3 [(0, .ref (ad 0 0)), (1, .int x1), (2, .int x2)] → W p l e { frames := 2, cells := 0, slots := 0, locals := 45 } s m args below meth c H locs 0 0 (MQ below (zQi D clA LM ad (EM q ad) post) args s 0 0 (zA LM ad)) (F0 m 0 ls []) := by
  have hx := S.1
  have hb := S.2.1
  intro  σ H locs ls h  hw hl
  have h : wp_X9_isThing x1 (fun r1 σ1 => ((¬ r1 = 0 → ((x2 = 0 → (vp_in x1 4 ∧ post (σ1 3 0 x1.toNatClampNeg) σ1)) ∧ (¬ x2 = 0 → ((x2 = 1 → (vp_in x1 4 ∧ post (σ1 4 0 x1.toNatClampNeg) σ1)) ∧ (¬ x2 = 1 → ((x2 = 2 → (vp_in x1 4 ∧ post (σ1 5 0 x1.toNatClampNeg) σ1)) ∧ (¬ x2 = 2 → ((x2 = 3 → wp_X9_longOf x1 (fun r2 σ2 => post r2 σ2) σ1) ∧ (¬ x2 = 3 → ((x2 = 4 → wp_X9_greatest x1 (fun r3 σ3 => post r3 σ3) σ1) ∧ (¬ x2 = 4 → post (-3) σ1))))))))))) ∧ (r1 = 0 → post (-2) σ1))) σ := h
  refine lv_iload_n hx hb dX9_thing_0 rfl (lv_at hl 1 rfl) ?_
  refine call_Si (As := [.int x1]) (rest := []) EvM_ok S V hw (mt_X9_isThing l D q ad x1  σ _ h) ok_X9_isThing ml_X9_192 ⟨(Nat.le_of_ble_eq_true rfl), (Nat.le_of_ble_eq_true rfl)⟩ ⟨rfl, rfl⟩ rfl hl.1 rfl (Nat.le_of_ble_eq_true rfl) dX9_thing_1 (fun r1 σ1 H locs h hw => ?_)
  refine lv_if_ne (tgt := 10) hx hb dX9_thing_4 (by decide) (fun hc => ?_) (fun hc => ?_)
  · have h := h.1 hc
    refine lv_iload_n hx hb dX9_thing_10 rfl (lv_at hl 2 rfl) ?_
    by_cases hc0 : x2 = 0
    · have h := h.1 hc0
      refine lv_tableIn (tgt := 44) hx hb dX9_thing_11 (by rw [hc0]; decide) (by rw [hc0]; decide) (by rw [hc0]; rfl) (by decide) ?_
      refine lv_aload_n hx hb dX9_thing_44 rfl (lv_at hl 0 rfl) ?_
      refine gM_0_4 S V hw (Nat.le_of_ble_eq_true rfl) fl_X9_16 dX9_thing_45 ?_
      refine lv_iload_n hx hb dX9_thing_48 rfl (lv_at hl 1 rfl) ?_
      refine aM_3 S V hw (Nat.le_of_ble_eq_true rfl) h.1 (z := (σ1 3 0 x1.toNatClampNeg)) rfl dX9_thing_49 ?_
      have h := h.2
      exact ret_i S hr hlocks hw h dX9_thing_50
    · have h := h.2 hc0
      by_cases hc1 : x2 = 1
      · have h := h.1 hc1
        refine lv_tableIn (tgt := 51) hx hb dX9_thing_11 (by rw [hc1]; decide) (by rw [hc1]; decide) (by rw [hc1]; rfl) (by decide) ?_
        refine lv_aload_n hx hb dX9_thing_51 rfl (lv_at hl 0 rfl) ?_
        refine gM_0_5 S V hw (Nat.le_of_ble_eq_true rfl) fl_X9_19 dX9_thing_52 ?_
        refine lv_iload_n hx hb dX9_thing_55 rfl (lv_at hl 1 rfl) ?_
        refine aM_4 S V hw (Nat.le_of_ble_eq_true rfl) h.1 (z := (σ1 4 0 x1.toNatClampNeg)) rfl dX9_thing_56 ?_
        have h := h.2
        exact ret_i S hr hlocks hw h dX9_thing_57
      · have h := h.2 hc1
        by_cases hc2 : x2 = 2
        · have h := h.1 hc2
          refine lv_tableIn (tgt := 58) hx hb dX9_thing_11 (by rw [hc2]; decide) (by rw [hc2]; decide) (by rw [hc2]; rfl) (by decide) ?_
          refine lv_aload_n hx hb dX9_thing_58 rfl (lv_at hl 0 rfl) ?_
          refine gM_0_6 S V hw (Nat.le_of_ble_eq_true rfl) fl_X9_22 dX9_thing_59 ?_
          refine lv_iload_n hx hb dX9_thing_62 rfl (lv_at hl 1 rfl) ?_
          refine aM_5 S V hw (Nat.le_of_ble_eq_true rfl) h.1 (z := (σ1 5 0 x1.toNatClampNeg)) rfl dX9_thing_63 ?_
          have h := h.2
          exact ret_i S hr hlocks hw h dX9_thing_64
        · have h := h.2 hc2
          by_cases hc3 : x2 = 3
          · have h := h.1 hc3
            refine lv_tableIn (tgt := 65) hx hb dX9_thing_11 (by rw [hc3]; decide) (by rw [hc3]; decide) (by rw [hc3]; rfl) (by decide) ?_
            refine lv_aload_n hx hb dX9_thing_65 rfl (lv_at hl 0 rfl) ?_
            refine lv_iload_n hx hb dX9_thing_66 rfl (lv_at hl 1 rfl) ?_
            refine call_Vi (As := [.int x1]) (rest := []) EvM_ok S V hw (mt_X9_longOf l D q ad x1  σ1 _ h) ok_X9_longOf ml_X9_195 (rM_0 S V hw (Nat.le_of_ble_eq_true rfl)) ⟨(Nat.le_of_ble_eq_true rfl), (Nat.le_of_ble_eq_true rfl)⟩ ⟨rfl, rfl⟩ rfl hl.1 rfl (Nat.le_of_ble_eq_true rfl) dX9_thing_67 (fun r2 σ2 H locs h hw => ?_)
            exact ret_i S hr hlocks hw h dX9_thing_70
          · have h := h.2 hc3
            by_cases hc4 : x2 = 4
            · have h := h.1 hc4
              refine lv_tableIn (tgt := 71) hx hb dX9_thing_11 (by rw [hc4]; decide) (by rw [hc4]; decide) (by rw [hc4]; rfl) (by decide) ?_
              refine lv_aload_n hx hb dX9_thing_71 rfl (lv_at hl 0 rfl) ?_
              refine lv_iload_n hx hb dX9_thing_72 rfl (lv_at hl 1 rfl) ?_
              refine call_Vi (As := [.int x1]) (rest := []) EvM_ok S V hw (mt_X9_greatest l D q ad x1  σ1 _ h) ok_X9_greatest ml_X9_198 (rM_0 S V hw (Nat.le_of_ble_eq_true rfl)) ⟨(Nat.le_of_ble_eq_true rfl), (Nat.le_of_ble_eq_true rfl)⟩ ⟨rfl, rfl⟩ rfl hl.1 rfl (Nat.le_of_ble_eq_true rfl) dX9_thing_73 (fun r3 σ3 H locs h hw => ?_)
              exact ret_i S hr hlocks hw h dX9_thing_76
            · have h := h.2 hc4
              refine lv_tableOut (tgt := 77) hx hb dX9_thing_11 (by have e0 := lv_neT (k := 0) (a := 0) hc0 rfl; have e1 := lv_neT (k := 1) (a := 1) hc1 rfl; have e2 := lv_neT (k := 2) (a := 2) hc2 rfl; have e3 := lv_neT (k := 3) (a := 3) hc3 rfl; have e4 := lv_neT (k := 4) (a := 4) hc4 rfl; omega) (by decide) ?_
              refine lv_bipush (v := (-3)) hx hb dX9_thing_77 (by decide) ?_
              exact ret_i S hr hlocks hw h dX9_thing_79
  · have h := h.2 hc
    refine lv_bipush (v := (-2)) hx hb dX9_thing_7 (by decide) ?_
    exact ret_i S hr hlocks hw h dX9_thing_9
theorem mt_X9_thing (l : Launch) (D : va_G) (q : ClassId × ClassId × ClassId × ClassId) (ad : Nat → Nat → Nat) (x1 : Int32) (x2 : Int32) (σ : St) (post : Int32 → St → Prop) (h : wp_X9_thing x1 x2 post σ) : cI l D clA LM ad (EM q ad) (EvM D q ad) yX9_thing cX9_thing 3 (some .int) { frames := 2, cells := 0, slots := 0, locals := 45 } [.ref (ad 0 0), .int x1, .int x2] σ post :=
  ent_i (by decide) (Nat.le_of_ble_eq_true rfl) (fun p e s m below meth c S V hr hlocks hw ls hl => wk_X9_thing_0 S V hr hlocks x1 x2  post   σ _ _ ls h  hw (lv_sub hl [0, 1, 2] rfl))
def wp_X9_lump_25 (x1 : Int32) (x2 : Int32) (x3 : Int32) (post : Int32 → St → Prop)  (σ : St) : Prop := post (-2) σ
set_option maxHeartbeats 4000000 in
set_option maxRecDepth 100000 in
theorem wk_X9_lump_25 {p : Program} {l : Launch} {e : Env} {s : State} {m : MethodId} {below : List Frame} {meth : Method} {c : Code} {D : va_G} {q : ClassId × ClassId × ClassId × ClassId} {ad : Nat → Nat → Nat} {args : Array Value} (S : CallFix p m c cX9_lump 4 s args GW "OnChinModel") (V : EvM D q ad s) (hr : meth.sig.returnType = (some .int)) (hlocks : meth.locks = false) (x1 : Int32) (x2 : Int32) (x3 : Int32) (post : Int32 → St → Prop)  : ∀ (σ : St) (H : Heap) (locs : List Loc) (ls : Array Slot), wp_X9_lump_25 x1 x2 x3 post  σ → wo D clA LM ad s.heap H locs (EM q ad σ) → lv_has ls 4 [(0, .ref (ad 0 0)), (1, .int x1), (2, .int x2), (3, .int x3)] → W p l e { frames := 2, cells := 0, slots := 0, locals := 45 } s m args below meth c H locs 0 0 (MQ below (zQi D clA LM ad (EM q ad) post) args s 0 0 (zA LM ad)) (F0 m 25 ls []) := by
  have hx := S.1
  have hb := S.2.1
  intro  σ H locs ls h  hw hl
  refine lv_bipush (v := (-2)) hx hb dX9_lump_25 (by decide) ?_
  exact ret_i S hr hlocks hw h dX9_lump_27
def wp_X9_lump_58 (x1 : Int32) (x2 : Int32) (x3 : Int32) (post : Int32 → St → Prop) (xs0 : Int32) (σ : St) : Prop := post xs0 σ
set_option maxHeartbeats 4000000 in
set_option maxRecDepth 100000 in
theorem wk_X9_lump_58 {p : Program} {l : Launch} {e : Env} {s : State} {m : MethodId} {below : List Frame} {meth : Method} {c : Code} {D : va_G} {q : ClassId × ClassId × ClassId × ClassId} {ad : Nat → Nat → Nat} {args : Array Value} (S : CallFix p m c cX9_lump 4 s args GW "OnChinModel") (V : EvM D q ad s) (hr : meth.sig.returnType = (some .int)) (hlocks : meth.locks = false) (x1 : Int32) (x2 : Int32) (x3 : Int32) (post : Int32 → St → Prop)  : ∀ (xs0 : Int32) (σ : St) (H : Heap) (locs : List Loc) (ls : Array Slot), wp_X9_lump_58 x1 x2 x3 post xs0 σ → wo D clA LM ad s.heap H locs (EM q ad σ) → lv_has ls 4 [(0, .ref (ad 0 0)), (1, .int x1), (2, .int x2), (3, .int x3)] → W p l e { frames := 2, cells := 0, slots := 0, locals := 45 } s m args below meth c H locs 0 0 (MQ below (zQi D clA LM ad (EM q ad) post) args s 0 0 (zA LM ad)) (F0 m 58 ls [.int xs0]) := by
  have hx := S.1
  have hb := S.2.1
  intro xs0 σ H locs ls h  hw hl
  exact ret_i S hr hlocks hw h dX9_lump_58
def wp_X9_lump (x1 : Int32) (x2 : Int32) (x3 : Int32) (post : Int32 → St → Prop)  (σ : St) : Prop := wp_X9_isThing x1 (fun r1 σ1 => ((r1 = 0 → wp_X9_lump_25 x1 x2 x3 post  σ1) ∧ (¬ r1 = 0 → (vp_in x1 4 ∧ wp_X9_in (Int32.toInt64 x2) 0 (Int32.toInt64 ((σ1 5 0 x1.toNatClampNeg) - 1)) (fun r2 σ2 => ((¬ r2 = 0 → wp_X9_in (Int32.toInt64 x3) 0 1 (fun r3 σ3 => ((r3 = 0 → wp_X9_lump_58 x1 x2 x3 post (-3) σ3) ∧ (¬ r3 = 0 → (vp_in (((8 * x1) + (2 * x2)) + x3) 32 ∧ wp_X9_lump_58 x1 x2 x3 post (σ3 6 0 ((((8 * x1) + (2 * x2)) + x3).toNatClampNeg)) σ3)))) σ2) ∧ (r2 = 0 → wp_X9_lump_25 x1 x2 x3 post  σ2))) σ1)))) σ
set_option maxHeartbeats 4000000 in
set_option maxRecDepth 100000 in
theorem wk_X9_lump_0 {p : Program} {l : Launch} {e : Env} {s : State} {m : MethodId} {below : List Frame} {meth : Method} {c : Code} {D : va_G} {q : ClassId × ClassId × ClassId × ClassId} {ad : Nat → Nat → Nat} {args : Array Value} (S : CallFix p m c cX9_lump 4 s args GW "OnChinModel") (V : EvM D q ad s) (hr : meth.sig.returnType = (some .int)) (hlocks : meth.locks = false) (x1 : Int32) (x2 : Int32) (x3 : Int32) (post : Int32 → St → Prop)  : ∀ (σ : St) (H : Heap) (locs : List Loc) (ls : Array Slot), wp_X9_lump x1 x2 x3 post  σ → wo D clA LM ad s.heap H locs (EM q ad σ) → lv_has ls 4 [(0, .ref (ad 0 0)), (1, .int x1), (2, .int x2), (3, .int x3)] → W p l e { frames := 2, cells := 0, slots := 0, locals := 45 } s m args below meth c H locs 0 0 (MQ below (zQi D clA LM ad (EM q ad) post) args s 0 0 (zA LM ad)) (F0 m 0 ls []) := by
  have hx := S.1
  have hb := S.2.1
  intro  σ H locs ls h  hw hl
  have h : wp_X9_isThing x1 (fun r1 σ1 => ((r1 = 0 → wp_X9_lump_25 x1 x2 x3 post  σ1) ∧ (¬ r1 = 0 → (vp_in x1 4 ∧ wp_X9_in (Int32.toInt64 x2) 0 (Int32.toInt64 ((σ1 5 0 x1.toNatClampNeg) - 1)) (fun r2 σ2 => ((¬ r2 = 0 → wp_X9_in (Int32.toInt64 x3) 0 1 (fun r3 σ3 => ((r3 = 0 → wp_X9_lump_58 x1 x2 x3 post (-3) σ3) ∧ (¬ r3 = 0 → (vp_in (((8 * x1) + (2 * x2)) + x3) 32 ∧ wp_X9_lump_58 x1 x2 x3 post (σ3 6 0 ((((8 * x1) + (2 * x2)) + x3).toNatClampNeg)) σ3)))) σ2) ∧ (r2 = 0 → wp_X9_lump_25 x1 x2 x3 post  σ2))) σ1)))) σ := h
  refine lv_iload_n hx hb dX9_lump_0 rfl (lv_at hl 1 rfl) ?_
  refine call_Si (As := [.int x1]) (rest := []) EvM_ok S V hw (mt_X9_isThing l D q ad x1  σ _ h) ok_X9_isThing ml_X9_192 ⟨(Nat.le_of_ble_eq_true rfl), (Nat.le_of_ble_eq_true rfl)⟩ ⟨rfl, rfl⟩ rfl hl.1 rfl (Nat.le_of_ble_eq_true rfl) dX9_lump_1 (fun r1 σ1 H locs h hw => ?_)
  refine lv_if_eq (tgt := 25) hx hb dX9_lump_4 (by decide) (fun hc => ?_) (fun hc => ?_)
  · have h := h.1 hc
    exact wk_X9_lump_25 S V hr hlocks x1 x2 x3   post   _ _ _ _ h  hw (lv_sub hl [0, 1, 2, 3] rfl)
  · have h := h.2 hc
    refine lv_iload_n hx hb dX9_lump_7 rfl (lv_at hl 2 rfl) ?_
    refine lv_i2l (v := (Int32.toInt64 x2)) hx hb dX9_lump_8 rfl ?_
    refine lv_lconst (v := 0) hx hb dX9_lump_9 (by decide) ?_
    refine lv_aload_n hx hb dX9_lump_10 rfl (lv_at hl 0 rfl) ?_
    refine gM_0_6 S V hw (Nat.le_of_ble_eq_true rfl) fl_X9_22 dX9_lump_11 ?_
    refine lv_iload_n hx hb dX9_lump_14 rfl (lv_at hl 1 rfl) ?_
    refine aM_5 S V hw (Nat.le_of_ble_eq_true rfl) h.1 (z := (σ1 5 0 x1.toNatClampNeg)) rfl dX9_lump_15 ?_
    have h := h.2
    refine lv_iconst (v := 1) hx hb dX9_lump_16 (by decide) ?_
    refine lv_isub hx hb dX9_lump_17 ?_
    refine lv_i2l (v := (Int32.toInt64 ((σ1 5 0 x1.toNatClampNeg) - 1))) hx hb dX9_lump_18 rfl ?_
    refine call_Si (As := [.long (Int32.toInt64 x2), .long 0, .long (Int32.toInt64 ((σ1 5 0 x1.toNatClampNeg) - 1))]) (rest := []) EvM_ok S V hw (mt_X9_in l D q ad (Int32.toInt64 x2) 0 (Int32.toInt64 ((σ1 5 0 x1.toNatClampNeg) - 1))  σ1 _ h) ok_X9_in ml_X9_92 ⟨(Nat.le_of_ble_eq_true rfl), (Nat.le_of_ble_eq_true rfl)⟩ ⟨rfl, rfl⟩ rfl hl.1 rfl (Nat.le_of_ble_eq_true rfl) dX9_lump_19 (fun r2 σ2 H locs h hw => ?_)
    refine lv_if_ne (tgt := 28) hx hb dX9_lump_22 (by decide) (fun hc => ?_) (fun hc => ?_)
    · have h := h.1 hc
      refine lv_iload_n hx hb dX9_lump_28 rfl (lv_at hl 3 rfl) ?_
      refine lv_i2l (v := (Int32.toInt64 x3)) hx hb dX9_lump_29 rfl ?_
      refine lv_lconst (v := 0) hx hb dX9_lump_30 (by decide) ?_
      refine lv_lconst (v := 1) hx hb dX9_lump_31 (by decide) ?_
      refine call_Si (As := [.long (Int32.toInt64 x3), .long 0, .long 1]) (rest := []) EvM_ok S V hw (mt_X9_in l D q ad (Int32.toInt64 x3) 0 1  σ2 _ h) ok_X9_in ml_X9_92 ⟨(Nat.le_of_ble_eq_true rfl), (Nat.le_of_ble_eq_true rfl)⟩ ⟨rfl, rfl⟩ rfl hl.1 rfl (Nat.le_of_ble_eq_true rfl) dX9_lump_32 (fun r3 σ3 H locs h hw => ?_)
      refine lv_if_eq (tgt := 56) hx hb dX9_lump_35 (by decide) (fun hc => ?_) (fun hc => ?_)
      · have h := h.1 hc
        refine lv_bipush (v := (-3)) hx hb dX9_lump_56 (by decide) ?_
        exact wk_X9_lump_58 S V hr hlocks x1 x2 x3   post  (-3) _ _ _ _ h  hw (lv_sub hl [0, 1, 2, 3] rfl)
      · have h := h.2 hc
        refine lv_aload_n hx hb dX9_lump_38 rfl (lv_at hl 0 rfl) ?_
        refine gM_0_7 S V hw (Nat.le_of_ble_eq_true rfl) fl_X9_25 dX9_lump_39 ?_
        refine lv_bipush (v := 8) hx hb dX9_lump_42 (by decide) ?_
        refine lv_iload_n hx hb dX9_lump_44 rfl (lv_at hl 1 rfl) ?_
        refine lv_imul hx hb dX9_lump_45 ?_
        refine lv_iconst (v := 2) hx hb dX9_lump_46 (by decide) ?_
        refine lv_iload_n hx hb dX9_lump_47 rfl (lv_at hl 2 rfl) ?_
        refine lv_imul hx hb dX9_lump_48 ?_
        refine lv_iadd hx hb dX9_lump_49 ?_
        refine lv_iload_n hx hb dX9_lump_50 rfl (lv_at hl 3 rfl) ?_
        refine lv_iadd hx hb dX9_lump_51 ?_
        refine aM_6 S V hw (Nat.le_of_ble_eq_true rfl) h.1 (z := (σ3 6 0 ((((8 * x1) + (2 * x2)) + x3).toNatClampNeg))) rfl dX9_lump_52 ?_
        have h := h.2
        refine lv_goto (tgt := 58) hx hb dX9_lump_53 (by decide) ?_
        exact wk_X9_lump_58 S V hr hlocks x1 x2 x3   post  (σ3 6 0 ((((8 * x1) + (2 * x2)) + x3).toNatClampNeg)) _ _ _ _ h  hw (lv_sub hl [0, 1, 2, 3] rfl)
    · have h := h.2 hc
      exact wk_X9_lump_25 S V hr hlocks x1 x2 x3   post   _ _ _ _ h  hw (lv_sub hl [0, 1, 2, 3] rfl)
theorem mt_X9_lump (l : Launch) (D : va_G) (q : ClassId × ClassId × ClassId × ClassId) (ad : Nat → Nat → Nat) (x1 : Int32) (x2 : Int32) (x3 : Int32) (σ : St) (post : Int32 → St → Prop) (h : wp_X9_lump x1 x2 x3 post σ) : cI l D clA LM ad (EM q ad) (EvM D q ad) yX9_lump cX9_lump 4 (some .int) { frames := 2, cells := 0, slots := 0, locals := 45 } [.ref (ad 0 0), .int x1, .int x2, .int x3] σ post :=
  ent_i (by decide) (Nat.le_of_ble_eq_true rfl) (fun p e s m below meth c S V hr hlocks hw ls hl => wk_X9_lump_0 S V hr hlocks x1 x2 x3  post   σ _ _ ls h  hw (lv_sub hl [0, 1, 2, 3] rfl))
def wp_X9_look (x1 : Int32) (post : St → Prop)  (σ : St) : Prop := (vp_in x1 4 ∧ (vp_in x1 4 ∧ wp_X9_longOf x1 (fun r1 σ1 => post (su σ1 0 0 34 r1)) (su (su σ 0 0 32 (σ 3 0 x1.toNatClampNeg)) 0 0 33 (σ 4 0 x1.toNatClampNeg))))
set_option maxHeartbeats 4000000 in
set_option maxRecDepth 100000 in
theorem wk_X9_look_0 {p : Program} {l : Launch} {e : Env} {s : State} {m : MethodId} {below : List Frame} {meth : Method} {c : Code} {D : va_G} {q : ClassId × ClassId × ClassId × ClassId} {ad : Nat → Nat → Nat} {args : Array Value} (S : CallFix p m c cX9_look 2 s args GW "OnChinModel") (V : EvM D q ad s) (hr : meth.sig.returnType = none) (hlocks : meth.locks = false) (x1 : Int32) (post : St → Prop)  : ∀ (σ : St) (H : Heap) (locs : List Loc) (ls : Array Slot), wp_X9_look x1 post  σ → wo D clA LM ad s.heap H locs (EM q ad σ) → lv_has ls 2 [(0, .ref (ad 0 0)), (1, .int x1)] → W p l e { frames := 1, cells := 0, slots := 0, locals := 26 } s m args below meth c H locs 0 0 (MQ below (zQv D clA LM ad (EM q ad) post) args s 0 0 (zA LM ad)) (F0 m 0 ls []) := by
  have hx := S.1
  have hb := S.2.1
  intro  σ H locs ls h  hw hl
  refine lv_aload_n hx hb dX9_look_0 rfl (lv_at hl 0 rfl) ?_
  refine lv_aload_n hx hb dX9_look_1 rfl (lv_at hl 0 rfl) ?_
  refine gM_0_4 S V hw (Nat.le_of_ble_eq_true rfl) fl_X9_16 dX9_look_2 ?_
  refine lv_iload_n hx hb dX9_look_5 rfl (lv_at hl 1 rfl) ?_
  refine aM_3 S V hw (Nat.le_of_ble_eq_true rfl) h.1 (z := (σ 3 0 x1.toNatClampNeg)) rfl dX9_look_6 ?_
  have h := h.2
  refine pM_0_32 S V hw (Nat.le_of_ble_eq_true rfl) fl_X9_216 dX9_look_7 (fun H locs hw => ?_)
  refine lv_aload_n hx hb dX9_look_10 rfl (lv_at hl 0 rfl) ?_
  refine lv_aload_n hx hb dX9_look_11 rfl (lv_at hl 0 rfl) ?_
  refine gM_0_5 S V hw (Nat.le_of_ble_eq_true rfl) fl_X9_19 dX9_look_12 ?_
  refine lv_iload_n hx hb dX9_look_15 rfl (lv_at hl 1 rfl) ?_
  refine aM_4 S V hw (Nat.le_of_ble_eq_true rfl) h.1 (z := (σ 4 0 x1.toNatClampNeg)) (su_nc rfl) dX9_look_16 ?_
  have h := h.2
  refine pM_0_33 S V hw (Nat.le_of_ble_eq_true rfl) fl_X9_219 dX9_look_17 (fun H locs hw => ?_)
  refine lv_aload_n hx hb dX9_look_20 rfl (lv_at hl 0 rfl) ?_
  refine lv_aload_n hx hb dX9_look_21 rfl (lv_at hl 0 rfl) ?_
  refine lv_iload_n hx hb dX9_look_22 rfl (lv_at hl 1 rfl) ?_
  refine call_Vi (As := [.int x1]) (rest := [.ref (ad 0 0)]) EvM_ok S V hw (mt_X9_longOf l D q ad x1  (su (su σ 0 0 32 (σ 3 0 x1.toNatClampNeg)) 0 0 33 (σ 4 0 x1.toNatClampNeg)) _ h) ok_X9_longOf ml_X9_195 (rM_0 S V hw (Nat.le_of_ble_eq_true rfl)) ⟨(Nat.le_of_ble_eq_true rfl), (Nat.le_of_ble_eq_true rfl)⟩ ⟨rfl, rfl⟩ rfl hl.1 rfl (Nat.le_of_ble_eq_true rfl) dX9_look_23 (fun r1 σ1 H locs h hw => ?_)
  refine pM_0_34 S V hw (Nat.le_of_ble_eq_true rfl) fl_X9_222 dX9_look_26 (fun H locs hw => ?_)
  exact ret_v S hr hlocks hw h dX9_look_29
theorem mt_X9_look (l : Launch) (D : va_G) (q : ClassId × ClassId × ClassId × ClassId) (ad : Nat → Nat → Nat) (x1 : Int32) (σ : St) (post : St → Prop) (h : wp_X9_look x1 post σ) : cV l D clA LM ad (EM q ad) (EvM D q ad) yX9_look cX9_look 2 none { frames := 1, cells := 0, slots := 0, locals := 26 } [.ref (ad 0 0), .int x1] σ post :=
  ent_v (by decide) (Nat.le_of_ble_eq_true rfl) (fun p e s m below meth c S V hr hlocks hw ls hl => wk_X9_look_0 S V hr hlocks x1  post   σ _ _ ls h  hw (lv_sub hl [0, 1] rfl))
def wp_X9_asTold (x1 : Int32) (post : St → Prop)  (σ : St) : Prop := wp_X9_look x1 (fun σ1 => post σ1) (su (su (su (su σ 0 0 28 (σ 0 0 8)) 0 0 29 (σ 0 0 9)) 0 0 30 (σ 0 0 10)) 0 0 31 (σ 0 0 17))
set_option maxHeartbeats 4000000 in
set_option maxRecDepth 100000 in
theorem wk_X9_asTold_0 {p : Program} {l : Launch} {e : Env} {s : State} {m : MethodId} {below : List Frame} {meth : Method} {c : Code} {D : va_G} {q : ClassId × ClassId × ClassId × ClassId} {ad : Nat → Nat → Nat} {args : Array Value} (S : CallFix p m c cX9_asTold 2 s args GW "OnChinModel") (V : EvM D q ad s) (hr : meth.sig.returnType = none) (hlocks : meth.locks = false) (x1 : Int32) (post : St → Prop)  : ∀ (σ : St) (H : Heap) (locs : List Loc) (ls : Array Slot), wp_X9_asTold x1 post  σ → wo D clA LM ad s.heap H locs (EM q ad σ) → lv_has ls 2 [(0, .ref (ad 0 0)), (1, .int x1)] → W p l e { frames := 2, cells := 0, slots := 0, locals := 47 } s m args below meth c H locs 0 0 (MQ below (zQv D clA LM ad (EM q ad) post) args s 0 0 (zA LM ad)) (F0 m 0 ls []) := by
  have hx := S.1
  have hb := S.2.1
  intro  σ H locs ls h  hw hl
  have h : wp_X9_look x1 (fun σ1 => post σ1) (su (su (su (su σ 0 0 28 (σ 0 0 8)) 0 0 29 (σ 0 0 9)) 0 0 30 (σ 0 0 10)) 0 0 31 (σ 0 0 17)) := h
  refine lv_aload_n hx hb dX9_asTold_0 rfl (lv_at hl 0 rfl) ?_
  refine lv_aload_n hx hb dX9_asTold_1 rfl (lv_at hl 0 rfl) ?_
  refine gM_0_8 S V hw (Nat.le_of_ble_eq_true rfl) fl_X9_28 rfl dX9_asTold_2 ?_
  refine pM_0_28 S V hw (Nat.le_of_ble_eq_true rfl) fl_X9_201 dX9_asTold_5 (fun H locs hw => ?_)
  refine lv_aload_n hx hb dX9_asTold_8 rfl (lv_at hl 0 rfl) ?_
  refine lv_aload_n hx hb dX9_asTold_9 rfl (lv_at hl 0 rfl) ?_
  refine gM_0_9 S V hw (Nat.le_of_ble_eq_true rfl) fl_X9_32 (su_nk rfl) dX9_asTold_10 ?_
  refine pM_0_29 S V hw (Nat.le_of_ble_eq_true rfl) fl_X9_204 dX9_asTold_13 (fun H locs hw => ?_)
  refine lv_aload_n hx hb dX9_asTold_16 rfl (lv_at hl 0 rfl) ?_
  refine lv_aload_n hx hb dX9_asTold_17 rfl (lv_at hl 0 rfl) ?_
  refine gM_0_10 S V hw (Nat.le_of_ble_eq_true rfl) fl_X9_35 ((su_nk rfl).trans (su_nk rfl)) dX9_asTold_18 ?_
  refine pM_0_30 S V hw (Nat.le_of_ble_eq_true rfl) fl_X9_207 dX9_asTold_21 (fun H locs hw => ?_)
  refine lv_aload_n hx hb dX9_asTold_24 rfl (lv_at hl 0 rfl) ?_
  refine lv_aload_n hx hb dX9_asTold_25 rfl (lv_at hl 0 rfl) ?_
  refine gM_0_17 S V hw (Nat.le_of_ble_eq_true rfl) fl_X9_180 ((su_nk rfl).trans ((su_nk rfl).trans (su_nk rfl))) dX9_asTold_26 ?_
  refine pM_0_31 S V hw (Nat.le_of_ble_eq_true rfl) fl_X9_210 dX9_asTold_29 (fun H locs hw => ?_)
  refine lv_aload_n hx hb dX9_asTold_32 rfl (lv_at hl 0 rfl) ?_
  refine lv_iload_n hx hb dX9_asTold_33 rfl (lv_at hl 1 rfl) ?_
  refine call_Vv (As := [.int x1]) (rest := []) EvM_ok S V hw (mt_X9_look l D q ad x1  (su (su (su (su σ 0 0 28 (σ 0 0 8)) 0 0 29 (σ 0 0 9)) 0 0 30 (σ 0 0 10)) 0 0 31 (σ 0 0 17)) _ h) ok_X9_look ml_X9_213 (rM_0 S V hw (Nat.le_of_ble_eq_true rfl)) ⟨(Nat.le_of_ble_eq_true rfl), (Nat.le_of_ble_eq_true rfl)⟩ ⟨rfl, rfl⟩ rfl hl.1 rfl (Nat.le_of_ble_eq_true rfl) dX9_asTold_34 (fun σ1 H locs h hw => ?_)
  exact ret_v S hr hlocks hw h dX9_asTold_37
theorem mt_X9_asTold (l : Launch) (D : va_G) (q : ClassId × ClassId × ClassId × ClassId) (ad : Nat → Nat → Nat) (x1 : Int32) (σ : St) (post : St → Prop) (h : wp_X9_asTold x1 post σ) : cV l D clA LM ad (EM q ad) (EvM D q ad) yX9_asTold cX9_asTold 2 none { frames := 2, cells := 0, slots := 0, locals := 47 } [.ref (ad 0 0), .int x1] σ post :=
  ent_v (by decide) (Nat.le_of_ble_eq_true rfl) (fun p e s m below meth c S V hr hlocks hw ls hl => wk_X9_asTold_0 S V hr hlocks x1  post   σ _ _ ls h  hw (lv_sub hl [0, 1] rfl))
def wp_X9_start (x1 : Int32) (x2 : Int32) (x3 : Int32) (post : St → Prop)  (σ : St) : Prop := (vp_in (402 * x1) 2010 ∧ (vp_in x1 5 ∧ (vp_in x1 5 ∧ (vp_in x1 5 ∧ (vp_in x1 5 ∧ post (su (su (su (su (su σ 8 0 ((402 * x1).toNatClampNeg) x2) 9 0 x1.toNatClampNeg x3) 10 0 x1.toNatClampNeg 0) 11 0 x1.toNatClampNeg 0) 12 0 x1.toNatClampNeg 0))))))
set_option maxHeartbeats 4000000 in
set_option maxRecDepth 100000 in
theorem wk_X9_start_0 {p : Program} {l : Launch} {e : Env} {s : State} {m : MethodId} {below : List Frame} {meth : Method} {c : Code} {D : va_G} {q : ClassId × ClassId × ClassId × ClassId} {ad : Nat → Nat → Nat} {args : Array Value} (S : CallFix p m c cX9_start 4 s args GW "OnChinModel") (V : EvM D q ad s) (hr : meth.sig.returnType = none) (hlocks : meth.locks = false) (x1 : Int32) (x2 : Int32) (x3 : Int32) (post : St → Prop)  : ∀ (σ : St) (H : Heap) (locs : List Loc) (ls : Array Slot), wp_X9_start x1 x2 x3 post  σ → wo D clA LM ad s.heap H locs (EM q ad σ) → lv_has ls 4 [(0, .ref (ad 0 0)), (1, .int x1), (2, .int x2), (3, .int x3)] → W p l e { frames := 0, cells := 0, slots := 0, locals := 0 } s m args below meth c H locs 0 0 (MQ below (zQv D clA LM ad (EM q ad) post) args s 0 0 (zA LM ad)) (F0 m 0 ls []) := by
  have hx := S.1
  have hb := S.2.1
  intro  σ H locs ls h  hw hl
  refine lv_aload_n hx hb dX9_start_0 rfl (lv_at hl 0 rfl) ?_
  refine gM_0_22 S V hw (Nat.le_of_ble_eq_true rfl) fl_X9_53 dX9_start_1 ?_
  refine lv_sipush (v := 402) hx hb dX9_start_4 (by decide) ?_
  refine lv_iload_n hx hb dX9_start_7 rfl (lv_at hl 1 rfl) ?_
  refine lv_imul hx hb dX9_start_8 ?_
  refine lv_iload_n hx hb dX9_start_9 rfl (lv_at hl 2 rfl) ?_
  refine sM_8 S V hw (Nat.le_of_ble_eq_true rfl) h.1 dX9_start_10 (fun H locs hw => ?_)
  have h := h.2
  refine lv_aload_n hx hb dX9_start_11 rfl (lv_at hl 0 rfl) ?_
  refine gM_0_23 S V hw (Nat.le_of_ble_eq_true rfl) fl_X9_56 dX9_start_12 ?_
  refine lv_iload_n hx hb dX9_start_15 rfl (lv_at hl 1 rfl) ?_
  refine lv_iload_n hx hb dX9_start_16 rfl (lv_at hl 3 rfl) ?_
  refine sM_9 S V hw (Nat.le_of_ble_eq_true rfl) h.1 dX9_start_17 (fun H locs hw => ?_)
  have h := h.2
  refine lv_aload_n hx hb dX9_start_18 rfl (lv_at hl 0 rfl) ?_
  refine gM_0_24 S V hw (Nat.le_of_ble_eq_true rfl) fl_X9_59 dX9_start_19 ?_
  refine lv_iload_n hx hb dX9_start_22 rfl (lv_at hl 1 rfl) ?_
  refine lv_iconst (v := 0) hx hb dX9_start_23 (by decide) ?_
  refine sM_10 S V hw (Nat.le_of_ble_eq_true rfl) h.1 dX9_start_24 (fun H locs hw => ?_)
  have h := h.2
  refine lv_aload_n hx hb dX9_start_25 rfl (lv_at hl 0 rfl) ?_
  refine gM_0_25 S V hw (Nat.le_of_ble_eq_true rfl) fl_X9_62 dX9_start_26 ?_
  refine lv_iload_n hx hb dX9_start_29 rfl (lv_at hl 1 rfl) ?_
  refine lv_iconst (v := 0) hx hb dX9_start_30 (by decide) ?_
  refine sM_11 S V hw (Nat.le_of_ble_eq_true rfl) h.1 dX9_start_31 (fun H locs hw => ?_)
  have h := h.2
  refine lv_aload_n hx hb dX9_start_32 rfl (lv_at hl 0 rfl) ?_
  refine gM_0_26 S V hw (Nat.le_of_ble_eq_true rfl) fl_X9_65 dX9_start_33 ?_
  refine lv_iload_n hx hb dX9_start_36 rfl (lv_at hl 1 rfl) ?_
  refine lv_iconst (v := 0) hx hb dX9_start_37 (by decide) ?_
  refine sM_12 S V hw (Nat.le_of_ble_eq_true rfl) h.1 dX9_start_38 (fun H locs hw => ?_)
  have h := h.2
  exact ret_v S hr hlocks hw h dX9_start_39
theorem mt_X9_start (l : Launch) (D : va_G) (q : ClassId × ClassId × ClassId × ClassId) (ad : Nat → Nat → Nat) (x1 : Int32) (x2 : Int32) (x3 : Int32) (σ : St) (post : St → Prop) (h : wp_X9_start x1 x2 x3 post σ) : cV l D clA LM ad (EM q ad) (EvM D q ad) yX9_start cX9_start 4 none { frames := 0, cells := 0, slots := 0, locals := 0 } [.ref (ad 0 0), .int x1, .int x2, .int x3] σ post :=
  ent_v (by decide) (Nat.le_of_ble_eq_true rfl) (fun p e s m below meth c S V hr hlocks hw ls hl => wk_X9_start_0 S V hr hlocks x1 x2 x3  post   σ _ _ ls h  hw (lv_sub hl [0, 1, 2, 3] rfl))
def wp_X9_leansAt (x1 : Int32) (post : Int32 → St → Prop)  (σ : St) : Prop := (vp_in x1 5 ∧ (vp_in ((402 * x1) + (σ 11 0 x1.toNatClampNeg)) 2010 ∧ post (σ 8 0 (((402 * x1) + (σ 11 0 x1.toNatClampNeg)).toNatClampNeg)) σ))
set_option maxHeartbeats 4000000 in
set_option maxRecDepth 100000 in
theorem wk_X9_leansAt_0 {p : Program} {l : Launch} {e : Env} {s : State} {m : MethodId} {below : List Frame} {meth : Method} {c : Code} {D : va_G} {q : ClassId × ClassId × ClassId × ClassId} {ad : Nat → Nat → Nat} {args : Array Value} (S : CallFix p m c cX9_leansAt 2 s args GW "OnChinModel") (V : EvM D q ad s) (hr : meth.sig.returnType = (some .int)) (hlocks : meth.locks = false) (x1 : Int32) (post : Int32 → St → Prop)  : ∀ (σ : St) (H : Heap) (locs : List Loc) (ls : Array Slot), wp_X9_leansAt x1 post  σ → wo D clA LM ad s.heap H locs (EM q ad σ) → lv_has ls 2 [(0, .ref (ad 0 0)), (1, .int x1)] → W p l e { frames := 0, cells := 0, slots := 0, locals := 0 } s m args below meth c H locs 0 0 (MQ below (zQi D clA LM ad (EM q ad) post) args s 0 0 (zA LM ad)) (F0 m 0 ls []) := by
  have hx := S.1
  have hb := S.2.1
  intro  σ H locs ls h  hw hl
  refine lv_aload_n hx hb dX9_leansAt_0 rfl (lv_at hl 0 rfl) ?_
  refine gM_0_22 S V hw (Nat.le_of_ble_eq_true rfl) fl_X9_53 dX9_leansAt_1 ?_
  refine lv_sipush (v := 402) hx hb dX9_leansAt_4 (by decide) ?_
  refine lv_iload_n hx hb dX9_leansAt_7 rfl (lv_at hl 1 rfl) ?_
  refine lv_imul hx hb dX9_leansAt_8 ?_
  refine lv_aload_n hx hb dX9_leansAt_9 rfl (lv_at hl 0 rfl) ?_
  refine gM_0_25 S V hw (Nat.le_of_ble_eq_true rfl) fl_X9_62 dX9_leansAt_10 ?_
  refine lv_iload_n hx hb dX9_leansAt_13 rfl (lv_at hl 1 rfl) ?_
  refine aM_11 S V hw (Nat.le_of_ble_eq_true rfl) h.1 (z := (σ 11 0 x1.toNatClampNeg)) rfl dX9_leansAt_14 ?_
  have h := h.2
  refine lv_iadd hx hb dX9_leansAt_15 ?_
  refine aM_8 S V hw (Nat.le_of_ble_eq_true rfl) h.1 (z := (σ 8 0 (((402 * x1) + (σ 11 0 x1.toNatClampNeg)).toNatClampNeg))) rfl dX9_leansAt_16 ?_
  have h := h.2
  exact ret_i S hr hlocks hw h dX9_leansAt_17
theorem mt_X9_leansAt (l : Launch) (D : va_G) (q : ClassId × ClassId × ClassId × ClassId) (ad : Nat → Nat → Nat) (x1 : Int32) (σ : St) (post : Int32 → St → Prop) (h : wp_X9_leansAt x1 post σ) : cI l D clA LM ad (EM q ad) (EvM D q ad) yX9_leansAt cX9_leansAt 2 (some .int) { frames := 0, cells := 0, slots := 0, locals := 0 } [.ref (ad 0 0), .int x1] σ post :=
  ent_i (by decide) (Nat.le_of_ble_eq_true rfl) (fun p e s m below meth c S V hr hlocks hw ls hl => wk_X9_leansAt_0 S V hr hlocks x1  post   σ _ _ ls h  hw (lv_sub hl [0, 1] rfl))
def wp_X9_fell_28 (x1 : Int32) (post : Int32 → St → Prop) (xs0 : Int32) (σ : St) : Prop := (narrow .boolean (.int xs0) = .int xs0 ∧ post xs0 σ)
set_option maxHeartbeats 4000000 in
set_option maxRecDepth 100000 in
theorem wk_X9_fell_28 {p : Program} {l : Launch} {e : Env} {s : State} {m : MethodId} {below : List Frame} {meth : Method} {c : Code} {D : va_G} {q : ClassId × ClassId × ClassId × ClassId} {ad : Nat → Nat → Nat} {args : Array Value} (S : CallFix p m c cX9_fell 3 s args GW "OnChinModel") (V : EvM D q ad s) (hr : meth.sig.returnType = (some .boolean)) (hlocks : meth.locks = false) (x1 : Int32) (post : Int32 → St → Prop)  : ∀ (xs0 : Int32) (σ : St) (H : Heap) (locs : List Loc) (ls : Array Slot), wp_X9_fell_28 x1 post xs0 σ → wo D clA LM ad s.heap H locs (EM q ad σ) → lv_has ls 3 [(0, .ref (ad 0 0)), (1, .int x1)] → W p l e { frames := 1, cells := 0, slots := 0, locals := 21 } s m args below meth c H locs 0 0 (MQ below (zQi D clA LM ad (EM q ad) post) args s 0 0 (zA LM ad)) (F0 m 28 ls [.int xs0]) := by
  have hx := S.1
  have hb := S.2.1
  intro xs0 σ H locs ls h  hw hl
  exact ret_z S hr hlocks hw h.1 h.2 dX9_fell_28
def wp_X9_fell_23 (x1 : Int32) (post : Int32 → St → Prop)  (σ : St) : Prop := wp_X9_fell_28 x1 post 1 σ
set_option maxHeartbeats 4000000 in
set_option maxRecDepth 100000 in
theorem wk_X9_fell_23 {p : Program} {l : Launch} {e : Env} {s : State} {m : MethodId} {below : List Frame} {meth : Method} {c : Code} {D : va_G} {q : ClassId × ClassId × ClassId × ClassId} {ad : Nat → Nat → Nat} {args : Array Value} (S : CallFix p m c cX9_fell 3 s args GW "OnChinModel") (V : EvM D q ad s) (hr : meth.sig.returnType = (some .boolean)) (hlocks : meth.locks = false) (x1 : Int32) (post : Int32 → St → Prop)  : ∀ (σ : St) (H : Heap) (locs : List Loc) (ls : Array Slot), wp_X9_fell_23 x1 post  σ → wo D clA LM ad s.heap H locs (EM q ad σ) → lv_has ls 3 [(0, .ref (ad 0 0)), (1, .int x1)] → W p l e { frames := 1, cells := 0, slots := 0, locals := 21 } s m args below meth c H locs 0 0 (MQ below (zQi D clA LM ad (EM q ad) post) args s 0 0 (zA LM ad)) (F0 m 23 ls []) := by
  have hx := S.1
  have hb := S.2.1
  intro  σ H locs ls h  hw hl
  have h : wp_X9_fell_28 x1 post 1 σ := h
  refine lv_iconst (v := 1) hx hb dX9_fell_23 (by decide) ?_
  refine lv_goto (tgt := 28) hx hb dX9_fell_24 (by decide) ?_
  exact wk_X9_fell_28 S V hr hlocks x1   post  1 _ _ _ _ h  hw (lv_sub hl [0, 1] rfl)
def wp_X9_fell (x1 : Int32) (post : Int32 → St → Prop)  (σ : St) : Prop := wp_X9_leansAt x1 (fun r1 σ1 => (((σ1 0 0 15) < r1 → wp_X9_fell_23 x1 post  σ1) ∧ (¬ (σ1 0 0 15) < r1 → (((-(σ1 0 0 15)) ≤ r1 → wp_X9_fell_28 x1 post 0 σ1) ∧ (¬ (-(σ1 0 0 15)) ≤ r1 → wp_X9_fell_23 x1 post  σ1))))) σ
set_option maxHeartbeats 4000000 in
set_option maxRecDepth 100000 in
theorem wk_X9_fell_0 {p : Program} {l : Launch} {e : Env} {s : State} {m : MethodId} {below : List Frame} {meth : Method} {c : Code} {D : va_G} {q : ClassId × ClassId × ClassId × ClassId} {ad : Nat → Nat → Nat} {args : Array Value} (S : CallFix p m c cX9_fell 3 s args GW "OnChinModel") (V : EvM D q ad s) (hr : meth.sig.returnType = (some .boolean)) (hlocks : meth.locks = false) (x1 : Int32) (post : Int32 → St → Prop)  : ∀ (σ : St) (H : Heap) (locs : List Loc) (ls : Array Slot), wp_X9_fell x1 post  σ → wo D clA LM ad s.heap H locs (EM q ad σ) → lv_has ls 3 [(0, .ref (ad 0 0)), (1, .int x1)] → W p l e { frames := 1, cells := 0, slots := 0, locals := 21 } s m args below meth c H locs 0 0 (MQ below (zQi D clA LM ad (EM q ad) post) args s 0 0 (zA LM ad)) (F0 m 0 ls []) := by
  have hx := S.1
  have hb := S.2.1
  intro  σ H locs ls h  hw hl
  have h : wp_X9_leansAt x1 (fun r1 σ1 => (((σ1 0 0 15) < r1 → wp_X9_fell_23 x1 post  σ1) ∧ (¬ (σ1 0 0 15) < r1 → (((-(σ1 0 0 15)) ≤ r1 → wp_X9_fell_28 x1 post 0 σ1) ∧ (¬ (-(σ1 0 0 15)) ≤ r1 → wp_X9_fell_23 x1 post  σ1))))) σ := h
  refine lv_aload_n hx hb dX9_fell_0 rfl (lv_at hl 0 rfl) ?_
  refine lv_iload_n hx hb dX9_fell_1 rfl (lv_at hl 1 rfl) ?_
  refine call_Vi (As := [.int x1]) (rest := []) EvM_ok S V hw (mt_X9_leansAt l D q ad x1  σ _ h) ok_X9_leansAt ml_X9_225 (rM_0 S V hw (Nat.le_of_ble_eq_true rfl)) ⟨(Nat.le_of_ble_eq_true rfl), (Nat.le_of_ble_eq_true rfl)⟩ ⟨rfl, rfl⟩ rfl hl.1 rfl (Nat.le_of_ble_eq_true rfl) dX9_fell_2 (fun r1 σ1 H locs h hw => ?_)
  refine lv_istore_n (lv' := [(2, .int r1), (0, .ref (ad 0 0)), (1, .int x1)]) hx hb dX9_fell_5 rfl hl (by decide) rfl (fun ls hl => ?_)
  refine lv_iload_n hx hb dX9_fell_6 rfl (lv_at hl 0 rfl) ?_
  refine lv_aload_n hx hb dX9_fell_7 rfl (lv_at hl 1 rfl) ?_
  refine gM_0_15 S V hw (Nat.le_of_ble_eq_true rfl) fl_X9_47 rfl dX9_fell_8 ?_
  refine lv_icmp_gt (tgt := 23) hx hb dX9_fell_11 (by decide) (fun hc => ?_) (fun hc => ?_)
  · have h := h.1 hc
    exact wk_X9_fell_23 S V hr hlocks x1   post   _ _ _ _ h  hw (lv_sub hl [1, 2] rfl)
  · have h := h.2 hc
    refine lv_iload_n hx hb dX9_fell_14 rfl (lv_at hl 0 rfl) ?_
    refine lv_aload_n hx hb dX9_fell_15 rfl (lv_at hl 1 rfl) ?_
    refine gM_0_15 S V hw (Nat.le_of_ble_eq_true rfl) fl_X9_47 rfl dX9_fell_16 ?_
    refine lv_ineg hx hb dX9_fell_19 ?_
    refine lv_icmp_ge (tgt := 27) hx hb dX9_fell_20 (by decide) (fun hc => ?_) (fun hc => ?_)
    · have h := h.1 hc
      refine lv_iconst (v := 0) hx hb dX9_fell_27 (by decide) ?_
      exact wk_X9_fell_28 S V hr hlocks x1   post  0 _ _ _ _ h  hw (lv_sub hl [1, 2] rfl)
    · have h := h.2 hc
      exact wk_X9_fell_23 S V hr hlocks x1   post   _ _ _ _ h  hw (lv_sub hl [1, 2] rfl)
theorem mt_X9_fell (l : Launch) (D : va_G) (q : ClassId × ClassId × ClassId × ClassId) (ad : Nat → Nat → Nat) (x1 : Int32) (σ : St) (post : Int32 → St → Prop) (h : wp_X9_fell x1 post σ) : cI l D clA LM ad (EM q ad) (EvM D q ad) yX9_fell cX9_fell 3 (some .boolean) { frames := 1, cells := 0, slots := 0, locals := 21 } [.ref (ad 0 0), .int x1] σ post :=
  ent_i (by decide) (Nat.le_of_ble_eq_true rfl) (fun p e s m below meth c S V hr hlocks hw ls hl => wk_X9_fell_0 S V hr hlocks x1  post   σ _ _ ls h  hw (lv_sub hl [0, 1] rfl))
def wp_X9_minds_71 (x1 : Int32) (x2 : Int32) (post : Int32 → St → Prop) (xs0 : Int32) (σ : St) : Prop := post xs0 σ
set_option maxHeartbeats 4000000 in
set_option maxRecDepth 100000 in
theorem wk_X9_minds_71 {p : Program} {l : Launch} {e : Env} {s : State} {m : MethodId} {below : List Frame} {meth : Method} {c : Code} {D : va_G} {q : ClassId × ClassId × ClassId × ClassId} {ad : Nat → Nat → Nat} {args : Array Value} (S : CallFix p m c cX9_minds 4 s args GW "OnChinModel") (V : EvM D q ad s) (hr : meth.sig.returnType = (some .int)) (hlocks : meth.locks = false) (x1 : Int32) (x2 : Int32) (post : Int32 → St → Prop)  : ∀ (xs0 : Int32) (σ : St) (H : Heap) (locs : List Loc) (ls : Array Slot), wp_X9_minds_71 x1 x2 post xs0 σ → wo D clA LM ad s.heap H locs (EM q ad σ) → lv_has ls 4 [(0, .ref (ad 0 0)), (1, .int x1), (2, .int x2)] → W p l e { frames := 0, cells := 0, slots := 0, locals := 0 } s m args below meth c H locs 0 0 (MQ below (zQi D clA LM ad (EM q ad) post) args s 0 0 (zA LM ad)) (F0 m 71 ls [.int xs0]) := by
  have hx := S.1
  have hb := S.2.1
  intro xs0 σ H locs ls h  hw hl
  exact ret_i S hr hlocks hw h dX9_minds_71
def wp_X9_minds_19 (x1 : Int32) (x2 : Int32) (post : Int32 → St → Prop)  (σ : St) : Prop := ((((((σ 0 0 28) * x1) + ((σ 0 0 29) * (x1 - x2))) / 10) ≤ (σ 0 0 11) → (((-(σ 0 0 11)) ≤ ((((σ 0 0 28) * x1) + ((σ 0 0 29) * (x1 - x2))) / 10) → wp_X9_minds_71 x1 x2 post ((((σ 0 0 28) * x1) + ((σ 0 0 29) * (x1 - x2))) / 10) σ) ∧ (¬ (-(σ 0 0 11)) ≤ ((((σ 0 0 28) * x1) + ((σ 0 0 29) * (x1 - x2))) / 10) → wp_X9_minds_71 x1 x2 post (-(σ 0 0 11)) σ))) ∧ (¬ ((((σ 0 0 28) * x1) + ((σ 0 0 29) * (x1 - x2))) / 10) ≤ (σ 0 0 11) → wp_X9_minds_71 x1 x2 post (σ 0 0 11) σ))
set_option maxHeartbeats 4000000 in
set_option maxRecDepth 100000 in
theorem wk_X9_minds_19 {p : Program} {l : Launch} {e : Env} {s : State} {m : MethodId} {below : List Frame} {meth : Method} {c : Code} {D : va_G} {q : ClassId × ClassId × ClassId × ClassId} {ad : Nat → Nat → Nat} {args : Array Value} (S : CallFix p m c cX9_minds 4 s args GW "OnChinModel") (V : EvM D q ad s) (hr : meth.sig.returnType = (some .int)) (hlocks : meth.locks = false) (x1 : Int32) (x2 : Int32) (post : Int32 → St → Prop)  : ∀ (σ : St) (H : Heap) (locs : List Loc) (ls : Array Slot), wp_X9_minds_19 x1 x2 post  σ → wo D clA LM ad s.heap H locs (EM q ad σ) → lv_has ls 4 [(0, .ref (ad 0 0)), (1, .int x1), (2, .int x2)] → W p l e { frames := 0, cells := 0, slots := 0, locals := 0 } s m args below meth c H locs 0 0 (MQ below (zQi D clA LM ad (EM q ad) post) args s 0 0 (zA LM ad)) (F0 m 19 ls []) := by
  have hx := S.1
  have hb := S.2.1
  intro  σ H locs ls h  hw hl
  refine lv_aload_n hx hb dX9_minds_19 rfl (lv_at hl 0 rfl) ?_
  refine gM_0_28 S V hw (Nat.le_of_ble_eq_true rfl) fl_X9_201 rfl dX9_minds_20 ?_
  refine lv_iload_n hx hb dX9_minds_23 rfl (lv_at hl 1 rfl) ?_
  refine lv_imul hx hb dX9_minds_24 ?_
  refine lv_aload_n hx hb dX9_minds_25 rfl (lv_at hl 0 rfl) ?_
  refine gM_0_29 S V hw (Nat.le_of_ble_eq_true rfl) fl_X9_204 rfl dX9_minds_26 ?_
  refine lv_iload_n hx hb dX9_minds_29 rfl (lv_at hl 1 rfl) ?_
  refine lv_iload_n hx hb dX9_minds_30 rfl (lv_at hl 2 rfl) ?_
  refine lv_isub hx hb dX9_minds_31 ?_
  refine lv_imul hx hb dX9_minds_32 ?_
  refine lv_iadd hx hb dX9_minds_33 ?_
  refine lv_bipush (v := 10) hx hb dX9_minds_34 (by decide) ?_
  refine lv_idiv hx hb dX9_minds_36 (by decide) ?_
  refine lv_istore_n (lv' := [(3, .int ((((σ 0 0 28) * x1) + ((σ 0 0 29) * (x1 - x2))) / 10)), (0, .ref (ad 0 0)), (1, .int x1), (2, .int x2)]) hx hb dX9_minds_37 rfl hl (by decide) rfl (fun ls hl => ?_)
  refine lv_iload_n hx hb dX9_minds_38 rfl (lv_at hl 0 rfl) ?_
  refine lv_aload_n hx hb dX9_minds_39 rfl (lv_at hl 1 rfl) ?_
  refine gM_0_11 S V hw (Nat.le_of_ble_eq_true rfl) fl_X9_38 rfl dX9_minds_40 ?_
  refine lv_icmp_le (tgt := 53) hx hb dX9_minds_43 (by decide) (fun hc => ?_) (fun hc => ?_)
  · have h := h.1 hc
    refine lv_iload_n hx hb dX9_minds_53 rfl (lv_at hl 0 rfl) ?_
    refine lv_aload_n hx hb dX9_minds_54 rfl (lv_at hl 1 rfl) ?_
    refine gM_0_11 S V hw (Nat.le_of_ble_eq_true rfl) fl_X9_38 rfl dX9_minds_55 ?_
    refine lv_ineg hx hb dX9_minds_58 ?_
    refine lv_icmp_ge (tgt := 70) hx hb dX9_minds_59 (by decide) (fun hc => ?_) (fun hc => ?_)
    · have h := h.1 hc
      refine lv_iload_n hx hb dX9_minds_70 rfl (lv_at hl 0 rfl) ?_
      exact wk_X9_minds_71 S V hr hlocks x1 x2   post  ((((σ 0 0 28) * x1) + ((σ 0 0 29) * (x1 - x2))) / 10) _ _ _ _ h  hw (lv_sub hl [1, 2, 3] rfl)
    · have h := h.2 hc
      refine lv_aload_n hx hb dX9_minds_62 rfl (lv_at hl 1 rfl) ?_
      refine gM_0_11 S V hw (Nat.le_of_ble_eq_true rfl) fl_X9_38 rfl dX9_minds_63 ?_
      refine lv_ineg hx hb dX9_minds_66 ?_
      refine lv_goto (tgt := 71) hx hb dX9_minds_67 (by decide) ?_
      exact wk_X9_minds_71 S V hr hlocks x1 x2   post  (-(σ 0 0 11)) _ _ _ _ h  hw (lv_sub hl [1, 2, 3] rfl)
  · have h := h.2 hc
    refine lv_aload_n hx hb dX9_minds_46 rfl (lv_at hl 1 rfl) ?_
    refine gM_0_11 S V hw (Nat.le_of_ble_eq_true rfl) fl_X9_38 rfl dX9_minds_47 ?_
    refine lv_goto (tgt := 71) hx hb dX9_minds_50 (by decide) ?_
    exact wk_X9_minds_71 S V hr hlocks x1 x2   post  (σ 0 0 11) _ _ _ _ h  hw (lv_sub hl [1, 2, 3] rfl)
def wp_X9_minds (x1 : Int32) (x2 : Int32) (post : Int32 → St → Prop)  (σ : St) : Prop := (((σ 0 0 12) ≤ x1 → wp_X9_minds_19 x1 x2 post  σ) ∧ (¬ (σ 0 0 12) ≤ x1 → ((x1 ≤ (-(σ 0 0 12)) → wp_X9_minds_19 x1 x2 post  σ) ∧ (¬ x1 ≤ (-(σ 0 0 12)) → post 0 σ))))
set_option maxHeartbeats 4000000 in
set_option maxRecDepth 100000 in
theorem wk_X9_minds_0 {p : Program} {l : Launch} {e : Env} {s : State} {m : MethodId} {below : List Frame} {meth : Method} {c : Code} {D : va_G} {q : ClassId × ClassId × ClassId × ClassId} {ad : Nat → Nat → Nat} {args : Array Value} (S : CallFix p m c cX9_minds 4 s args GW "OnChinModel") (V : EvM D q ad s) (hr : meth.sig.returnType = (some .int)) (hlocks : meth.locks = false) (x1 : Int32) (x2 : Int32) (post : Int32 → St → Prop)  : ∀ (σ : St) (H : Heap) (locs : List Loc) (ls : Array Slot), wp_X9_minds x1 x2 post  σ → wo D clA LM ad s.heap H locs (EM q ad σ) → lv_has ls 4 [(0, .ref (ad 0 0)), (1, .int x1), (2, .int x2)] → W p l e { frames := 0, cells := 0, slots := 0, locals := 0 } s m args below meth c H locs 0 0 (MQ below (zQi D clA LM ad (EM q ad) post) args s 0 0 (zA LM ad)) (F0 m 0 ls []) := by
  have hx := S.1
  have hb := S.2.1
  intro  σ H locs ls h  hw hl
  refine lv_iload_n hx hb dX9_minds_0 rfl (lv_at hl 1 rfl) ?_
  refine lv_aload_n hx hb dX9_minds_1 rfl (lv_at hl 0 rfl) ?_
  refine gM_0_12 S V hw (Nat.le_of_ble_eq_true rfl) fl_X9_174 rfl dX9_minds_2 ?_
  refine lv_icmp_ge (tgt := 19) hx hb dX9_minds_5 (by decide) (fun hc => ?_) (fun hc => ?_)
  · have h := h.1 hc
    exact wk_X9_minds_19 S V hr hlocks x1 x2   post   _ _ _ _ h  hw (lv_sub hl [0, 1, 2] rfl)
  · have h := h.2 hc
    refine lv_iload_n hx hb dX9_minds_8 rfl (lv_at hl 1 rfl) ?_
    refine lv_aload_n hx hb dX9_minds_9 rfl (lv_at hl 0 rfl) ?_
    refine gM_0_12 S V hw (Nat.le_of_ble_eq_true rfl) fl_X9_174 rfl dX9_minds_10 ?_
    refine lv_ineg hx hb dX9_minds_13 ?_
    refine lv_icmp_le (tgt := 19) hx hb dX9_minds_14 (by decide) (fun hc => ?_) (fun hc => ?_)
    · have h := h.1 hc
      exact wk_X9_minds_19 S V hr hlocks x1 x2   post   _ _ _ _ h  hw (lv_sub hl [0, 1, 2] rfl)
    · have h := h.2 hc
      refine lv_iconst (v := 0) hx hb dX9_minds_17 (by decide) ?_
      exact ret_i S hr hlocks hw h dX9_minds_18
theorem mt_X9_minds (l : Launch) (D : va_G) (q : ClassId × ClassId × ClassId × ClassId) (ad : Nat → Nat → Nat) (x1 : Int32) (x2 : Int32) (σ : St) (post : Int32 → St → Prop) (h : wp_X9_minds x1 x2 post σ) : cI l D clA LM ad (EM q ad) (EvM D q ad) yX9_minds cX9_minds 4 (some .int) { frames := 0, cells := 0, slots := 0, locals := 0 } [.ref (ad 0 0), .int x1, .int x2] σ post :=
  ent_i (by decide) (Nat.le_of_ble_eq_true rfl) (fun p e s m below meth c S V hr hlocks hw ls hl => wk_X9_minds_0 S V hr hlocks x1 x2  post   σ _ _ ls h  hw (lv_sub hl [0, 1, 2] rfl))
def wp_X9_moves_154 (x1 : Int32) (post : Int32 → St → Prop) (xs0 : Int32) (σ : St) : Prop := post xs0 σ
set_option maxHeartbeats 4000000 in
set_option maxRecDepth 100000 in
theorem wk_X9_moves_154 {p : Program} {l : Launch} {e : Env} {s : State} {m : MethodId} {below : List Frame} {meth : Method} {c : Code} {D : va_G} {q : ClassId × ClassId × ClassId × ClassId} {ad : Nat → Nat → Nat} {args : Array Value} (S : CallFix p m c cX9_moves 8 s args GW "OnChinModel") (V : EvM D q ad s) (hr : meth.sig.returnType = (some .int)) (hlocks : meth.locks = false) (x1 : Int32) (post : Int32 → St → Prop)  : ∀ (xs0 : Int32) (σ : St) (H : Heap) (locs : List Loc) (ls : Array Slot), wp_X9_moves_154 x1 post xs0 σ → wo D clA LM ad s.heap H locs (EM q ad σ) → lv_has ls 8 [(0, .ref (ad 0 0)), (1, .int x1)] → W p l e { frames := 1, cells := 0, slots := 0, locals := 23 } s m args below meth c H locs 0 0 (MQ below (zQi D clA LM ad (EM q ad) post) args s 0 0 (zA LM ad)) (F0 m 154 ls [.int xs0]) := by
  have hx := S.1
  have hb := S.2.1
  intro xs0 σ H locs ls h  hw hl
  exact ret_i S hr hlocks hw h dX9_moves_154
def wp_X9_moves_79 (x1 : Int32) (post : Int32 → St → Prop) (x4 : Int32) (xs1 : Int32) (xs2 : Int32) (σ : St) : Prop := (vp_in (xs1 + xs2) 2010 ∧ wp_X9_minds x4 (σ 8 0 ((xs1 + xs2).toNatClampNeg)) (fun r1 σ1 => (vp_in x1 5 ∧ ((((σ1 10 0 x1.toNatClampNeg) + r1) ≤ (σ1 0 0 13) → (((-(σ1 0 0 13)) ≤ ((σ1 10 0 x1.toNatClampNeg) + r1) → wp_X9_moves_154 x1 post r1 σ1) ∧ (¬ (-(σ1 0 0 13)) ≤ ((σ1 10 0 x1.toNatClampNeg) + r1) → (vp_in x1 5 ∧ wp_X9_moves_154 x1 post ((-(σ1 0 0 13)) - (σ1 10 0 x1.toNatClampNeg)) σ1)))) ∧ (¬ ((σ1 10 0 x1.toNatClampNeg) + r1) ≤ (σ1 0 0 13) → (vp_in x1 5 ∧ wp_X9_moves_154 x1 post ((σ1 0 0 13) - (σ1 10 0 x1.toNatClampNeg)) σ1))))) σ)
set_option maxHeartbeats 4000000 in
set_option maxRecDepth 100000 in
theorem wk_X9_moves_79 {p : Program} {l : Launch} {e : Env} {s : State} {m : MethodId} {below : List Frame} {meth : Method} {c : Code} {D : va_G} {q : ClassId × ClassId × ClassId × ClassId} {ad : Nat → Nat → Nat} {args : Array Value} (S : CallFix p m c cX9_moves 8 s args GW "OnChinModel") (V : EvM D q ad s) (hr : meth.sig.returnType = (some .int)) (hlocks : meth.locks = false) (x1 : Int32) (post : Int32 → St → Prop)  : ∀ (x4 : Int32) (xs1 : Int32) (xs2 : Int32) (σ : St) (H : Heap) (locs : List Loc) (ls : Array Slot), wp_X9_moves_79 x1 post x4 xs1 xs2 σ → wo D clA LM ad s.heap H locs (EM q ad σ) → lv_has ls 8 [(0, .ref (ad 0 0)), (1, .int x1), (4, .int x4)] → W p l e { frames := 1, cells := 0, slots := 0, locals := 23 } s m args below meth c H locs 0 0 (MQ below (zQi D clA LM ad (EM q ad) post) args s 0 0 (zA LM ad)) (F0 m 79 ls [.int xs2, .int xs1, .ref (ad 8 0)]) := by
  have hx := S.1
  have hb := S.2.1
  intro x4 xs1 xs2 σ H locs ls h  hw hl
  refine lv_iadd hx hb dX9_moves_79 ?_
  refine aM_8 S V hw (Nat.le_of_ble_eq_true rfl) h.1 (z := (σ 8 0 ((xs1 + xs2).toNatClampNeg))) rfl dX9_moves_80 ?_
  have h := h.2
  refine lv_istore (lv' := [(5, .int (σ 8 0 ((xs1 + xs2).toNatClampNeg))), (0, .ref (ad 0 0)), (1, .int x1), (4, .int x4)]) hx hb dX9_moves_81 hl (by decide) rfl (fun ls hl => ?_)
  refine lv_aload_n hx hb dX9_moves_83 rfl (lv_at hl 1 rfl) ?_
  refine lv_iload hx hb dX9_moves_84 (lv_at hl 3 rfl) ?_
  refine lv_iload hx hb dX9_moves_86 (lv_at hl 0 rfl) ?_
  refine call_Vi (As := [.int x4, .int (σ 8 0 ((xs1 + xs2).toNatClampNeg))]) (rest := []) EvM_ok S V hw (mt_X9_minds l D q ad x4 (σ 8 0 ((xs1 + xs2).toNatClampNeg))  σ _ h) ok_X9_minds ml_X9_228 (rM_0 S V hw (Nat.le_of_ble_eq_true rfl)) ⟨(Nat.le_of_ble_eq_true rfl), (Nat.le_of_ble_eq_true rfl)⟩ ⟨rfl, rfl⟩ rfl hl.1 rfl (Nat.le_of_ble_eq_true rfl) dX9_moves_88 (fun r1 σ1 H locs h hw => ?_)
  refine lv_istore (lv' := [(6, .int r1), (5, .int (σ 8 0 ((xs1 + xs2).toNatClampNeg))), (0, .ref (ad 0 0)), (1, .int x1), (4, .int x4)]) hx hb dX9_moves_91 hl (by decide) rfl (fun ls hl => ?_)
  refine lv_aload_n hx hb dX9_moves_93 rfl (lv_at hl 2 rfl) ?_
  refine gM_0_24 S V hw (Nat.le_of_ble_eq_true rfl) fl_X9_59 dX9_moves_94 ?_
  refine lv_iload_n hx hb dX9_moves_97 rfl (lv_at hl 3 rfl) ?_
  refine aM_10 S V hw (Nat.le_of_ble_eq_true rfl) h.1 (z := (σ1 10 0 x1.toNatClampNeg)) rfl dX9_moves_98 ?_
  have h := h.2
  refine lv_iload hx hb dX9_moves_99 (lv_at hl 0 rfl) ?_
  refine lv_iadd hx hb dX9_moves_101 ?_
  refine lv_istore (lv' := [(7, .int ((σ1 10 0 x1.toNatClampNeg) + r1)), (6, .int r1), (5, .int (σ 8 0 ((xs1 + xs2).toNatClampNeg))), (0, .ref (ad 0 0)), (1, .int x1), (4, .int x4)]) hx hb dX9_moves_102 hl (by decide) rfl (fun ls hl => ?_)
  refine lv_iload hx hb dX9_moves_104 (lv_at hl 0 rfl) ?_
  refine lv_aload_n hx hb dX9_moves_106 rfl (lv_at hl 3 rfl) ?_
  refine gM_0_13 S V hw (Nat.le_of_ble_eq_true rfl) fl_X9_41 rfl dX9_moves_107 ?_
  refine lv_icmp_le (tgt := 127) hx hb dX9_moves_110 (by decide) (fun hc => ?_) (fun hc => ?_)
  · have h := h.1 hc
    refine lv_iload hx hb dX9_moves_127 (lv_at hl 0 rfl) ?_
    refine lv_aload_n hx hb dX9_moves_129 rfl (lv_at hl 3 rfl) ?_
    refine gM_0_13 S V hw (Nat.le_of_ble_eq_true rfl) fl_X9_41 rfl dX9_moves_130 ?_
    refine lv_ineg hx hb dX9_moves_133 ?_
    refine lv_icmp_ge (tgt := 152) hx hb dX9_moves_134 (by decide) (fun hc => ?_) (fun hc => ?_)
    · have h := h.1 hc
      refine lv_iload hx hb dX9_moves_152 (lv_at hl 1 rfl) ?_
      exact wk_X9_moves_154 S V hr hlocks x1   post  r1 _ _ _ _ h  hw (lv_sub hl [3, 4] rfl)
    · have h := h.2 hc
      refine lv_aload_n hx hb dX9_moves_137 rfl (lv_at hl 3 rfl) ?_
      refine gM_0_13 S V hw (Nat.le_of_ble_eq_true rfl) fl_X9_41 rfl dX9_moves_138 ?_
      refine lv_ineg hx hb dX9_moves_141 ?_
      refine lv_aload_n hx hb dX9_moves_142 rfl (lv_at hl 3 rfl) ?_
      refine gM_0_24 S V hw (Nat.le_of_ble_eq_true rfl) fl_X9_59 dX9_moves_143 ?_
      refine lv_iload_n hx hb dX9_moves_146 rfl (lv_at hl 4 rfl) ?_
      refine aM_10 S V hw (Nat.le_of_ble_eq_true rfl) h.1 (z := (σ1 10 0 x1.toNatClampNeg)) rfl dX9_moves_147 ?_
      have h := h.2
      refine lv_isub hx hb dX9_moves_148 ?_
      refine lv_goto (tgt := 154) hx hb dX9_moves_149 (by decide) ?_
      exact wk_X9_moves_154 S V hr hlocks x1   post  ((-(σ1 0 0 13)) - (σ1 10 0 x1.toNatClampNeg)) _ _ _ _ h  hw (lv_sub hl [3, 4] rfl)
  · have h := h.2 hc
    refine lv_aload_n hx hb dX9_moves_113 rfl (lv_at hl 3 rfl) ?_
    refine gM_0_13 S V hw (Nat.le_of_ble_eq_true rfl) fl_X9_41 rfl dX9_moves_114 ?_
    refine lv_aload_n hx hb dX9_moves_117 rfl (lv_at hl 3 rfl) ?_
    refine gM_0_24 S V hw (Nat.le_of_ble_eq_true rfl) fl_X9_59 dX9_moves_118 ?_
    refine lv_iload_n hx hb dX9_moves_121 rfl (lv_at hl 4 rfl) ?_
    refine aM_10 S V hw (Nat.le_of_ble_eq_true rfl) h.1 (z := (σ1 10 0 x1.toNatClampNeg)) rfl dX9_moves_122 ?_
    have h := h.2
    refine lv_isub hx hb dX9_moves_123 ?_
    refine lv_goto (tgt := 154) hx hb dX9_moves_124 (by decide) ?_
    exact wk_X9_moves_154 S V hr hlocks x1   post  ((σ1 0 0 13) - (σ1 10 0 x1.toNatClampNeg)) _ _ _ _ h  hw (lv_sub hl [3, 4] rfl)
def wp_X9_moves_50 (x1 : Int32) (post : Int32 → St → Prop) (x2 : Int32) (x3 : Int32) (xs1 : Int32) (xs2 : Int32) (σ : St) : Prop := (vp_in (xs1 + xs2) 2010 ∧ ((x3 ≤ (x2 + 1) → wp_X9_moves_79 x1 post (σ 8 0 ((xs1 + xs2).toNatClampNeg)) (402 * x1) 0 σ) ∧ (¬ x3 ≤ (x2 + 1) → wp_X9_moves_79 x1 post (σ 8 0 ((xs1 + xs2).toNatClampNeg)) (402 * x1) ((x3 - x2) - 1) σ)))
set_option maxHeartbeats 4000000 in
set_option maxRecDepth 100000 in
theorem wk_X9_moves_50 {p : Program} {l : Launch} {e : Env} {s : State} {m : MethodId} {below : List Frame} {meth : Method} {c : Code} {D : va_G} {q : ClassId × ClassId × ClassId × ClassId} {ad : Nat → Nat → Nat} {args : Array Value} (S : CallFix p m c cX9_moves 8 s args GW "OnChinModel") (V : EvM D q ad s) (hr : meth.sig.returnType = (some .int)) (hlocks : meth.locks = false) (x1 : Int32) (post : Int32 → St → Prop)  : ∀ (x2 : Int32) (x3 : Int32) (xs1 : Int32) (xs2 : Int32) (σ : St) (H : Heap) (locs : List Loc) (ls : Array Slot), wp_X9_moves_50 x1 post x2 x3 xs1 xs2 σ → wo D clA LM ad s.heap H locs (EM q ad σ) → lv_has ls 8 [(0, .ref (ad 0 0)), (1, .int x1), (2, .int x2), (3, .int x3)] → W p l e { frames := 1, cells := 0, slots := 0, locals := 23 } s m args below meth c H locs 0 0 (MQ below (zQi D clA LM ad (EM q ad) post) args s 0 0 (zA LM ad)) (F0 m 50 ls [.int xs2, .int xs1, .ref (ad 8 0)]) := by
  have hx := S.1
  have hb := S.2.1
  intro x2 x3 xs1 xs2 σ H locs ls h  hw hl
  refine lv_iadd hx hb dX9_moves_50 ?_
  refine aM_8 S V hw (Nat.le_of_ble_eq_true rfl) h.1 (z := (σ 8 0 ((xs1 + xs2).toNatClampNeg))) rfl dX9_moves_51 ?_
  have h := h.2
  refine lv_istore (lv' := [(4, .int (σ 8 0 ((xs1 + xs2).toNatClampNeg))), (0, .ref (ad 0 0)), (1, .int x1), (2, .int x2), (3, .int x3)]) hx hb dX9_moves_52 hl (by decide) rfl (fun ls hl => ?_)
  refine lv_aload_n hx hb dX9_moves_54 rfl (lv_at hl 1 rfl) ?_
  refine gM_0_22 S V hw (Nat.le_of_ble_eq_true rfl) fl_X9_53 dX9_moves_55 ?_
  refine lv_sipush (v := 402) hx hb dX9_moves_58 (by decide) ?_
  refine lv_iload_n hx hb dX9_moves_61 rfl (lv_at hl 2 rfl) ?_
  refine lv_imul hx hb dX9_moves_62 ?_
  refine lv_iload_n hx hb dX9_moves_63 rfl (lv_at hl 4 rfl) ?_
  refine lv_iload_n hx hb dX9_moves_64 rfl (lv_at hl 3 rfl) ?_
  refine lv_iconst (v := 1) hx hb dX9_moves_65 (by decide) ?_
  refine lv_iadd hx hb dX9_moves_66 ?_
  refine lv_icmp_le (tgt := 78) hx hb dX9_moves_67 (by decide) (fun hc => ?_) (fun hc => ?_)
  · have h := h.1 hc
    refine lv_iconst (v := 0) hx hb dX9_moves_78 (by decide) ?_
    exact wk_X9_moves_79 S V hr hlocks x1   post  (σ 8 0 ((xs1 + xs2).toNatClampNeg)) (402 * x1) 0 _ _ _ _ h  hw (lv_sub hl [1, 2, 0] rfl)
  · have h := h.2 hc
    refine lv_iload_n hx hb dX9_moves_70 rfl (lv_at hl 4 rfl) ?_
    refine lv_iload_n hx hb dX9_moves_71 rfl (lv_at hl 3 rfl) ?_
    refine lv_isub hx hb dX9_moves_72 ?_
    refine lv_iconst (v := 1) hx hb dX9_moves_73 (by decide) ?_
    refine lv_isub hx hb dX9_moves_74 ?_
    refine lv_goto (tgt := 79) hx hb dX9_moves_75 (by decide) ?_
    exact wk_X9_moves_79 S V hr hlocks x1   post  (σ 8 0 ((xs1 + xs2).toNatClampNeg)) (402 * x1) ((x3 - x2) - 1) _ _ _ _ h  hw (lv_sub hl [1, 2, 0] rfl)
def wp_X9_moves_20 (x1 : Int32) (post : Int32 → St → Prop) (xs0 : Int32) (xs1 : Int32) (σ : St) : Prop := (vp_in x1 5 ∧ (((σ 11 0 x1.toNatClampNeg) ≤ (xs0 + xs1) → wp_X9_moves_50 x1 post (xs0 + xs1) (σ 11 0 x1.toNatClampNeg) (402 * x1) 0 σ) ∧ (¬ (σ 11 0 x1.toNatClampNeg) ≤ (xs0 + xs1) → wp_X9_moves_50 x1 post (xs0 + xs1) (σ 11 0 x1.toNatClampNeg) (402 * x1) ((σ 11 0 x1.toNatClampNeg) - (xs0 + xs1)) σ)))
set_option maxHeartbeats 4000000 in
set_option maxRecDepth 100000 in
theorem wk_X9_moves_20 {p : Program} {l : Launch} {e : Env} {s : State} {m : MethodId} {below : List Frame} {meth : Method} {c : Code} {D : va_G} {q : ClassId × ClassId × ClassId × ClassId} {ad : Nat → Nat → Nat} {args : Array Value} (S : CallFix p m c cX9_moves 8 s args GW "OnChinModel") (V : EvM D q ad s) (hr : meth.sig.returnType = (some .int)) (hlocks : meth.locks = false) (x1 : Int32) (post : Int32 → St → Prop)  : ∀ (xs0 : Int32) (xs1 : Int32) (σ : St) (H : Heap) (locs : List Loc) (ls : Array Slot), wp_X9_moves_20 x1 post xs0 xs1 σ → wo D clA LM ad s.heap H locs (EM q ad σ) → lv_has ls 8 [(0, .ref (ad 0 0)), (1, .int x1)] → W p l e { frames := 1, cells := 0, slots := 0, locals := 23 } s m args below meth c H locs 0 0 (MQ below (zQi D clA LM ad (EM q ad) post) args s 0 0 (zA LM ad)) (F0 m 20 ls [.int xs1, .int xs0]) := by
  have hx := S.1
  have hb := S.2.1
  intro xs0 xs1 σ H locs ls h  hw hl
  refine lv_iadd hx hb dX9_moves_20 ?_
  refine lv_istore_n (lv' := [(2, .int (xs0 + xs1)), (0, .ref (ad 0 0)), (1, .int x1)]) hx hb dX9_moves_21 rfl hl (by decide) rfl (fun ls hl => ?_)
  refine lv_aload_n hx hb dX9_moves_22 rfl (lv_at hl 1 rfl) ?_
  refine gM_0_25 S V hw (Nat.le_of_ble_eq_true rfl) fl_X9_62 dX9_moves_23 ?_
  refine lv_iload_n hx hb dX9_moves_26 rfl (lv_at hl 2 rfl) ?_
  refine aM_11 S V hw (Nat.le_of_ble_eq_true rfl) h.1 (z := (σ 11 0 x1.toNatClampNeg)) rfl dX9_moves_27 ?_
  have h := h.2
  refine lv_istore_n (lv' := [(3, .int (σ 11 0 x1.toNatClampNeg)), (2, .int (xs0 + xs1)), (0, .ref (ad 0 0)), (1, .int x1)]) hx hb dX9_moves_28 rfl hl (by decide) rfl (fun ls hl => ?_)
  refine lv_aload_n hx hb dX9_moves_29 rfl (lv_at hl 2 rfl) ?_
  refine gM_0_22 S V hw (Nat.le_of_ble_eq_true rfl) fl_X9_53 dX9_moves_30 ?_
  refine lv_sipush (v := 402) hx hb dX9_moves_33 (by decide) ?_
  refine lv_iload_n hx hb dX9_moves_36 rfl (lv_at hl 3 rfl) ?_
  refine lv_imul hx hb dX9_moves_37 ?_
  refine lv_iload_n hx hb dX9_moves_38 rfl (lv_at hl 0 rfl) ?_
  refine lv_iload_n hx hb dX9_moves_39 rfl (lv_at hl 1 rfl) ?_
  refine lv_icmp_le (tgt := 49) hx hb dX9_moves_40 (by decide) (fun hc => ?_) (fun hc => ?_)
  · have h := h.1 hc
    refine lv_iconst (v := 0) hx hb dX9_moves_49 (by decide) ?_
    exact wk_X9_moves_50 S V hr hlocks x1   post  (xs0 + xs1) (σ 11 0 x1.toNatClampNeg) (402 * x1) 0 _ _ _ _ h  hw (lv_sub hl [2, 3, 1, 0] rfl)
  · have h := h.2 hc
    refine lv_iload_n hx hb dX9_moves_43 rfl (lv_at hl 0 rfl) ?_
    refine lv_iload_n hx hb dX9_moves_44 rfl (lv_at hl 1 rfl) ?_
    refine lv_isub hx hb dX9_moves_45 ?_
    refine lv_goto (tgt := 50) hx hb dX9_moves_46 (by decide) ?_
    exact wk_X9_moves_50 S V hr hlocks x1   post  (xs0 + xs1) (σ 11 0 x1.toNatClampNeg) (402 * x1) ((σ 11 0 x1.toNatClampNeg) - (xs0 + xs1)) _ _ _ _ h  hw (lv_sub hl [2, 3, 1, 0] rfl)
def wp_X9_moves (x1 : Int32) (post : Int32 → St → Prop)  (σ : St) : Prop := ((¬ (σ 0 0 32) = 3 → wp_X9_moves_20 x1 post (σ 0 0 30) 0 σ) ∧ ((σ 0 0 32) = 3 → wp_X9_moves_20 x1 post (σ 0 0 30) (σ 0 0 33) σ))
set_option maxHeartbeats 4000000 in
set_option maxRecDepth 100000 in
theorem wk_X9_moves_0 {p : Program} {l : Launch} {e : Env} {s : State} {m : MethodId} {below : List Frame} {meth : Method} {c : Code} {D : va_G} {q : ClassId × ClassId × ClassId × ClassId} {ad : Nat → Nat → Nat} {args : Array Value} (S : CallFix p m c cX9_moves 8 s args GW "OnChinModel") (V : EvM D q ad s) (hr : meth.sig.returnType = (some .int)) (hlocks : meth.locks = false) (x1 : Int32) (post : Int32 → St → Prop)  : ∀ (σ : St) (H : Heap) (locs : List Loc) (ls : Array Slot), wp_X9_moves x1 post  σ → wo D clA LM ad s.heap H locs (EM q ad σ) → lv_has ls 8 [(0, .ref (ad 0 0)), (1, .int x1)] → W p l e { frames := 1, cells := 0, slots := 0, locals := 23 } s m args below meth c H locs 0 0 (MQ below (zQi D clA LM ad (EM q ad) post) args s 0 0 (zA LM ad)) (F0 m 0 ls []) := by
  have hx := S.1
  have hb := S.2.1
  intro  σ H locs ls h  hw hl
  refine lv_aload_n hx hb dX9_moves_0 rfl (lv_at hl 0 rfl) ?_
  refine gM_0_30 S V hw (Nat.le_of_ble_eq_true rfl) fl_X9_207 rfl dX9_moves_1 ?_
  refine lv_aload_n hx hb dX9_moves_4 rfl (lv_at hl 0 rfl) ?_
  refine gM_0_32 S V hw (Nat.le_of_ble_eq_true rfl) fl_X9_216 rfl dX9_moves_5 ?_
  refine lv_iconst (v := 3) hx hb dX9_moves_8 (by decide) ?_
  refine lv_icmp_ne (tgt := 19) hx hb dX9_moves_9 (by decide) (fun hc => ?_) (fun hc => ?_)
  · have h := h.1 hc
    refine lv_iconst (v := 0) hx hb dX9_moves_19 (by decide) ?_
    exact wk_X9_moves_20 S V hr hlocks x1   post  (σ 0 0 30) 0 _ _ _ _ h  hw (lv_sub hl [0, 1] rfl)
  · have h := h.2 hc
    refine lv_aload_n hx hb dX9_moves_12 rfl (lv_at hl 0 rfl) ?_
    refine gM_0_33 S V hw (Nat.le_of_ble_eq_true rfl) fl_X9_219 rfl dX9_moves_13 ?_
    refine lv_goto (tgt := 20) hx hb dX9_moves_16 (by decide) ?_
    exact wk_X9_moves_20 S V hr hlocks x1   post  (σ 0 0 30) (σ 0 0 33) _ _ _ _ h  hw (lv_sub hl [0, 1] rfl)
theorem mt_X9_moves (l : Launch) (D : va_G) (q : ClassId × ClassId × ClassId × ClassId) (ad : Nat → Nat → Nat) (x1 : Int32) (σ : St) (post : Int32 → St → Prop) (h : wp_X9_moves x1 post σ) : cI l D clA LM ad (EM q ad) (EvM D q ad) yX9_moves cX9_moves 8 (some .int) { frames := 1, cells := 0, slots := 0, locals := 23 } [.ref (ad 0 0), .int x1] σ post :=
  ent_i (by decide) (Nat.le_of_ble_eq_true rfl) (fun p e s m below meth c S V hr hlocks hw ls hl => wk_X9_moves_0 S V hr hlocks x1  post   σ _ _ ls h  hw (lv_sub hl [0, 1] rfl))
def wp_X9_tick_127 (x1 : Int32) (x2 : Int32) (x3 : Int32) (post : St → Prop) (x4 : Int32) (x5 : Int32) (x6 : Int32) (xs0 : Int32) (xs1 : Int32) (σ : St) : Prop := (vp_in x1 5 ∧ (vp_in x1 5 ∧ (vp_in x1 5 ∧ (vp_in x1 5 ∧ (vp_in x1 5 ∧ (vp_in x1 5 ∧ (vp_in x1 5 ∧ (vp_in x1 5 ∧ (vp_in ((402 * x1) + ((σ 11 0 x1.toNatClampNeg) + 1)) 2010 ∧ post (su (su (su (su (su σ 9 0 x1.toNatClampNeg ((x5 + (xs0 + xs1)) + x3)) 10 0 x1.toNatClampNeg ((σ 10 0 x1.toNatClampNeg) + x6)) 12 0 x1.toNatClampNeg x6) 11 0 x1.toNatClampNeg ((σ 11 0 x1.toNatClampNeg) + 1)) 8 0 (((402 * x1) + ((σ 11 0 x1.toNatClampNeg) + 1)).toNatClampNeg) ((x4 + ((x5 + (xs0 + xs1)) + x3)) - x6)))))))))))
set_option maxHeartbeats 4000000 in
set_option maxRecDepth 100000 in
theorem wk_X9_tick_127 {p : Program} {l : Launch} {e : Env} {s : State} {m : MethodId} {below : List Frame} {meth : Method} {c : Code} {D : va_G} {q : ClassId × ClassId × ClassId × ClassId} {ad : Nat → Nat → Nat} {args : Array Value} (S : CallFix p m c cX9_tick 9 s args GW "OnChinModel") (V : EvM D q ad s) (hr : meth.sig.returnType = none) (hlocks : meth.locks = false) (x1 : Int32) (x2 : Int32) (x3 : Int32) (post : St → Prop)  : ∀ (x4 : Int32) (x5 : Int32) (x6 : Int32) (xs0 : Int32) (xs1 : Int32) (σ : St) (H : Heap) (locs : List Loc) (ls : Array Slot), wp_X9_tick_127 x1 x2 x3 post x4 x5 x6 xs0 xs1 σ → wo D clA LM ad s.heap H locs (EM q ad σ) → lv_has ls 9 [(0, .ref (ad 0 0)), (1, .int x1), (2, .int x2), (3, .int x3), (4, .int x4), (5, .int x5), (6, .int x6)] → W p l e { frames := 2, cells := 0, slots := 0, locals := 50 } s m args below meth c H locs 0 0 (MQ below (zQv D clA LM ad (EM q ad) post) args s 0 0 (zA LM ad)) (F0 m 127 ls [.int xs1, .int xs0]) := by
  have hx := S.1
  have hb := S.2.1
  intro x4 x5 x6 xs0 xs1 σ H locs ls h  hw hl
  refine lv_iadd hx hb dX9_tick_127 ?_
  refine lv_istore (lv' := [(8, .int (xs0 + xs1)), (0, .ref (ad 0 0)), (1, .int x1), (2, .int x2), (3, .int x3), (4, .int x4), (5, .int x5), (6, .int x6)]) hx hb dX9_tick_128 hl (by decide) rfl (fun ls hl => ?_)
  refine lv_aload_n hx hb dX9_tick_130 rfl (lv_at hl 1 rfl) ?_
  refine gM_0_23 S V hw (Nat.le_of_ble_eq_true rfl) fl_X9_56 dX9_tick_131 ?_
  refine lv_iload_n hx hb dX9_tick_134 rfl (lv_at hl 2 rfl) ?_
  refine lv_iload hx hb dX9_tick_135 (lv_at hl 6 rfl) ?_
  refine lv_iload hx hb dX9_tick_137 (lv_at hl 0 rfl) ?_
  refine lv_iadd hx hb dX9_tick_139 ?_
  refine lv_iload_n hx hb dX9_tick_140 rfl (lv_at hl 4 rfl) ?_
  refine lv_iadd hx hb dX9_tick_141 ?_
  refine sM_9 S V hw (Nat.le_of_ble_eq_true rfl) h.1 dX9_tick_142 (fun H locs hw => ?_)
  have h := h.2
  refine lv_aload_n hx hb dX9_tick_143 rfl (lv_at hl 1 rfl) ?_
  refine gM_0_24 S V hw (Nat.le_of_ble_eq_true rfl) fl_X9_59 dX9_tick_144 ?_
  refine lv_iload_n hx hb dX9_tick_147 rfl (lv_at hl 2 rfl) ?_
  refine lv_dup2_11 hx hb dX9_tick_148 rfl rfl ?_
  refine aM_10 S V hw (Nat.le_of_ble_eq_true rfl) h.1 (z := (σ 10 0 x1.toNatClampNeg)) (su_nc rfl) dX9_tick_149 ?_
  have h := h.2
  refine lv_iload hx hb dX9_tick_150 (lv_at hl 7 rfl) ?_
  refine lv_iadd hx hb dX9_tick_152 ?_
  refine sM_10 S V hw (Nat.le_of_ble_eq_true rfl) h.1 dX9_tick_153 (fun H locs hw => ?_)
  have h := h.2
  refine lv_aload_n hx hb dX9_tick_154 rfl (lv_at hl 1 rfl) ?_
  refine gM_0_26 S V hw (Nat.le_of_ble_eq_true rfl) fl_X9_65 dX9_tick_155 ?_
  refine lv_iload_n hx hb dX9_tick_158 rfl (lv_at hl 2 rfl) ?_
  refine lv_iload hx hb dX9_tick_159 (lv_at hl 7 rfl) ?_
  refine sM_12 S V hw (Nat.le_of_ble_eq_true rfl) h.1 dX9_tick_161 (fun H locs hw => ?_)
  have h := h.2
  refine lv_aload_n hx hb dX9_tick_162 rfl (lv_at hl 1 rfl) ?_
  refine gM_0_25 S V hw (Nat.le_of_ble_eq_true rfl) fl_X9_62 dX9_tick_163 ?_
  refine lv_iload_n hx hb dX9_tick_166 rfl (lv_at hl 2 rfl) ?_
  refine lv_dup2_11 hx hb dX9_tick_167 rfl rfl ?_
  refine aM_11 S V hw (Nat.le_of_ble_eq_true rfl) h.1 (z := (σ 11 0 x1.toNatClampNeg)) ((su_nc rfl).trans ((su_nc rfl).trans (su_nc rfl))) dX9_tick_168 ?_
  have h := h.2
  refine lv_iconst (v := 1) hx hb dX9_tick_169 (by decide) ?_
  refine lv_iadd hx hb dX9_tick_170 ?_
  refine sM_11 S V hw (Nat.le_of_ble_eq_true rfl) h.1 dX9_tick_171 (fun H locs hw => ?_)
  have h := h.2
  refine lv_aload_n hx hb dX9_tick_172 rfl (lv_at hl 1 rfl) ?_
  refine gM_0_22 S V hw (Nat.le_of_ble_eq_true rfl) fl_X9_53 dX9_tick_173 ?_
  refine lv_sipush (v := 402) hx hb dX9_tick_176 (by decide) ?_
  refine lv_iload_n hx hb dX9_tick_179 rfl (lv_at hl 2 rfl) ?_
  refine lv_imul hx hb dX9_tick_180 ?_
  refine lv_aload_n hx hb dX9_tick_181 rfl (lv_at hl 1 rfl) ?_
  refine gM_0_25 S V hw (Nat.le_of_ble_eq_true rfl) fl_X9_62 dX9_tick_182 ?_
  refine lv_iload_n hx hb dX9_tick_185 rfl (lv_at hl 2 rfl) ?_
  refine aM_11 S V hw (Nat.le_of_ble_eq_true rfl) h.1 (z := ((σ 11 0 x1.toNatClampNeg) + 1)) su_eq dX9_tick_186 ?_
  have h := h.2
  refine lv_iadd hx hb dX9_tick_187 ?_
  refine lv_iload hx hb dX9_tick_188 (lv_at hl 5 rfl) ?_
  refine lv_aload_n hx hb dX9_tick_190 rfl (lv_at hl 1 rfl) ?_
  refine gM_0_23 S V hw (Nat.le_of_ble_eq_true rfl) fl_X9_56 dX9_tick_191 ?_
  refine lv_iload_n hx hb dX9_tick_194 rfl (lv_at hl 2 rfl) ?_
  refine aM_9 S V hw (Nat.le_of_ble_eq_true rfl) h.1 (z := ((x5 + (xs0 + xs1)) + x3)) ((su_nc rfl).trans ((su_nc rfl).trans ((su_nc rfl).trans su_eq))) dX9_tick_195 ?_
  have h := h.2
  refine lv_iadd hx hb dX9_tick_196 ?_
  refine lv_iload hx hb dX9_tick_197 (lv_at hl 7 rfl) ?_
  refine lv_isub hx hb dX9_tick_199 ?_
  refine sM_8 S V hw (Nat.le_of_ble_eq_true rfl) h.1 dX9_tick_200 (fun H locs hw => ?_)
  have h := h.2
  exact ret_v S hr hlocks hw h dX9_tick_201
def wp_X9_tick_100 (x1 : Int32) (x2 : Int32) (x3 : Int32) (post : St → Prop) (x4 : Int32) (x5 : Int32) (x6 : Int32) (xs0 : Int32) (xs1 : Int32) (σ : St) : Prop := ((¬ (σ 0 0 32) = 2 → wp_X9_tick_127 x1 x2 x3 post x4 x5 x6 (xs0 - xs1) 0 σ) ∧ ((σ 0 0 32) = 2 → wp_X9_tick_127 x1 x2 x3 post x4 x5 x6 (xs0 - xs1) ((x5 * (σ 0 0 33)) / 20) σ))
set_option maxHeartbeats 4000000 in
set_option maxRecDepth 100000 in
theorem wk_X9_tick_100 {p : Program} {l : Launch} {e : Env} {s : State} {m : MethodId} {below : List Frame} {meth : Method} {c : Code} {D : va_G} {q : ClassId × ClassId × ClassId × ClassId} {ad : Nat → Nat → Nat} {args : Array Value} (S : CallFix p m c cX9_tick 9 s args GW "OnChinModel") (V : EvM D q ad s) (hr : meth.sig.returnType = none) (hlocks : meth.locks = false) (x1 : Int32) (x2 : Int32) (x3 : Int32) (post : St → Prop)  : ∀ (x4 : Int32) (x5 : Int32) (x6 : Int32) (xs0 : Int32) (xs1 : Int32) (σ : St) (H : Heap) (locs : List Loc) (ls : Array Slot), wp_X9_tick_100 x1 x2 x3 post x4 x5 x6 xs0 xs1 σ → wo D clA LM ad s.heap H locs (EM q ad σ) → lv_has ls 9 [(0, .ref (ad 0 0)), (1, .int x1), (2, .int x2), (3, .int x3), (4, .int x4), (5, .int x5), (6, .int x6)] → W p l e { frames := 2, cells := 0, slots := 0, locals := 50 } s m args below meth c H locs 0 0 (MQ below (zQv D clA LM ad (EM q ad) post) args s 0 0 (zA LM ad)) (F0 m 100 ls [.int xs1, .int xs0]) := by
  have hx := S.1
  have hb := S.2.1
  intro x4 x5 x6 xs0 xs1 σ H locs ls h  hw hl
  refine lv_isub hx hb dX9_tick_100 ?_
  refine lv_istore (lv' := [(8, .int (xs0 - xs1)), (0, .ref (ad 0 0)), (1, .int x1), (2, .int x2), (3, .int x3), (4, .int x4), (5, .int x5), (6, .int x6)]) hx hb dX9_tick_101 hl (by decide) rfl (fun ls hl => ?_)
  refine lv_iload hx hb dX9_tick_103 (lv_at hl 0 rfl) ?_
  refine lv_aload_n hx hb dX9_tick_105 rfl (lv_at hl 1 rfl) ?_
  refine gM_0_32 S V hw (Nat.le_of_ble_eq_true rfl) fl_X9_216 rfl dX9_tick_106 ?_
  refine lv_iconst (v := 2) hx hb dX9_tick_109 (by decide) ?_
  refine lv_icmp_ne (tgt := 126) hx hb dX9_tick_110 (by decide) (fun hc => ?_) (fun hc => ?_)
  · have h := h.1 hc
    refine lv_iconst (v := 0) hx hb dX9_tick_126 (by decide) ?_
    exact wk_X9_tick_127 S V hr hlocks x1 x2 x3   post  x4 x5 x6 (xs0 - xs1) 0 _ _ _ _ h  hw (lv_sub hl [1, 2, 3, 4, 5, 6, 7] rfl)
  · have h := h.2 hc
    refine lv_iload hx hb dX9_tick_113 (lv_at hl 6 rfl) ?_
    refine lv_aload_n hx hb dX9_tick_115 rfl (lv_at hl 1 rfl) ?_
    refine gM_0_33 S V hw (Nat.le_of_ble_eq_true rfl) fl_X9_219 rfl dX9_tick_116 ?_
    refine lv_imul hx hb dX9_tick_119 ?_
    refine lv_bipush (v := 20) hx hb dX9_tick_120 (by decide) ?_
    refine lv_idiv hx hb dX9_tick_122 (by decide) ?_
    refine lv_goto (tgt := 127) hx hb dX9_tick_123 (by decide) ?_
    exact wk_X9_tick_127 S V hr hlocks x1 x2 x3   post  x4 x5 x6 (xs0 - xs1) ((x5 * (σ 0 0 33)) / 20) _ _ _ _ h  hw (lv_sub hl [1, 2, 3, 4, 5, 6, 7] rfl)
def wp_X9_tick_62 (x1 : Int32) (x2 : Int32) (x3 : Int32) (post : St → Prop) (x4 : Int32) (x5 : Int32) (x6 : Int32) (xs0 : Int32) (σ : St) : Prop := (¬ (σ 0 0 34) = 0 ∧ ((¬ (σ 0 0 32) = 1 → wp_X9_tick_100 x1 x2 x3 post x4 x5 x6 ((x4 * xs0) / (σ 0 0 34)) 0 σ) ∧ ((σ 0 0 32) = 1 → wp_X9_tick_100 x1 x2 x3 post x4 x5 x6 ((x4 * xs0) / (σ 0 0 34)) ((x4 * (σ 0 0 33)) / 10) σ)))
set_option maxHeartbeats 4000000 in
set_option maxRecDepth 100000 in
theorem wk_X9_tick_62 {p : Program} {l : Launch} {e : Env} {s : State} {m : MethodId} {below : List Frame} {meth : Method} {c : Code} {D : va_G} {q : ClassId × ClassId × ClassId × ClassId} {ad : Nat → Nat → Nat} {args : Array Value} (S : CallFix p m c cX9_tick 9 s args GW "OnChinModel") (V : EvM D q ad s) (hr : meth.sig.returnType = none) (hlocks : meth.locks = false) (x1 : Int32) (x2 : Int32) (x3 : Int32) (post : St → Prop)  : ∀ (x4 : Int32) (x5 : Int32) (x6 : Int32) (xs0 : Int32) (σ : St) (H : Heap) (locs : List Loc) (ls : Array Slot), wp_X9_tick_62 x1 x2 x3 post x4 x5 x6 xs0 σ → wo D clA LM ad s.heap H locs (EM q ad σ) → lv_has ls 9 [(0, .ref (ad 0 0)), (1, .int x1), (2, .int x2), (3, .int x3), (4, .int x4), (5, .int x5), (6, .int x6)] → W p l e { frames := 2, cells := 0, slots := 0, locals := 50 } s m args below meth c H locs 0 0 (MQ below (zQv D clA LM ad (EM q ad) post) args s 0 0 (zA LM ad)) (F0 m 62 ls [.int xs0]) := by
  have hx := S.1
  have hb := S.2.1
  intro x4 x5 x6 xs0 σ H locs ls h  hw hl
  refine lv_istore (lv' := [(7, .int xs0), (0, .ref (ad 0 0)), (1, .int x1), (2, .int x2), (3, .int x3), (4, .int x4), (5, .int x5), (6, .int x6)]) hx hb dX9_tick_62 hl (by decide) rfl (fun ls hl => ?_)
  refine lv_iload hx hb dX9_tick_64 (lv_at hl 5 rfl) ?_
  refine lv_iload hx hb dX9_tick_66 (lv_at hl 0 rfl) ?_
  refine lv_imul hx hb dX9_tick_68 ?_
  refine lv_aload_n hx hb dX9_tick_69 rfl (lv_at hl 1 rfl) ?_
  refine gM_0_34 S V hw (Nat.le_of_ble_eq_true rfl) fl_X9_222 rfl dX9_tick_70 ?_
  refine lv_idiv hx hb dX9_tick_73 h.1 ?_
  have h := h.2
  refine lv_istore (lv' := [(8, .int ((x4 * xs0) / (σ 0 0 34))), (7, .int xs0), (0, .ref (ad 0 0)), (1, .int x1), (2, .int x2), (3, .int x3), (4, .int x4), (5, .int x5), (6, .int x6)]) hx hb dX9_tick_74 hl (by decide) rfl (fun ls hl => ?_)
  refine lv_iload hx hb dX9_tick_76 (lv_at hl 0 rfl) ?_
  refine lv_aload_n hx hb dX9_tick_78 rfl (lv_at hl 2 rfl) ?_
  refine gM_0_32 S V hw (Nat.le_of_ble_eq_true rfl) fl_X9_216 rfl dX9_tick_79 ?_
  refine lv_iconst (v := 1) hx hb dX9_tick_82 (by decide) ?_
  refine lv_icmp_ne (tgt := 99) hx hb dX9_tick_83 (by decide) (fun hc => ?_) (fun hc => ?_)
  · have h := h.1 hc
    refine lv_iconst (v := 0) hx hb dX9_tick_99 (by decide) ?_
    exact wk_X9_tick_100 S V hr hlocks x1 x2 x3   post  x4 x5 x6 ((x4 * xs0) / (σ 0 0 34)) 0 _ _ _ _ h  hw (lv_sub hl [2, 3, 4, 5, 6, 7, 8] rfl)
  · have h := h.2 hc
    refine lv_iload hx hb dX9_tick_86 (lv_at hl 6 rfl) ?_
    refine lv_aload_n hx hb dX9_tick_88 rfl (lv_at hl 2 rfl) ?_
    refine gM_0_33 S V hw (Nat.le_of_ble_eq_true rfl) fl_X9_219 rfl dX9_tick_89 ?_
    refine lv_imul hx hb dX9_tick_92 ?_
    refine lv_bipush (v := 10) hx hb dX9_tick_93 (by decide) ?_
    refine lv_idiv hx hb dX9_tick_95 (by decide) ?_
    refine lv_goto (tgt := 100) hx hb dX9_tick_96 (by decide) ?_
    exact wk_X9_tick_100 S V hr hlocks x1 x2 x3   post  x4 x5 x6 ((x4 * xs0) / (σ 0 0 34)) ((x4 * (σ 0 0 33)) / 10) _ _ _ _ h  hw (lv_sub hl [2, 3, 4, 5, 6, 7, 8] rfl)
def wp_X9_tick_28 (x1 : Int32) (x2 : Int32) (x3 : Int32) (post : St → Prop) (x4 : Int32) (x5 : Int32) (xs0 : Int32) (σ : St) : Prop := (vp_in x1 5 ∧ ((¬ ((σ 11 0 x1.toNatClampNeg) - (σ 11 0 x1.toNatClampNeg) / 2 * 2) = 0 → wp_X9_tick_62 x1 x2 x3 post x4 x5 xs0 ((σ 0 0 14) - (σ 0 0 31)) σ) ∧ (((σ 11 0 x1.toNatClampNeg) - (σ 11 0 x1.toNatClampNeg) / 2 * 2) = 0 → wp_X9_tick_62 x1 x2 x3 post x4 x5 xs0 ((σ 0 0 14) + (σ 0 0 31)) σ)))
set_option maxHeartbeats 4000000 in
set_option maxRecDepth 100000 in
theorem wk_X9_tick_28 {p : Program} {l : Launch} {e : Env} {s : State} {m : MethodId} {below : List Frame} {meth : Method} {c : Code} {D : va_G} {q : ClassId × ClassId × ClassId × ClassId} {ad : Nat → Nat → Nat} {args : Array Value} (S : CallFix p m c cX9_tick 9 s args GW "OnChinModel") (V : EvM D q ad s) (hr : meth.sig.returnType = none) (hlocks : meth.locks = false) (x1 : Int32) (x2 : Int32) (x3 : Int32) (post : St → Prop)  : ∀ (x4 : Int32) (x5 : Int32) (xs0 : Int32) (σ : St) (H : Heap) (locs : List Loc) (ls : Array Slot), wp_X9_tick_28 x1 x2 x3 post x4 x5 xs0 σ → wo D clA LM ad s.heap H locs (EM q ad σ) → lv_has ls 9 [(0, .ref (ad 0 0)), (1, .int x1), (2, .int x2), (3, .int x3), (4, .int x4), (5, .int x5)] → W p l e { frames := 2, cells := 0, slots := 0, locals := 50 } s m args below meth c H locs 0 0 (MQ below (zQv D clA LM ad (EM q ad) post) args s 0 0 (zA LM ad)) (F0 m 28 ls [.int xs0]) := by
  have hx := S.1
  have hb := S.2.1
  intro x4 x5 xs0 σ H locs ls h  hw hl
  refine lv_istore (lv' := [(6, .int xs0), (0, .ref (ad 0 0)), (1, .int x1), (2, .int x2), (3, .int x3), (4, .int x4), (5, .int x5)]) hx hb dX9_tick_28 hl (by decide) rfl (fun ls hl => ?_)
  refine lv_aload_n hx hb dX9_tick_30 rfl (lv_at hl 1 rfl) ?_
  refine gM_0_25 S V hw (Nat.le_of_ble_eq_true rfl) fl_X9_62 dX9_tick_31 ?_
  refine lv_iload_n hx hb dX9_tick_34 rfl (lv_at hl 2 rfl) ?_
  refine aM_11 S V hw (Nat.le_of_ble_eq_true rfl) h.1 (z := (σ 11 0 x1.toNatClampNeg)) rfl dX9_tick_35 ?_
  have h := h.2
  refine lv_iconst (v := 2) hx hb dX9_tick_36 (by decide) ?_
  refine lv_irem hx hb dX9_tick_37 (by decide) ?_
  refine lv_if_ne (tgt := 53) hx hb dX9_tick_38 (by decide) (fun hc => ?_) (fun hc => ?_)
  · have h := h.1 hc
    refine lv_aload_n hx hb dX9_tick_53 rfl (lv_at hl 1 rfl) ?_
    refine gM_0_14 S V hw (Nat.le_of_ble_eq_true rfl) fl_X9_44 rfl dX9_tick_54 ?_
    refine lv_aload_n hx hb dX9_tick_57 rfl (lv_at hl 1 rfl) ?_
    refine gM_0_31 S V hw (Nat.le_of_ble_eq_true rfl) fl_X9_210 rfl dX9_tick_58 ?_
    refine lv_isub hx hb dX9_tick_61 ?_
    exact wk_X9_tick_62 S V hr hlocks x1 x2 x3   post  x4 x5 xs0 ((σ 0 0 14) - (σ 0 0 31)) _ _ _ _ h  hw (lv_sub hl [1, 2, 3, 4, 5, 6, 0] rfl)
  · have h := h.2 hc
    refine lv_aload_n hx hb dX9_tick_41 rfl (lv_at hl 1 rfl) ?_
    refine gM_0_14 S V hw (Nat.le_of_ble_eq_true rfl) fl_X9_44 rfl dX9_tick_42 ?_
    refine lv_aload_n hx hb dX9_tick_45 rfl (lv_at hl 1 rfl) ?_
    refine gM_0_31 S V hw (Nat.le_of_ble_eq_true rfl) fl_X9_210 rfl dX9_tick_46 ?_
    refine lv_iadd hx hb dX9_tick_49 ?_
    refine lv_goto (tgt := 62) hx hb dX9_tick_50 (by decide) ?_
    exact wk_X9_tick_62 S V hr hlocks x1 x2 x3   post  x4 x5 xs0 ((σ 0 0 14) + (σ 0 0 31)) _ _ _ _ h  hw (lv_sub hl [1, 2, 3, 4, 5, 6, 0] rfl)
def wp_X9_tick (x1 : Int32) (x2 : Int32) (x3 : Int32) (post : St → Prop)  (σ : St) : Prop := wp_X9_leansAt x1 (fun r1 σ1 => (vp_in x1 5 ∧ ((x2 = 0 → wp_X9_tick_28 x1 x2 x3 post r1 (σ1 9 0 x1.toNatClampNeg) 0 σ1) ∧ (¬ x2 = 0 → wp_X9_moves x1 (fun r2 σ2 => wp_X9_tick_28 x1 x2 x3 post r1 (σ1 9 0 x1.toNatClampNeg) r2 σ2) σ1)))) σ
set_option maxHeartbeats 4000000 in
set_option maxRecDepth 100000 in
theorem wk_X9_tick_0 {p : Program} {l : Launch} {e : Env} {s : State} {m : MethodId} {below : List Frame} {meth : Method} {c : Code} {D : va_G} {q : ClassId × ClassId × ClassId × ClassId} {ad : Nat → Nat → Nat} {args : Array Value} (S : CallFix p m c cX9_tick 9 s args GW "OnChinModel") (V : EvM D q ad s) (hr : meth.sig.returnType = none) (hlocks : meth.locks = false) (x1 : Int32) (x2 : Int32) (x3 : Int32) (post : St → Prop)  : ∀ (σ : St) (H : Heap) (locs : List Loc) (ls : Array Slot), wp_X9_tick x1 x2 x3 post  σ → wo D clA LM ad s.heap H locs (EM q ad σ) → lv_has ls 9 [(0, .ref (ad 0 0)), (1, .int x1), (2, .int x2), (3, .int x3)] → W p l e { frames := 2, cells := 0, slots := 0, locals := 50 } s m args below meth c H locs 0 0 (MQ below (zQv D clA LM ad (EM q ad) post) args s 0 0 (zA LM ad)) (F0 m 0 ls []) := by
  have hx := S.1
  have hb := S.2.1
  intro  σ H locs ls h  hw hl
  have h : wp_X9_leansAt x1 (fun r1 σ1 => (vp_in x1 5 ∧ ((x2 = 0 → wp_X9_tick_28 x1 x2 x3 post r1 (σ1 9 0 x1.toNatClampNeg) 0 σ1) ∧ (¬ x2 = 0 → wp_X9_moves x1 (fun r2 σ2 => wp_X9_tick_28 x1 x2 x3 post r1 (σ1 9 0 x1.toNatClampNeg) r2 σ2) σ1)))) σ := h
  refine lv_aload_n hx hb dX9_tick_0 rfl (lv_at hl 0 rfl) ?_
  refine lv_iload_n hx hb dX9_tick_1 rfl (lv_at hl 1 rfl) ?_
  refine call_Vi (As := [.int x1]) (rest := []) EvM_ok S V hw (mt_X9_leansAt l D q ad x1  σ _ h) ok_X9_leansAt ml_X9_225 (rM_0 S V hw (Nat.le_of_ble_eq_true rfl)) ⟨(Nat.le_of_ble_eq_true rfl), (Nat.le_of_ble_eq_true rfl)⟩ ⟨rfl, rfl⟩ rfl hl.1 rfl (Nat.le_of_ble_eq_true rfl) dX9_tick_2 (fun r1 σ1 H locs h hw => ?_)
  refine lv_istore (lv' := [(4, .int r1), (0, .ref (ad 0 0)), (1, .int x1), (2, .int x2), (3, .int x3)]) hx hb dX9_tick_5 hl (by decide) rfl (fun ls hl => ?_)
  refine lv_aload_n hx hb dX9_tick_7 rfl (lv_at hl 1 rfl) ?_
  refine gM_0_23 S V hw (Nat.le_of_ble_eq_true rfl) fl_X9_56 dX9_tick_8 ?_
  refine lv_iload_n hx hb dX9_tick_11 rfl (lv_at hl 2 rfl) ?_
  refine aM_9 S V hw (Nat.le_of_ble_eq_true rfl) h.1 (z := (σ1 9 0 x1.toNatClampNeg)) rfl dX9_tick_12 ?_
  have h := h.2
  refine lv_istore (lv' := [(5, .int (σ1 9 0 x1.toNatClampNeg)), (4, .int r1), (0, .ref (ad 0 0)), (1, .int x1), (2, .int x2), (3, .int x3)]) hx hb dX9_tick_13 hl (by decide) rfl (fun ls hl => ?_)
  refine lv_iload_n hx hb dX9_tick_15 rfl (lv_at hl 4 rfl) ?_
  refine lv_if_eq (tgt := 27) hx hb dX9_tick_16 (by decide) (fun hc => ?_) (fun hc => ?_)
  · have h := h.1 hc
    refine lv_iconst (v := 0) hx hb dX9_tick_27 (by decide) ?_
    exact wk_X9_tick_28 S V hr hlocks x1 x2 x3   post  r1 (σ1 9 0 x1.toNatClampNeg) 0 _ _ _ _ h  hw (lv_sub hl [2, 3, 4, 5, 1, 0] rfl)
  · have h := h.2 hc
    refine lv_aload_n hx hb dX9_tick_19 rfl (lv_at hl 2 rfl) ?_
    refine lv_iload_n hx hb dX9_tick_20 rfl (lv_at hl 3 rfl) ?_
    refine call_Vi (As := [.int x1]) (rest := []) EvM_ok S V hw (mt_X9_moves l D q ad x1  σ1 _ h) ok_X9_moves ml_X9_232 (rM_0 S V hw (Nat.le_of_ble_eq_true rfl)) ⟨(Nat.le_of_ble_eq_true rfl), (Nat.le_of_ble_eq_true rfl)⟩ ⟨rfl, rfl⟩ rfl hl.1 rfl (Nat.le_of_ble_eq_true rfl) dX9_tick_21 (fun r2 σ2 H locs h hw => ?_)
    refine lv_goto (tgt := 28) hx hb dX9_tick_24 (by decide) ?_
    exact wk_X9_tick_28 S V hr hlocks x1 x2 x3   post  r1 (σ1 9 0 x1.toNatClampNeg) r2 _ _ _ _ h  hw (lv_sub hl [2, 3, 4, 5, 1, 0] rfl)
theorem mt_X9_tick (l : Launch) (D : va_G) (q : ClassId × ClassId × ClassId × ClassId) (ad : Nat → Nat → Nat) (x1 : Int32) (x2 : Int32) (x3 : Int32) (σ : St) (post : St → Prop) (h : wp_X9_tick x1 x2 x3 post σ) : cV l D clA LM ad (EM q ad) (EvM D q ad) yX9_tick cX9_tick 9 none { frames := 2, cells := 0, slots := 0, locals := 50 } [.ref (ad 0 0), .int x1, .int x2, .int x3] σ post :=
  ent_v (by decide) (Nat.le_of_ble_eq_true rfl) (fun p e s m below meth c S V hr hlocks hw ls hl => wk_X9_tick_0 S V hr hlocks x1 x2 x3  post   σ _ _ ls h  hw (lv_sub hl [0, 1, 2, 3] rfl))
def wp_X9_isX (x0 : Int32) (post : Int32 → St → Prop)  (σ : St) : Prop := wp_X9_in (Int32.toInt64 x0) (-999) 999 (fun r1 σ1 => (narrow .boolean (.int r1) = .int r1 ∧ post r1 σ1)) σ
set_option maxHeartbeats 4000000 in
set_option maxRecDepth 100000 in
theorem wk_X9_isX_0 {p : Program} {l : Launch} {e : Env} {s : State} {m : MethodId} {below : List Frame} {meth : Method} {c : Code} {D : va_G} {q : ClassId × ClassId × ClassId × ClassId} {ad : Nat → Nat → Nat} {args : Array Value} (S : CallFix p m c cX9_isX 1 s args GW "OnChinModel") (V : EvM D q ad s) (hr : meth.sig.returnType = (some .boolean)) (hlocks : meth.locks = false) (x0 : Int32) (post : Int32 → St → Prop)  : ∀ (σ : St) (H : Heap) (locs : List Loc) (ls : Array Slot), wp_X9_isX x0 post  σ → wo D clA LM ad s.heap H locs (EM q ad σ) → lv_has ls 1 [(0, .int x0)] → W p l e { frames := 1, cells := 0, slots := 0, locals := 25 } s m args below meth c H locs 0 0 (MQ below (zQi D clA LM ad (EM q ad) post) args s 0 0 (zA LM ad)) (F0 m 0 ls []) := by
  have hx := S.1
  have hb := S.2.1
  intro  σ H locs ls h  hw hl
  have h : wp_X9_in (Int32.toInt64 x0) (-999) 999 (fun r1 σ1 => (narrow .boolean (.int r1) = .int r1 ∧ post r1 σ1)) σ := h
  refine lv_iload_n hx hb dX9_isX_0 rfl (lv_at hl 0 rfl) ?_
  refine lv_i2l (v := (Int32.toInt64 x0)) hx hb dX9_isX_1 rfl ?_
  refine lv_ldc2 (v := (-999)) hx hb S.2.2.2.1 (gw_S S _ kc_X9_235) dX9_isX_2 ?_
  refine lv_ldc2 (v := 999) hx hb S.2.2.2.1 (gw_S S _ kc_X9_237) dX9_isX_5 ?_
  refine call_Si (As := [.long (Int32.toInt64 x0), .long (-999), .long 999]) (rest := []) EvM_ok S V hw (mt_X9_in l D q ad (Int32.toInt64 x0) (-999) 999  σ _ h) ok_X9_in ml_X9_92 ⟨(Nat.le_of_ble_eq_true rfl), (Nat.le_of_ble_eq_true rfl)⟩ ⟨rfl, rfl⟩ rfl hl.1 rfl (Nat.le_of_ble_eq_true rfl) dX9_isX_8 (fun r1 σ1 H locs h hw => ?_)
  exact ret_z S hr hlocks hw h.1 h.2 dX9_isX_11
theorem mt_X9_isX (l : Launch) (D : va_G) (q : ClassId × ClassId × ClassId × ClassId) (ad : Nat → Nat → Nat) (x0 : Int32) (σ : St) (post : Int32 → St → Prop) (h : wp_X9_isX x0 post σ) : cI l D clA LM ad (EM q ad) (EvM D q ad) yX9_isX cX9_isX 1 (some .boolean) { frames := 1, cells := 0, slots := 0, locals := 25 } [.int x0] σ post :=
  ent_i (by decide) (Nat.le_of_ble_eq_true rfl) (fun p e s m below meth c S V hr hlocks hw ls hl => wk_X9_isX_0 S V hr hlocks x0  post   σ _ _ ls h  hw (lv_sub hl [0] rfl))
def wp_X9_isV (x0 : Int32) (post : Int32 → St → Prop)  (σ : St) : Prop := wp_X9_in (Int32.toInt64 x0) (-99) 99 (fun r1 σ1 => (narrow .boolean (.int r1) = .int r1 ∧ post r1 σ1)) σ
set_option maxHeartbeats 4000000 in
set_option maxRecDepth 100000 in
theorem wk_X9_isV_0 {p : Program} {l : Launch} {e : Env} {s : State} {m : MethodId} {below : List Frame} {meth : Method} {c : Code} {D : va_G} {q : ClassId × ClassId × ClassId × ClassId} {ad : Nat → Nat → Nat} {args : Array Value} (S : CallFix p m c cX9_isV 1 s args GW "OnChinModel") (V : EvM D q ad s) (hr : meth.sig.returnType = (some .boolean)) (hlocks : meth.locks = false) (x0 : Int32) (post : Int32 → St → Prop)  : ∀ (σ : St) (H : Heap) (locs : List Loc) (ls : Array Slot), wp_X9_isV x0 post  σ → wo D clA LM ad s.heap H locs (EM q ad σ) → lv_has ls 1 [(0, .int x0)] → W p l e { frames := 1, cells := 0, slots := 0, locals := 25 } s m args below meth c H locs 0 0 (MQ below (zQi D clA LM ad (EM q ad) post) args s 0 0 (zA LM ad)) (F0 m 0 ls []) := by
  have hx := S.1
  have hb := S.2.1
  intro  σ H locs ls h  hw hl
  have h : wp_X9_in (Int32.toInt64 x0) (-99) 99 (fun r1 σ1 => (narrow .boolean (.int r1) = .int r1 ∧ post r1 σ1)) σ := h
  refine lv_iload_n hx hb dX9_isV_0 rfl (lv_at hl 0 rfl) ?_
  refine lv_i2l (v := (Int32.toInt64 x0)) hx hb dX9_isV_1 rfl ?_
  refine lv_ldc2 (v := (-99)) hx hb S.2.2.2.1 (gw_S S _ kc_X9_239) dX9_isV_2 ?_
  refine lv_ldc2 (v := 99) hx hb S.2.2.2.1 (gw_S S _ kc_X9_241) dX9_isV_5 ?_
  refine call_Si (As := [.long (Int32.toInt64 x0), .long (-99), .long 99]) (rest := []) EvM_ok S V hw (mt_X9_in l D q ad (Int32.toInt64 x0) (-99) 99  σ _ h) ok_X9_in ml_X9_92 ⟨(Nat.le_of_ble_eq_true rfl), (Nat.le_of_ble_eq_true rfl)⟩ ⟨rfl, rfl⟩ rfl hl.1 rfl (Nat.le_of_ble_eq_true rfl) dX9_isV_8 (fun r1 σ1 H locs h hw => ?_)
  exact ret_z S hr hlocks hw h.1 h.2 dX9_isV_11
theorem mt_X9_isV (l : Launch) (D : va_G) (q : ClassId × ClassId × ClassId × ClassId) (ad : Nat → Nat → Nat) (x0 : Int32) (σ : St) (post : Int32 → St → Prop) (h : wp_X9_isV x0 post σ) : cI l D clA LM ad (EM q ad) (EvM D q ad) yX9_isV cX9_isV 1 (some .boolean) { frames := 1, cells := 0, slots := 0, locals := 25 } [.int x0] σ post :=
  ent_i (by decide) (Nat.le_of_ble_eq_true rfl) (fun p e s m below meth c S V hr hlocks hw ls hl => wk_X9_isV_0 S V hr hlocks x0  post   σ _ _ ls h  hw (lv_sub hl [0] rfl))
def wp_X9_begin_24 (x1 : Int32) (x2 : Int32) (x3 : Int32) (post : Int32 → St → Prop)  (σ : St) : Prop := post (-3) σ
set_option maxHeartbeats 4000000 in
set_option maxRecDepth 100000 in
theorem wk_X9_begin_24 {p : Program} {l : Launch} {e : Env} {s : State} {m : MethodId} {below : List Frame} {meth : Method} {c : Code} {D : va_G} {q : ClassId × ClassId × ClassId × ClassId} {ad : Nat → Nat → Nat} {args : Array Value} (S : CallFix p m c cX9_begin 4 s args GW "OnChinModel") (V : EvM D q ad s) (hr : meth.sig.returnType = (some .int)) (hlocks : meth.locks = false) (x1 : Int32) (x2 : Int32) (x3 : Int32) (post : Int32 → St → Prop)  : ∀ (σ : St) (H : Heap) (locs : List Loc) (ls : Array Slot), wp_X9_begin_24 x1 x2 x3 post  σ → wo D clA LM ad s.heap H locs (EM q ad σ) → lv_has ls 4 [(0, .ref (ad 0 0)), (1, .int x1), (2, .int x2), (3, .int x3)] → W p l e { frames := 2, cells := 0, slots := 0, locals := 45 } s m args below meth c H locs 0 0 (MQ below (zQi D clA LM ad (EM q ad) post) args s 0 0 (zA LM ad)) (F0 m 24 ls []) := by
  have hx := S.1
  have hb := S.2.1
  intro  σ H locs ls h  hw hl
  refine lv_bipush (v := (-3)) hx hb dX9_begin_24 (by decide) ?_
  exact ret_i S hr hlocks hw h dX9_begin_26
def wp_X9_begin (x1 : Int32) (x2 : Int32) (x3 : Int32) (post : Int32 → St → Prop)  (σ : St) : Prop := wp_X9_isThing x1 (fun r1 σ1 => ((¬ r1 = 0 → wp_X9_isX x2 (fun r2 σ2 => ((r2 = 0 → wp_X9_begin_24 x1 x2 x3 post  σ2) ∧ (¬ r2 = 0 → wp_X9_isV x3 (fun r3 σ3 => ((¬ r3 = 0 → (vp_in x1 4 ∧ ((¬ (σ3 5 0 x1.toNatClampNeg) = 0 → wp_X9_start 2 x2 x3 (fun σ4 => post 1 σ4) (su σ3 13 0 2 x1)) ∧ ((σ3 5 0 x1.toNatClampNeg) = 0 → post (-4) σ3)))) ∧ (r3 = 0 → wp_X9_begin_24 x1 x2 x3 post  σ3))) σ2))) σ1) ∧ (r1 = 0 → post (-2) σ1))) σ
set_option maxHeartbeats 4000000 in
set_option maxRecDepth 100000 in
theorem wk_X9_begin_0 {p : Program} {l : Launch} {e : Env} {s : State} {m : MethodId} {below : List Frame} {meth : Method} {c : Code} {D : va_G} {q : ClassId × ClassId × ClassId × ClassId} {ad : Nat → Nat → Nat} {args : Array Value} (S : CallFix p m c cX9_begin 4 s args GW "OnChinModel") (V : EvM D q ad s) (hr : meth.sig.returnType = (some .int)) (hlocks : meth.locks = false) (x1 : Int32) (x2 : Int32) (x3 : Int32) (post : Int32 → St → Prop)  : ∀ (σ : St) (H : Heap) (locs : List Loc) (ls : Array Slot), wp_X9_begin x1 x2 x3 post  σ → wo D clA LM ad s.heap H locs (EM q ad σ) → lv_has ls 4 [(0, .ref (ad 0 0)), (1, .int x1), (2, .int x2), (3, .int x3)] → W p l e { frames := 2, cells := 0, slots := 0, locals := 45 } s m args below meth c H locs 0 0 (MQ below (zQi D clA LM ad (EM q ad) post) args s 0 0 (zA LM ad)) (F0 m 0 ls []) := by
  have hx := S.1
  have hb := S.2.1
  intro  σ H locs ls h  hw hl
  have h : wp_X9_isThing x1 (fun r1 σ1 => ((¬ r1 = 0 → wp_X9_isX x2 (fun r2 σ2 => ((r2 = 0 → wp_X9_begin_24 x1 x2 x3 post  σ2) ∧ (¬ r2 = 0 → wp_X9_isV x3 (fun r3 σ3 => ((¬ r3 = 0 → (vp_in x1 4 ∧ ((¬ (σ3 5 0 x1.toNatClampNeg) = 0 → wp_X9_start 2 x2 x3 (fun σ4 => post 1 σ4) (su σ3 13 0 2 x1)) ∧ ((σ3 5 0 x1.toNatClampNeg) = 0 → post (-4) σ3)))) ∧ (r3 = 0 → wp_X9_begin_24 x1 x2 x3 post  σ3))) σ2))) σ1) ∧ (r1 = 0 → post (-2) σ1))) σ := h
  refine lv_iload_n hx hb dX9_begin_0 rfl (lv_at hl 1 rfl) ?_
  refine call_Si (As := [.int x1]) (rest := []) EvM_ok S V hw (mt_X9_isThing l D q ad x1  σ _ h) ok_X9_isThing ml_X9_192 ⟨(Nat.le_of_ble_eq_true rfl), (Nat.le_of_ble_eq_true rfl)⟩ ⟨rfl, rfl⟩ rfl hl.1 rfl (Nat.le_of_ble_eq_true rfl) dX9_begin_1 (fun r1 σ1 H locs h hw => ?_)
  refine lv_if_ne (tgt := 10) hx hb dX9_begin_4 (by decide) (fun hc => ?_) (fun hc => ?_)
  · have h := h.1 hc
    refine lv_iload_n hx hb dX9_begin_10 rfl (lv_at hl 2 rfl) ?_
    refine call_Si (As := [.int x2]) (rest := []) EvM_ok S V hw (mt_X9_isX l D q ad x2  σ1 _ h) ok_X9_isX ml_X9_243 ⟨(Nat.le_of_ble_eq_true rfl), (Nat.le_of_ble_eq_true rfl)⟩ ⟨rfl, rfl⟩ rfl hl.1 rfl (Nat.le_of_ble_eq_true rfl) dX9_begin_11 (fun r2 σ2 H locs h hw => ?_)
    refine lv_if_eq (tgt := 24) hx hb dX9_begin_14 (by decide) (fun hc => ?_) (fun hc => ?_)
    · have h := h.1 hc
      exact wk_X9_begin_24 S V hr hlocks x1 x2 x3   post   _ _ _ _ h  hw (lv_sub hl [0, 1, 2, 3] rfl)
    · have h := h.2 hc
      refine lv_iload_n hx hb dX9_begin_17 rfl (lv_at hl 3 rfl) ?_
      refine call_Si (As := [.int x3]) (rest := []) EvM_ok S V hw (mt_X9_isV l D q ad x3  σ2 _ h) ok_X9_isV ml_X9_246 ⟨(Nat.le_of_ble_eq_true rfl), (Nat.le_of_ble_eq_true rfl)⟩ ⟨rfl, rfl⟩ rfl hl.1 rfl (Nat.le_of_ble_eq_true rfl) dX9_begin_18 (fun r3 σ3 H locs h hw => ?_)
      refine lv_if_ne (tgt := 27) hx hb dX9_begin_21 (by decide) (fun hc => ?_) (fun hc => ?_)
      · have h := h.1 hc
        refine lv_aload_n hx hb dX9_begin_27 rfl (lv_at hl 0 rfl) ?_
        refine gM_0_6 S V hw (Nat.le_of_ble_eq_true rfl) fl_X9_22 dX9_begin_28 ?_
        refine lv_iload_n hx hb dX9_begin_31 rfl (lv_at hl 1 rfl) ?_
        refine aM_5 S V hw (Nat.le_of_ble_eq_true rfl) h.1 (z := (σ3 5 0 x1.toNatClampNeg)) rfl dX9_begin_32 ?_
        have h := h.2
        refine lv_if_ne (tgt := 39) hx hb dX9_begin_33 (by decide) (fun hc => ?_) (fun hc => ?_)
        · have h := h.1 hc
          refine lv_aload_n hx hb dX9_begin_39 rfl (lv_at hl 0 rfl) ?_
          refine gM_0_27 S V hw (Nat.le_of_ble_eq_true rfl) fl_X9_68 dX9_begin_40 ?_
          refine lv_iconst (v := 2) hx hb dX9_begin_43 (by decide) ?_
          refine lv_iload_n hx hb dX9_begin_44 rfl (lv_at hl 1 rfl) ?_
          refine sM_13 S V hw (Nat.le_of_ble_eq_true rfl) (vp_in_nI (n := 2) (Nat.le_of_ble_eq_true rfl) (Nat.le_of_ble_eq_true rfl)) dX9_begin_45 (fun H locs hw => ?_)
          have hw : wo D clA LM ad s.heap H locs (EM q ad (su σ3 13 0 2 x1)) := hw
          refine lv_aload_n hx hb dX9_begin_46 rfl (lv_at hl 0 rfl) ?_
          refine lv_iconst (v := 2) hx hb dX9_begin_47 (by decide) ?_
          refine lv_iload_n hx hb dX9_begin_48 rfl (lv_at hl 2 rfl) ?_
          refine lv_iload_n hx hb dX9_begin_49 rfl (lv_at hl 3 rfl) ?_
          refine call_Vv (As := [.int 2, .int x2, .int x3]) (rest := []) EvM_ok S V hw (mt_X9_start l D q ad 2 x2 x3  (su σ3 13 0 2 x1) _ h) ok_X9_start ml_X9_249 (rM_0 S V hw (Nat.le_of_ble_eq_true rfl)) ⟨(Nat.le_of_ble_eq_true rfl), (Nat.le_of_ble_eq_true rfl)⟩ ⟨rfl, rfl⟩ rfl hl.1 rfl (Nat.le_of_ble_eq_true rfl) dX9_begin_50 (fun σ4 H locs h hw => ?_)
          refine lv_iconst (v := 1) hx hb dX9_begin_53 (by decide) ?_
          exact ret_i S hr hlocks hw h dX9_begin_54
        · have h := h.2 hc
          refine lv_bipush (v := (-4)) hx hb dX9_begin_36 (by decide) ?_
          exact ret_i S hr hlocks hw h dX9_begin_38
      · have h := h.2 hc
        exact wk_X9_begin_24 S V hr hlocks x1 x2 x3   post   _ _ _ _ h  hw (lv_sub hl [0, 1, 2, 3] rfl)
  · have h := h.2 hc
    refine lv_bipush (v := (-2)) hx hb dX9_begin_7 (by decide) ?_
    exact ret_i S hr hlocks hw h dX9_begin_9
theorem mt_X9_begin (l : Launch) (D : va_G) (q : ClassId × ClassId × ClassId × ClassId) (ad : Nat → Nat → Nat) (x1 : Int32) (x2 : Int32) (x3 : Int32) (σ : St) (post : Int32 → St → Prop) (h : wp_X9_begin x1 x2 x3 post σ) : cI l D clA LM ad (EM q ad) (EvM D q ad) yX9_begin cX9_begin 4 (some .int) { frames := 2, cells := 0, slots := 0, locals := 45 } [.ref (ad 0 0), .int x1, .int x2, .int x3] σ post :=
  ent_i (by decide) (Nat.le_of_ble_eq_true rfl) (fun p e s m below meth c S V hr hlocks hw ls hl => wk_X9_begin_0 S V hr hlocks x1 x2 x3  post   σ _ _ ls h  hw (lv_sub hl [0, 1, 2, 3] rfl))
