def wp_X0_start (o0 : Nat) (x1 : Int32) (x2 : Int32) (x3 : Int32) (post : St → Prop)  (σ : St) : Prop := post (su (su (su (su (su (su (su σ 13 o0 0 x1) 13 o0 1 x2) 13 o0 2 x3) 13 o0 3 0) 13 o0 4 0) 13 o0 5 0) 14 o0 0 x2)
set_option maxHeartbeats 4000000 in
set_option maxRecDepth 100000 in
theorem wk_X0_start_0 {p : Program} {l : Launch} {e : Env} {s : State} {m : MethodId} {below : List Frame} {meth : Method} {c : Code} {D : va_G} {q : ClassId × ClassId × ClassId × ClassId} {ad : Nat → Nat → Nat} {t : Nat × Nat} {aK aV : Nat → Nat} {args : Array Value} (S : CallFix p m c cX0_start 4 s args GW "OnChin$Balance") (V : EvC D q ad t aK aV s) (hr : meth.sig.returnType = none) (hlocks : meth.locks = false) (o0 : Nat) (x1 : Int32) (x2 : Int32) (x3 : Int32) (ho0 : o0 < 5) (post : St → Prop)  : ∀ (σ : St) (H : Heap) (locs : List Loc) (ls : Array Slot), wp_X0_start o0 x1 x2 x3 post  σ → wo D clA LC ad s.heap H locs (EC q ad σ) → lv_has ls 4 [(0, .ref (ad 13 o0)), (1, .int x1), (2, .int x2), (3, .int x3)] → W p l e { frames := 0, cells := 0, slots := 0, locals := 0 } s m args below meth c H locs 0 0 (MQ below (zQv D clA LC ad (EC q ad) post) args s 0 0 (zA LC ad)) (F0 m 0 ls []) := by
  have hx := S.1
  have hb := S.2.1
  intro  σ H locs ls h  hw hl
  refine lv_aload_n hx hb dX0_start_0 rfl (lv_at hl 0 rfl) ?_
  refine lv_iload_n hx hb dX0_start_1 rfl (lv_at hl 1 rfl) ?_
  refine pC_13_0 S V hw ho0 fl_X0_9 dX0_start_2 (fun H locs hw => ?_)
  refine lv_aload_n hx hb dX0_start_5 rfl (lv_at hl 0 rfl) ?_
  refine lv_iload_n hx hb dX0_start_6 rfl (lv_at hl 2 rfl) ?_
  refine pC_13_1 S V hw ho0 fl_X0_15 dX0_start_7 (fun H locs hw => ?_)
  refine lv_aload_n hx hb dX0_start_10 rfl (lv_at hl 0 rfl) ?_
  refine lv_iload_n hx hb dX0_start_11 rfl (lv_at hl 3 rfl) ?_
  refine pC_13_2 S V hw ho0 fl_X0_18 dX0_start_12 (fun H locs hw => ?_)
  refine lv_aload_n hx hb dX0_start_15 rfl (lv_at hl 0 rfl) ?_
  refine lv_iconst (v := 0) hx hb dX0_start_16 (by decide) ?_
  refine pC_13_3 S V hw ho0 fl_X0_21 dX0_start_17 (fun H locs hw => ?_)
  refine lv_aload_n hx hb dX0_start_20 rfl (lv_at hl 0 rfl) ?_
  refine lv_iconst (v := 0) hx hb dX0_start_21 (by decide) ?_
  refine pC_13_4 S V hw ho0 fl_X0_24 dX0_start_22 (fun H locs hw => ?_)
  refine lv_aload_n hx hb dX0_start_25 rfl (lv_at hl 0 rfl) ?_
  refine lv_iconst (v := 0) hx hb dX0_start_26 (by decide) ?_
  refine pC_13_5 S V hw ho0 fl_X0_27 dX0_start_27 (fun H locs hw => ?_)
  refine lv_aload_n hx hb dX0_start_30 rfl (lv_at hl 0 rfl) ?_
  refine gC_13_6 S V hw ho0 fl_X0_30 dX0_start_31 ?_
  refine lv_iconst (v := 0) hx hb dX0_start_34 (by decide) ?_
  refine lv_iload_n hx hb dX0_start_35 rfl (lv_at hl 2 rfl) ?_
  refine sC_14 S V hw ho0 (vp_in_nI (n := 0) (Nat.le_of_ble_eq_true rfl) (Nat.le_of_ble_eq_true rfl)) dX0_start_36 (fun H locs hw => ?_)
  have hw : wo D clA LC ad s.heap H locs (EC q ad (su (su (su (su (su (su (su σ 13 o0 0 x1) 13 o0 1 x2) 13 o0 2 x3) 13 o0 3 0) 13 o0 4 0) 13 o0 5 0) 14 o0 0 x2)) := hw
  exact ret_v S hr hlocks hw h dX0_start_37
theorem mt_X0_start (l : Launch) (D : va_G) (q : ClassId × ClassId × ClassId × ClassId) (ad : Nat → Nat → Nat) (t : Nat × Nat) (aK aV : Nat → Nat) (o0 : Nat) (x1 : Int32) (x2 : Int32) (x3 : Int32) (ho0 : o0 < 5) (σ : St) (post : St → Prop) (h : wp_X0_start o0 x1 x2 x3 post σ) : cV l D clA LC ad (EC q ad) (EvC D q ad t aK aV) yX0_start cX0_start 4 none { frames := 0, cells := 0, slots := 0, locals := 0 } [.ref (ad 13 o0), .int x1, .int x2, .int x3] σ post :=
  ent_v (by decide) (Nat.le_of_ble_eq_true rfl) (fun p e s m below meth c S V hr hlocks hw ls hl => wk_X0_start_0 S V hr hlocks o0 x1 x2 x3 ho0 post   σ _ _ ls h  hw (lv_sub hl [0, 1, 2, 3] rfl))
def wp_X0_copy (o0 : Nat) (o1 : Nat) (post : St → Prop)  (σ : St) : Prop := post (sr (su (su (su (su (su (su σ 13 o0 0 (σ 13 o1 0)) 13 o0 1 (σ 13 o1 1)) 13 o0 2 (σ 13 o1 2)) 13 o0 3 (σ 13 o1 3)) 13 o0 4 (σ 13 o1 4)) 13 o0 5 (σ 13 o1 5)) 14 o0 (va_cpy (fun i => (su (su (su (su (su (su σ 13 o0 0 (σ 13 o1 0)) 13 o0 1 (σ 13 o1 1)) 13 o0 2 (σ 13 o1 2)) 13 o0 3 (σ 13 o1 3)) 13 o0 4 (σ 13 o1 4)) 13 o0 5 (σ 13 o1 5)) 14 o1 i) (fun i => (su (su (su (su (su (su σ 13 o0 0 (σ 13 o1 0)) 13 o0 1 (σ 13 o1 1)) 13 o0 2 (σ 13 o1 2)) 13 o0 3 (σ 13 o1 3)) 13 o0 4 (σ 13 o1 4)) 13 o0 5 (σ 13 o1 5)) 14 o0 i) 0 0 32))
set_option maxHeartbeats 4000000 in
set_option maxRecDepth 100000 in
theorem wk_X0_copy_0 {p : Program} {l : Launch} {e : Env} {s : State} {m : MethodId} {below : List Frame} {meth : Method} {c : Code} {D : va_G} {q : ClassId × ClassId × ClassId × ClassId} {ad : Nat → Nat → Nat} {t : Nat × Nat} {aK aV : Nat → Nat} {args : Array Value} (S : CallFix p m c cX0_copy 2 s args GW "OnChin$Balance") (V : EvC D q ad t aK aV s) (hr : meth.sig.returnType = none) (hlocks : meth.locks = false) (o0 : Nat) (o1 : Nat) (ho0 : o0 < 5) (ho1 : o1 < 5) (post : St → Prop)  : ∀ (σ : St) (H : Heap) (locs : List Loc) (ls : Array Slot), wp_X0_copy o0 o1 post  σ → wo D clA LC ad s.heap H locs (EC q ad σ) → lv_has ls 2 [(0, .ref (ad 13 o0)), (1, .ref (ad 13 o1))] → W p l e { frames := 1, cells := 0, slots := 0, locals := 26 } s m args below meth c H locs 0 0 (MQ below (zQv D clA LC ad (EC q ad) post) args s 0 0 (zA LC ad)) (F0 m 0 ls []) := by
  have hx := S.1
  have hb := S.2.1
  intro  σ H locs ls h  hw hl
  refine lv_aload_n hx hb dX0_copy_0 rfl (lv_at hl 0 rfl) ?_
  refine lv_aload_n hx hb dX0_copy_1 rfl (lv_at hl 1 rfl) ?_
  refine gC_13_0 S V hw ho1 fl_X0_9 rfl dX0_copy_2 ?_
  refine pC_13_0 S V hw ho0 fl_X0_9 dX0_copy_5 (fun H locs hw => ?_)
  refine lv_aload_n hx hb dX0_copy_8 rfl (lv_at hl 0 rfl) ?_
  refine lv_aload_n hx hb dX0_copy_9 rfl (lv_at hl 1 rfl) ?_
  refine gC_13_1 S V hw ho1 fl_X0_15 (su_nk rfl) dX0_copy_10 ?_
  refine pC_13_1 S V hw ho0 fl_X0_15 dX0_copy_13 (fun H locs hw => ?_)
  refine lv_aload_n hx hb dX0_copy_16 rfl (lv_at hl 0 rfl) ?_
  refine lv_aload_n hx hb dX0_copy_17 rfl (lv_at hl 1 rfl) ?_
  refine gC_13_2 S V hw ho1 fl_X0_18 ((su_nk rfl).trans (su_nk rfl)) dX0_copy_18 ?_
  refine pC_13_2 S V hw ho0 fl_X0_18 dX0_copy_21 (fun H locs hw => ?_)
  refine lv_aload_n hx hb dX0_copy_24 rfl (lv_at hl 0 rfl) ?_
  refine lv_aload_n hx hb dX0_copy_25 rfl (lv_at hl 1 rfl) ?_
  refine gC_13_3 S V hw ho1 fl_X0_21 ((su_nk rfl).trans ((su_nk rfl).trans (su_nk rfl))) dX0_copy_26 ?_
  refine pC_13_3 S V hw ho0 fl_X0_21 dX0_copy_29 (fun H locs hw => ?_)
  refine lv_aload_n hx hb dX0_copy_32 rfl (lv_at hl 0 rfl) ?_
  refine lv_aload_n hx hb dX0_copy_33 rfl (lv_at hl 1 rfl) ?_
  refine gC_13_4 S V hw ho1 fl_X0_24 ((su_nk rfl).trans ((su_nk rfl).trans ((su_nk rfl).trans (su_nk rfl)))) dX0_copy_34 ?_
  refine pC_13_4 S V hw ho0 fl_X0_24 dX0_copy_37 (fun H locs hw => ?_)
  refine lv_aload_n hx hb dX0_copy_40 rfl (lv_at hl 0 rfl) ?_
  refine lv_aload_n hx hb dX0_copy_41 rfl (lv_at hl 1 rfl) ?_
  refine gC_13_5 S V hw ho1 fl_X0_27 ((su_nk rfl).trans ((su_nk rfl).trans ((su_nk rfl).trans ((su_nk rfl).trans (su_nk rfl))))) dX0_copy_42 ?_
  refine pC_13_5 S V hw ho0 fl_X0_27 dX0_copy_45 (fun H locs hw => ?_)
  refine lv_aload_n hx hb dX0_copy_48 rfl (lv_at hl 1 rfl) ?_
  refine gC_13_6 S V hw ho1 fl_X0_30 dX0_copy_49 ?_
  refine lv_iconst (v := 0) hx hb dX0_copy_52 (by decide) ?_
  refine lv_aload_n hx hb dX0_copy_53 rfl (lv_at hl 0 rfl) ?_
  refine gC_13_6 S V hw ho0 fl_X0_30 dX0_copy_54 ?_
  refine lv_iconst (v := 0) hx hb dX0_copy_57 (by decide) ?_
  refine lv_bipush (v := 32) hx hb dX0_copy_58 (by decide) ?_
  refine x_copy S V.1 V.2.1 hw hl.1 ml_X0_34 wn_arraycopy ws_arraycopy wi_J10 (kC_14 ho1) (kC_14 ho0) rfl rfl 0 rfl (by decide) (by decide) (by decide) (Nat.le_of_ble_eq_true rfl) (Nat.le_of_ble_eq_true rfl) (Nat.le_of_ble_eq_true rfl) (Nat.le_of_ble_eq_true rfl) dX0_copy_60 (f' := EC q ad (sr (su (su (su (su (su (su σ 13 o0 0 (σ 13 o1 0)) 13 o0 1 (σ 13 o1 1)) 13 o0 2 (σ 13 o1 2)) 13 o0 3 (σ 13 o1 3)) 13 o0 4 (σ 13 o1 4)) 13 o0 5 (σ 13 o1 5)) 14 o0 (va_cpy (fun i => (su (su (su (su (su (su σ 13 o0 0 (σ 13 o1 0)) 13 o0 1 (σ 13 o1 1)) 13 o0 2 (σ 13 o1 2)) 13 o0 3 (σ 13 o1 3)) 13 o0 4 (σ 13 o1 4)) 13 o0 5 (σ 13 o1 5)) 14 o1 i) (fun i => (su (su (su (su (su (su σ 13 o0 0 (σ 13 o1 0)) 13 o0 1 (σ 13 o1 1)) 13 o0 2 (σ 13 o1 2)) 13 o0 3 (σ 13 o1 3)) 13 o0 4 (σ 13 o1 4)) 13 o0 5 (σ 13 o1 5)) 14 o0 i) 0 0 32))) (by show Sum.inl _ = _; rw [sr_row]; try rfl) EC_sr (fun H locs hw => ?_)
  exact ret_v S hr hlocks hw h dX0_copy_63
theorem mt_X0_copy (l : Launch) (D : va_G) (q : ClassId × ClassId × ClassId × ClassId) (ad : Nat → Nat → Nat) (t : Nat × Nat) (aK aV : Nat → Nat) (o0 : Nat) (o1 : Nat) (ho0 : o0 < 5) (ho1 : o1 < 5) (σ : St) (post : St → Prop) (h : wp_X0_copy o0 o1 post σ) : cV l D clA LC ad (EC q ad) (EvC D q ad t aK aV) yX0_copy cX0_copy 2 none { frames := 1, cells := 0, slots := 0, locals := 26 } [.ref (ad 13 o0), .ref (ad 13 o1)] σ post :=
  ent_v (by decide) (Nat.le_of_ble_eq_true rfl) (fun p e s m below meth c S V hr hlocks hw ls hl => wk_X0_copy_0 S V hr hlocks o0 o1 ho0 ho1 post   σ _ _ ls h  hw (lv_sub hl [0, 1] rfl))
def wp_X0_fell_28 (o0 : Nat) (o1 : Nat) (post : Int32 → St → Prop) (xs0 : Int32) (σ : St) : Prop := (narrow .boolean (.int xs0) = .int xs0 ∧ post xs0 σ)
set_option maxHeartbeats 4000000 in
set_option maxRecDepth 100000 in
theorem wk_X0_fell_28 {p : Program} {l : Launch} {e : Env} {s : State} {m : MethodId} {below : List Frame} {meth : Method} {c : Code} {D : va_G} {q : ClassId × ClassId × ClassId × ClassId} {ad : Nat → Nat → Nat} {t : Nat × Nat} {aK aV : Nat → Nat} {args : Array Value} (S : CallFix p m c cX0_fell 2 s args GW "OnChin$Balance") (V : EvC D q ad t aK aV s) (hr : meth.sig.returnType = (some .boolean)) (hlocks : meth.locks = false) (o0 : Nat) (o1 : Nat) (ho0 : o0 < 5) (ho1 : o1 < 3) (post : Int32 → St → Prop)  : ∀ (xs0 : Int32) (σ : St) (H : Heap) (locs : List Loc) (ls : Array Slot), wp_X0_fell_28 o0 o1 post xs0 σ → wo D clA LC ad s.heap H locs (EC q ad σ) → lv_has ls 2 [(0, .ref (ad 13 o0)), (1, .ref (ad 6 o1))] → W p l e { frames := 0, cells := 0, slots := 0, locals := 0 } s m args below meth c H locs 0 0 (MQ below (zQi D clA LC ad (EC q ad) post) args s 0 0 (zA LC ad)) (F0 m 28 ls [.int xs0]) := by
  have hx := S.1
  have hb := S.2.1
  intro xs0 σ H locs ls h  hw hl
  exact ret_z S hr hlocks hw h.1 h.2 dX0_fell_28
def wp_X0_fell_23 (o0 : Nat) (o1 : Nat) (post : Int32 → St → Prop)  (σ : St) : Prop := wp_X0_fell_28 o0 o1 post 1 σ
set_option maxHeartbeats 4000000 in
set_option maxRecDepth 100000 in
theorem wk_X0_fell_23 {p : Program} {l : Launch} {e : Env} {s : State} {m : MethodId} {below : List Frame} {meth : Method} {c : Code} {D : va_G} {q : ClassId × ClassId × ClassId × ClassId} {ad : Nat → Nat → Nat} {t : Nat × Nat} {aK aV : Nat → Nat} {args : Array Value} (S : CallFix p m c cX0_fell 2 s args GW "OnChin$Balance") (V : EvC D q ad t aK aV s) (hr : meth.sig.returnType = (some .boolean)) (hlocks : meth.locks = false) (o0 : Nat) (o1 : Nat) (ho0 : o0 < 5) (ho1 : o1 < 3) (post : Int32 → St → Prop)  : ∀ (σ : St) (H : Heap) (locs : List Loc) (ls : Array Slot), wp_X0_fell_23 o0 o1 post  σ → wo D clA LC ad s.heap H locs (EC q ad σ) → lv_has ls 2 [(0, .ref (ad 13 o0)), (1, .ref (ad 6 o1))] → W p l e { frames := 0, cells := 0, slots := 0, locals := 0 } s m args below meth c H locs 0 0 (MQ below (zQi D clA LC ad (EC q ad) post) args s 0 0 (zA LC ad)) (F0 m 23 ls []) := by
  have hx := S.1
  have hb := S.2.1
  intro  σ H locs ls h  hw hl
  have h : wp_X0_fell_28 o0 o1 post 1 σ := h
  refine lv_iconst (v := 1) hx hb dX0_fell_23 (by decide) ?_
  refine lv_goto (tgt := 28) hx hb dX0_fell_24 (by decide) ?_
  exact wk_X0_fell_28 S V hr hlocks o0 o1 ho0 ho1  post  1 _ _ _ _ h  hw (lv_sub hl [0, 1] rfl)
def wp_X0_fell (o0 : Nat) (o1 : Nat) (post : Int32 → St → Prop)  (σ : St) : Prop := (((σ 6 o1 7) < (σ 13 o0 1) → wp_X0_fell_23 o0 o1 post  σ) ∧ (¬ (σ 6 o1 7) < (σ 13 o0 1) → (((-(σ 6 o1 7)) ≤ (σ 13 o0 1) → wp_X0_fell_28 o0 o1 post 0 σ) ∧ (¬ (-(σ 6 o1 7)) ≤ (σ 13 o0 1) → wp_X0_fell_23 o0 o1 post  σ))))
set_option maxHeartbeats 4000000 in
set_option maxRecDepth 100000 in
theorem wk_X0_fell_0 {p : Program} {l : Launch} {e : Env} {s : State} {m : MethodId} {below : List Frame} {meth : Method} {c : Code} {D : va_G} {q : ClassId × ClassId × ClassId × ClassId} {ad : Nat → Nat → Nat} {t : Nat × Nat} {aK aV : Nat → Nat} {args : Array Value} (S : CallFix p m c cX0_fell 2 s args GW "OnChin$Balance") (V : EvC D q ad t aK aV s) (hr : meth.sig.returnType = (some .boolean)) (hlocks : meth.locks = false) (o0 : Nat) (o1 : Nat) (ho0 : o0 < 5) (ho1 : o1 < 3) (post : Int32 → St → Prop)  : ∀ (σ : St) (H : Heap) (locs : List Loc) (ls : Array Slot), wp_X0_fell o0 o1 post  σ → wo D clA LC ad s.heap H locs (EC q ad σ) → lv_has ls 2 [(0, .ref (ad 13 o0)), (1, .ref (ad 6 o1))] → W p l e { frames := 0, cells := 0, slots := 0, locals := 0 } s m args below meth c H locs 0 0 (MQ below (zQi D clA LC ad (EC q ad) post) args s 0 0 (zA LC ad)) (F0 m 0 ls []) := by
  have hx := S.1
  have hb := S.2.1
  intro  σ H locs ls h  hw hl
  refine lv_aload_n hx hb dX0_fell_0 rfl (lv_at hl 0 rfl) ?_
  refine gC_13_1 S V hw ho0 fl_X0_15 rfl dX0_fell_1 ?_
  refine lv_aload_n hx hb dX0_fell_4 rfl (lv_at hl 1 rfl) ?_
  refine lv_bipush (v := 7) hx hb dX0_fell_5 (by decide) ?_
  refine aC_6 S V hw ho1 (vp_in_nI (n := 7) (Nat.le_of_ble_eq_true rfl) (Nat.le_of_ble_eq_true rfl)) (z := (σ 6 o1 7)) rfl dX0_fell_7 ?_
  refine lv_icmp_gt (tgt := 23) hx hb dX0_fell_8 (by decide) (fun hc => ?_) (fun hc => ?_)
  · have h := h.1 hc
    exact wk_X0_fell_23 S V hr hlocks o0 o1 ho0 ho1  post   _ _ _ _ h  hw (lv_sub hl [0, 1] rfl)
  · have h := h.2 hc
    refine lv_aload_n hx hb dX0_fell_11 rfl (lv_at hl 0 rfl) ?_
    refine gC_13_1 S V hw ho0 fl_X0_15 rfl dX0_fell_12 ?_
    refine lv_aload_n hx hb dX0_fell_15 rfl (lv_at hl 1 rfl) ?_
    refine lv_bipush (v := 7) hx hb dX0_fell_16 (by decide) ?_
    refine aC_6 S V hw ho1 (vp_in_nI (n := 7) (Nat.le_of_ble_eq_true rfl) (Nat.le_of_ble_eq_true rfl)) (z := (σ 6 o1 7)) rfl dX0_fell_18 ?_
    refine lv_ineg hx hb dX0_fell_19 ?_
    refine lv_icmp_ge (tgt := 27) hx hb dX0_fell_20 (by decide) (fun hc => ?_) (fun hc => ?_)
    · have h := h.1 hc
      refine lv_iconst (v := 0) hx hb dX0_fell_27 (by decide) ?_
      exact wk_X0_fell_28 S V hr hlocks o0 o1 ho0 ho1  post  0 _ _ _ _ h  hw (lv_sub hl [0, 1] rfl)
    · have h := h.2 hc
      exact wk_X0_fell_23 S V hr hlocks o0 o1 ho0 ho1  post   _ _ _ _ h  hw (lv_sub hl [0, 1] rfl)
theorem mt_X0_fell (l : Launch) (D : va_G) (q : ClassId × ClassId × ClassId × ClassId) (ad : Nat → Nat → Nat) (t : Nat × Nat) (aK aV : Nat → Nat) (o0 : Nat) (o1 : Nat) (ho0 : o0 < 5) (ho1 : o1 < 3) (σ : St) (post : Int32 → St → Prop) (h : wp_X0_fell o0 o1 post σ) : cI l D clA LC ad (EC q ad) (EvC D q ad t aK aV) yX0_fell cX0_fell 2 (some .boolean) { frames := 0, cells := 0, slots := 0, locals := 0 } [.ref (ad 13 o0), .ref (ad 6 o1)] σ post :=
  ent_i (by decide) (Nat.le_of_ble_eq_true rfl) (fun p e s m below meth c S V hr hlocks hw ls hl => wk_X0_fell_0 S V hr hlocks o0 o1 ho0 ho1 post   σ _ _ ls h  hw (lv_sub hl [0, 1] rfl))
def wp_X6_seenLater_16 (o0 : Nat) (post : Int32 → St → Prop) (xs0 : Int32) (σ : St) : Prop := post xs0 σ
set_option maxHeartbeats 4000000 in
set_option maxRecDepth 100000 in
theorem wk_X6_seenLater_16 {p : Program} {l : Launch} {e : Env} {s : State} {m : MethodId} {below : List Frame} {meth : Method} {c : Code} {D : va_G} {q : ClassId × ClassId × ClassId × ClassId} {ad : Nat → Nat → Nat} {t : Nat × Nat} {aK aV : Nat → Nat} {args : Array Value} (S : CallFix p m c cX6_seenLater 1 s args GW "OnChin$Thing") (V : EvC D q ad t aK aV s) (hr : meth.sig.returnType = (some .int)) (hlocks : meth.locks = false) (o0 : Nat) (ho0 : o0 < 5) (post : Int32 → St → Prop)  : ∀ (xs0 : Int32) (σ : St) (H : Heap) (locs : List Loc) (ls : Array Slot), wp_X6_seenLater_16 o0 post xs0 σ → wo D clA LC ad s.heap H locs (EC q ad σ) → lv_has ls 1 [(0, .ref (ad 2 o0))] → W p l e { frames := 0, cells := 0, slots := 0, locals := 0 } s m args below meth c H locs 0 0 (MQ below (zQi D clA LC ad (EC q ad) post) args s 0 0 (zA LC ad)) (F0 m 16 ls [.int xs0]) := by
  have hx := S.1
  have hb := S.2.1
  intro xs0 σ H locs ls h  hw hl
  exact ret_i S hr hlocks hw h dX6_seenLater_16
def wp_X6_seenLater (o0 : Nat) (post : Int32 → St → Prop)  (σ : St) : Prop := ((¬ (σ 2 o0 0) = 3 → wp_X6_seenLater_16 o0 post 0 σ) ∧ ((σ 2 o0 0) = 3 → wp_X6_seenLater_16 o0 post (σ 2 o0 1) σ))
set_option maxHeartbeats 4000000 in
set_option maxRecDepth 100000 in
theorem wk_X6_seenLater_0 {p : Program} {l : Launch} {e : Env} {s : State} {m : MethodId} {below : List Frame} {meth : Method} {c : Code} {D : va_G} {q : ClassId × ClassId × ClassId × ClassId} {ad : Nat → Nat → Nat} {t : Nat × Nat} {aK aV : Nat → Nat} {args : Array Value} (S : CallFix p m c cX6_seenLater 1 s args GW "OnChin$Thing") (V : EvC D q ad t aK aV s) (hr : meth.sig.returnType = (some .int)) (hlocks : meth.locks = false) (o0 : Nat) (ho0 : o0 < 5) (post : Int32 → St → Prop)  : ∀ (σ : St) (H : Heap) (locs : List Loc) (ls : Array Slot), wp_X6_seenLater o0 post  σ → wo D clA LC ad s.heap H locs (EC q ad σ) → lv_has ls 1 [(0, .ref (ad 2 o0))] → W p l e { frames := 0, cells := 0, slots := 0, locals := 0 } s m args below meth c H locs 0 0 (MQ below (zQi D clA LC ad (EC q ad) post) args s 0 0 (zA LC ad)) (F0 m 0 ls []) := by
  have hx := S.1
  have hb := S.2.1
  intro  σ H locs ls h  hw hl
  refine lv_aload_n hx hb dX6_seenLater_0 rfl (lv_at hl 0 rfl) ?_
  refine gC_2_0 S V hw ho0 fl_X6_9 rfl dX6_seenLater_1 ?_
  refine lv_iconst (v := 3) hx hb dX6_seenLater_4 (by decide) ?_
  refine lv_icmp_ne (tgt := 15) hx hb dX6_seenLater_5 (by decide) (fun hc => ?_) (fun hc => ?_)
  · have h := h.1 hc
    refine lv_iconst (v := 0) hx hb dX6_seenLater_15 (by decide) ?_
    exact wk_X6_seenLater_16 S V hr hlocks o0 ho0  post  0 _ _ _ _ h  hw (lv_sub hl [0] rfl)
  · have h := h.2 hc
    refine lv_aload_n hx hb dX6_seenLater_8 rfl (lv_at hl 0 rfl) ?_
    refine gC_2_1 S V hw ho0 fl_X6_15 rfl dX6_seenLater_9 ?_
    refine lv_goto (tgt := 16) hx hb dX6_seenLater_12 (by decide) ?_
    exact wk_X6_seenLater_16 S V hr hlocks o0 ho0  post  (σ 2 o0 1) _ _ _ _ h  hw (lv_sub hl [0] rfl)
theorem mt_X6_seenLater (l : Launch) (D : va_G) (q : ClassId × ClassId × ClassId × ClassId) (ad : Nat → Nat → Nat) (t : Nat × Nat) (aK aV : Nat → Nat) (o0 : Nat) (ho0 : o0 < 5) (σ : St) (post : Int32 → St → Prop) (h : wp_X6_seenLater o0 post σ) : cI l D clA LC ad (EC q ad) (EvC D q ad t aK aV) yX6_seenLater cX6_seenLater 1 (some .int) { frames := 0, cells := 0, slots := 0, locals := 0 } [.ref (ad 2 o0)] σ post :=
  ent_i (by decide) (Nat.le_of_ble_eq_true rfl) (fun p e s m below meth c S V hr hlocks hw ls hl => wk_X6_seenLater_0 S V hr hlocks o0 ho0 post   σ _ _ ls h  hw (lv_sub hl [0] rfl))
def wp_X0_was_22 (o0 : Nat) (x1 : Int32) (post : Int32 → St → Prop) (xs0 : Int32) (σ : St) : Prop := post xs0 σ
set_option maxHeartbeats 4000000 in
set_option maxRecDepth 100000 in
theorem wk_X0_was_22 {p : Program} {l : Launch} {e : Env} {s : State} {m : MethodId} {below : List Frame} {meth : Method} {c : Code} {D : va_G} {q : ClassId × ClassId × ClassId × ClassId} {ad : Nat → Nat → Nat} {t : Nat × Nat} {aK aV : Nat → Nat} {args : Array Value} (S : CallFix p m c cX0_was 2 s args GW "OnChin$Balance") (V : EvC D q ad t aK aV s) (hr : meth.sig.returnType = (some .int)) (hlocks : meth.locks = false) (o0 : Nat) (x1 : Int32) (ho0 : o0 < 5) (post : Int32 → St → Prop)  : ∀ (xs0 : Int32) (σ : St) (H : Heap) (locs : List Loc) (ls : Array Slot), wp_X0_was_22 o0 x1 post xs0 σ → wo D clA LC ad s.heap H locs (EC q ad σ) → lv_has ls 2 [(0, .ref (ad 13 o0)), (1, .int x1)] → W p l e { frames := 0, cells := 0, slots := 0, locals := 0 } s m args below meth c H locs 0 0 (MQ below (zQi D clA LC ad (EC q ad) post) args s 0 0 (zA LC ad)) (F0 m 22 ls [.int xs0]) := by
  have hx := S.1
  have hb := S.2.1
  intro xs0 σ H locs ls h  hw hl
  exact ret_i S hr hlocks hw h dX0_was_22
def wp_X0_was (o0 : Nat) (x1 : Int32) (post : Int32 → St → Prop)  (σ : St) : Prop := ((x1 ≤ 0 → wp_X0_was_22 o0 x1 post (σ 14 o0 0) σ) ∧ (¬ x1 ≤ 0 → (vp_in (x1 &&& 31) 32 ∧ wp_X0_was_22 o0 x1 post (σ 14 o0 ((x1 &&& 31).toNatClampNeg)) σ)))
set_option maxHeartbeats 4000000 in
set_option maxRecDepth 100000 in
theorem wk_X0_was_0 {p : Program} {l : Launch} {e : Env} {s : State} {m : MethodId} {below : List Frame} {meth : Method} {c : Code} {D : va_G} {q : ClassId × ClassId × ClassId × ClassId} {ad : Nat → Nat → Nat} {t : Nat × Nat} {aK aV : Nat → Nat} {args : Array Value} (S : CallFix p m c cX0_was 2 s args GW "OnChin$Balance") (V : EvC D q ad t aK aV s) (hr : meth.sig.returnType = (some .int)) (hlocks : meth.locks = false) (o0 : Nat) (x1 : Int32) (ho0 : o0 < 5) (post : Int32 → St → Prop)  : ∀ (σ : St) (H : Heap) (locs : List Loc) (ls : Array Slot), wp_X0_was o0 x1 post  σ → wo D clA LC ad s.heap H locs (EC q ad σ) → lv_has ls 2 [(0, .ref (ad 13 o0)), (1, .int x1)] → W p l e { frames := 0, cells := 0, slots := 0, locals := 0 } s m args below meth c H locs 0 0 (MQ below (zQi D clA LC ad (EC q ad) post) args s 0 0 (zA LC ad)) (F0 m 0 ls []) := by
  have hx := S.1
  have hb := S.2.1
  intro  σ H locs ls h  hw hl
  refine lv_iload_n hx hb dX0_was_0 rfl (lv_at hl 1 rfl) ?_
  refine lv_if_le (tgt := 16) hx hb dX0_was_1 (by decide) (fun hc => ?_) (fun hc => ?_)
  · have h := h.1 hc
    refine lv_aload_n hx hb dX0_was_16 rfl (lv_at hl 0 rfl) ?_
    refine gC_13_6 S V hw ho0 fl_X0_30 dX0_was_17 ?_
    refine lv_iconst (v := 0) hx hb dX0_was_20 (by decide) ?_
    refine aC_14 S V hw ho0 (vp_in_nI (n := 0) (Nat.le_of_ble_eq_true rfl) (Nat.le_of_ble_eq_true rfl)) (z := (σ 14 o0 0)) rfl dX0_was_21 ?_
    exact wk_X0_was_22 S V hr hlocks o0 x1 ho0  post  (σ 14 o0 0) _ _ _ _ h  hw (lv_sub hl [0, 1] rfl)
  · have h := h.2 hc
    refine lv_aload_n hx hb dX0_was_4 rfl (lv_at hl 0 rfl) ?_
    refine gC_13_6 S V hw ho0 fl_X0_30 dX0_was_5 ?_
    refine lv_iload_n hx hb dX0_was_8 rfl (lv_at hl 1 rfl) ?_
    refine lv_bipush (v := 31) hx hb dX0_was_9 (by decide) ?_
    refine lv_iand hx hb dX0_was_11 ?_
    refine aC_14 S V hw ho0 h.1 (z := (σ 14 o0 ((x1 &&& 31).toNatClampNeg))) rfl dX0_was_12 ?_
    have h := h.2
    refine lv_goto (tgt := 22) hx hb dX0_was_13 (by decide) ?_
    exact wk_X0_was_22 S V hr hlocks o0 x1 ho0  post  (σ 14 o0 ((x1 &&& 31).toNatClampNeg)) _ _ _ _ h  hw (lv_sub hl [0, 1] rfl)
theorem mt_X0_was (l : Launch) (D : va_G) (q : ClassId × ClassId × ClassId × ClassId) (ad : Nat → Nat → Nat) (t : Nat × Nat) (aK aV : Nat → Nat) (o0 : Nat) (x1 : Int32) (ho0 : o0 < 5) (σ : St) (post : Int32 → St → Prop) (h : wp_X0_was o0 x1 post σ) : cI l D clA LC ad (EC q ad) (EvC D q ad t aK aV) yX0_was cX0_was 2 (some .int) { frames := 0, cells := 0, slots := 0, locals := 0 } [.ref (ad 13 o0), .int x1] σ post :=
  ent_i (by decide) (Nat.le_of_ble_eq_true rfl) (fun p e s m below meth c S V hr hlocks hw ls hl => wk_X0_was_0 S V hr hlocks o0 x1 ho0 post   σ _ _ ls h  hw (lv_sub hl [0, 1] rfl))
def wp_X8_limited_19 (x0 : Int32) (x1 : Int32) (post : Int32 → St → Prop) (xs0 : Int32) (σ : St) : Prop := post xs0 σ
set_option maxHeartbeats 4000000 in
set_option maxRecDepth 100000 in
theorem wk_X8_limited_19 {p : Program} {l : Launch} {e : Env} {s : State} {m : MethodId} {below : List Frame} {meth : Method} {c : Code} {D : va_G} {q : ClassId × ClassId × ClassId × ClassId} {ad : Nat → Nat → Nat} {t : Nat × Nat} {aK aV : Nat → Nat} {args : Array Value} (S : CallFix p m c cX8_limited 2 s args GW "OnChin") (V : EvC D q ad t aK aV s) (hr : meth.sig.returnType = (some .int)) (hlocks : meth.locks = false) (x0 : Int32) (x1 : Int32) (post : Int32 → St → Prop)  : ∀ (xs0 : Int32) (σ : St) (H : Heap) (locs : List Loc) (ls : Array Slot), wp_X8_limited_19 x0 x1 post xs0 σ → wo D clA LC ad s.heap H locs (EC q ad σ) → lv_has ls 2 [(0, .int x0), (1, .int x1)] → W p l e { frames := 0, cells := 0, slots := 0, locals := 0 } s m args below meth c H locs 0 0 (MQ below (zQi D clA LC ad (EC q ad) post) args s 0 0 (zA LC ad)) (F0 m 19 ls [.int xs0]) := by
  have hx := S.1
  have hb := S.2.1
  intro xs0 σ H locs ls h  hw hl
  exact ret_i S hr hlocks hw h dX8_limited_19
def wp_X8_limited (x0 : Int32) (x1 : Int32) (post : Int32 → St → Prop)  (σ : St) : Prop := ((x0 ≤ x1 → (((-x1) ≤ x0 → wp_X8_limited_19 x0 x1 post x0 σ) ∧ (¬ (-x1) ≤ x0 → wp_X8_limited_19 x0 x1 post (-x1) σ))) ∧ (¬ x0 ≤ x1 → post x1 σ))
set_option maxHeartbeats 4000000 in
set_option maxRecDepth 100000 in
theorem wk_X8_limited_0 {p : Program} {l : Launch} {e : Env} {s : State} {m : MethodId} {below : List Frame} {meth : Method} {c : Code} {D : va_G} {q : ClassId × ClassId × ClassId × ClassId} {ad : Nat → Nat → Nat} {t : Nat × Nat} {aK aV : Nat → Nat} {args : Array Value} (S : CallFix p m c cX8_limited 2 s args GW "OnChin") (V : EvC D q ad t aK aV s) (hr : meth.sig.returnType = (some .int)) (hlocks : meth.locks = false) (x0 : Int32) (x1 : Int32) (post : Int32 → St → Prop)  : ∀ (σ : St) (H : Heap) (locs : List Loc) (ls : Array Slot), wp_X8_limited x0 x1 post  σ → wo D clA LC ad s.heap H locs (EC q ad σ) → lv_has ls 2 [(0, .int x0), (1, .int x1)] → W p l e { frames := 0, cells := 0, slots := 0, locals := 0 } s m args below meth c H locs 0 0 (MQ below (zQi D clA LC ad (EC q ad) post) args s 0 0 (zA LC ad)) (F0 m 0 ls []) := by
  have hx := S.1
  have hb := S.2.1
  intro  σ H locs ls h  hw hl
  refine lv_iload_n hx hb dX8_limited_0 rfl (lv_at hl 0 rfl) ?_
  refine lv_iload_n hx hb dX8_limited_1 rfl (lv_at hl 1 rfl) ?_
  refine lv_icmp_le (tgt := 7) hx hb dX8_limited_2 (by decide) (fun hc => ?_) (fun hc => ?_)
  · have h := h.1 hc
    refine lv_iload_n hx hb dX8_limited_7 rfl (lv_at hl 0 rfl) ?_
    refine lv_iload_n hx hb dX8_limited_8 rfl (lv_at hl 1 rfl) ?_
    refine lv_ineg hx hb dX8_limited_9 ?_
    refine lv_icmp_ge (tgt := 18) hx hb dX8_limited_10 (by decide) (fun hc => ?_) (fun hc => ?_)
    · have h := h.1 hc
      refine lv_iload_n hx hb dX8_limited_18 rfl (lv_at hl 0 rfl) ?_
      exact wk_X8_limited_19 S V hr hlocks x0 x1   post  x0 _ _ _ _ h  hw (lv_sub hl [0, 1] rfl)
    · have h := h.2 hc
      refine lv_iload_n hx hb dX8_limited_13 rfl (lv_at hl 1 rfl) ?_
      refine lv_ineg hx hb dX8_limited_14 ?_
      refine lv_goto (tgt := 19) hx hb dX8_limited_15 (by decide) ?_
      exact wk_X8_limited_19 S V hr hlocks x0 x1   post  (-x1) _ _ _ _ h  hw (lv_sub hl [0, 1] rfl)
  · have h := h.2 hc
    refine lv_iload_n hx hb dX8_limited_5 rfl (lv_at hl 1 rfl) ?_
    exact ret_i S hr hlocks hw h dX8_limited_6
theorem mt_X8_limited (l : Launch) (D : va_G) (q : ClassId × ClassId × ClassId × ClassId) (ad : Nat → Nat → Nat) (t : Nat × Nat) (aK aV : Nat → Nat) (x0 : Int32) (x1 : Int32) (σ : St) (post : Int32 → St → Prop) (h : wp_X8_limited x0 x1 post σ) : cI l D clA LC ad (EC q ad) (EvC D q ad t aK aV) yX8_limited cX8_limited 2 (some .int) { frames := 0, cells := 0, slots := 0, locals := 0 } [.int x0, .int x1] σ post :=
  ent_i (by decide) (Nat.le_of_ble_eq_true rfl) (fun p e s m below meth c S V hr hlocks hw ls hl => wk_X8_limited_0 S V hr hlocks x0 x1  post   σ _ _ ls h  hw (lv_sub hl [0, 1] rfl))
def wp_X8_wish (o0 : Nat) (x1 : Int32) (x2 : Int32) (post : Int32 → St → Prop)  (σ : St) : Prop := (((σ 6 o0 4) ≤ (if 0 ≤ x1 then x1 else 0 - x1) → wp_X8_limited ((((σ 6 o0 0) * x1) + ((σ 6 o0 1) * (x1 - x2))) / 10) (σ 6 o0 3) (fun r1 σ1 => post r1 σ1) σ) ∧ (¬ (σ 6 o0 4) ≤ (if 0 ≤ x1 then x1 else 0 - x1) → post 0 σ))
set_option maxHeartbeats 4000000 in
set_option maxRecDepth 100000 in
theorem wk_X8_wish_0 {p : Program} {l : Launch} {e : Env} {s : State} {m : MethodId} {below : List Frame} {meth : Method} {c : Code} {D : va_G} {q : ClassId × ClassId × ClassId × ClassId} {ad : Nat → Nat → Nat} {t : Nat × Nat} {aK aV : Nat → Nat} {args : Array Value} (S : CallFix p m c cX8_wish 3 s args GW "OnChin") (V : EvC D q ad t aK aV s) (hr : meth.sig.returnType = (some .int)) (hlocks : meth.locks = false) (o0 : Nat) (x1 : Int32) (x2 : Int32) (ho0 : o0 < 3) (post : Int32 → St → Prop)  : ∀ (σ : St) (H : Heap) (locs : List Loc) (ls : Array Slot), wp_X8_wish o0 x1 x2 post  σ → wo D clA LC ad s.heap H locs (EC q ad σ) → lv_has ls 3 [(0, .ref (ad 6 o0)), (1, .int x1), (2, .int x2)] → W p l e { frames := 1, cells := 0, slots := 0, locals := 21 } s m args below meth c H locs 0 0 (MQ below (zQi D clA LC ad (EC q ad) post) args s 0 0 (zA LC ad)) (F0 m 0 ls []) := by
  have hx := S.1
  have hb := S.2.1
  intro  σ H locs ls h  hw hl
  refine lv_iload_n hx hb dX8_wish_0 rfl (lv_at hl 1 rfl) ?_
  refine x_abs S hl.1 ml_X8_262 ws_abs wi_J9 wc_abs (Nat.le_of_ble_eq_true rfl) (Nat.le_of_ble_eq_true rfl) dX8_wish_1 ?_
  refine lv_aload_n hx hb dX8_wish_4 rfl (lv_at hl 0 rfl) ?_
  refine lv_iconst (v := 4) hx hb dX8_wish_5 (by decide) ?_
  refine aC_6 S V hw ho0 (vp_in_nI (n := 4) (Nat.le_of_ble_eq_true rfl) (Nat.le_of_ble_eq_true rfl)) (z := (σ 6 o0 4)) rfl dX8_wish_6 ?_
  refine lv_icmp_ge (tgt := 12) hx hb dX8_wish_7 (by decide) (fun hc => ?_) (fun hc => ?_)
  · have h := h.1 hc
    refine lv_aload_n hx hb dX8_wish_12 rfl (lv_at hl 0 rfl) ?_
    refine lv_iconst (v := 0) hx hb dX8_wish_13 (by decide) ?_
    refine aC_6 S V hw ho0 (vp_in_nI (n := 0) (Nat.le_of_ble_eq_true rfl) (Nat.le_of_ble_eq_true rfl)) (z := (σ 6 o0 0)) rfl dX8_wish_14 ?_
    refine lv_iload_n hx hb dX8_wish_15 rfl (lv_at hl 1 rfl) ?_
    refine lv_imul hx hb dX8_wish_16 ?_
    refine lv_aload_n hx hb dX8_wish_17 rfl (lv_at hl 0 rfl) ?_
    refine lv_iconst (v := 1) hx hb dX8_wish_18 (by decide) ?_
    refine aC_6 S V hw ho0 (vp_in_nI (n := 1) (Nat.le_of_ble_eq_true rfl) (Nat.le_of_ble_eq_true rfl)) (z := (σ 6 o0 1)) rfl dX8_wish_19 ?_
    refine lv_iload_n hx hb dX8_wish_20 rfl (lv_at hl 1 rfl) ?_
    refine lv_iload_n hx hb dX8_wish_21 rfl (lv_at hl 2 rfl) ?_
    refine lv_isub hx hb dX8_wish_22 ?_
    refine lv_imul hx hb dX8_wish_23 ?_
    refine lv_iadd hx hb dX8_wish_24 ?_
    refine lv_bipush (v := 10) hx hb dX8_wish_25 (by decide) ?_
    refine lv_idiv hx hb dX8_wish_27 (by decide) ?_
    refine lv_aload_n hx hb dX8_wish_28 rfl (lv_at hl 0 rfl) ?_
    refine lv_iconst (v := 3) hx hb dX8_wish_29 (by decide) ?_
    refine aC_6 S V hw ho0 (vp_in_nI (n := 3) (Nat.le_of_ble_eq_true rfl) (Nat.le_of_ble_eq_true rfl)) (z := (σ 6 o0 3)) rfl dX8_wish_30 ?_
    refine call_Si (As := [.int ((((σ 6 o0 0) * x1) + ((σ 6 o0 1) * (x1 - x2))) / 10), .int (σ 6 o0 3)]) (rest := []) EvC_ok S V hw (mt_X8_limited l D q ad t aK aV ((((σ 6 o0 0) * x1) + ((σ 6 o0 1) * (x1 - x2))) / 10) (σ 6 o0 3)  σ _ h) ok_X8_limited ml_X8_267 ⟨(Nat.le_of_ble_eq_true rfl), (Nat.le_of_ble_eq_true rfl)⟩ ⟨rfl, rfl⟩ rfl hl.1 rfl (Nat.le_of_ble_eq_true rfl) dX8_wish_31 (fun r1 σ1 H locs h hw => ?_)
    exact ret_i S hr hlocks hw h dX8_wish_34
  · have h := h.2 hc
    refine lv_iconst (v := 0) hx hb dX8_wish_10 (by decide) ?_
    exact ret_i S hr hlocks hw h dX8_wish_11
theorem mt_X8_wish (l : Launch) (D : va_G) (q : ClassId × ClassId × ClassId × ClassId) (ad : Nat → Nat → Nat) (t : Nat × Nat) (aK aV : Nat → Nat) (o0 : Nat) (x1 : Int32) (x2 : Int32) (ho0 : o0 < 3) (σ : St) (post : Int32 → St → Prop) (h : wp_X8_wish o0 x1 x2 post σ) : cI l D clA LC ad (EC q ad) (EvC D q ad t aK aV) yX8_wish cX8_wish 3 (some .int) { frames := 1, cells := 0, slots := 0, locals := 21 } [.ref (ad 6 o0), .int x1, .int x2] σ post :=
  ent_i (by decide) (Nat.le_of_ble_eq_true rfl) (fun p e s m below meth c S V hr hlocks hw ls hl => wk_X8_wish_0 S V hr hlocks o0 x1 x2 ho0 post   σ _ _ ls h  hw (lv_sub hl [0, 1, 2] rfl))
def wp_X0_move (o0 : Nat) (o1 : Nat) (o2 : Nat) (post : Int32 → St → Prop)  (σ : St) : Prop := wp_X6_seenLater o1 (fun r1 σ1 => wp_X0_was o0 (((σ 13 o0 4) - (σ 6 o2 2)) - r1) (fun r2 σ2 => wp_X0_was o0 ((((σ 13 o0 4) - (σ 6 o2 2)) - r1) - 1) (fun r3 σ3 => wp_X8_wish o2 r2 r3 (fun r4 σ4 => wp_X8_limited ((σ4 13 o0 3) + r4) (σ4 6 o2 5) (fun r5 σ5 => post (r5 - (σ5 13 o0 3)) σ5) σ4) σ3) σ2) σ1) σ
set_option maxHeartbeats 4000000 in
set_option maxRecDepth 100000 in
theorem wk_X0_move_0 {p : Program} {l : Launch} {e : Env} {s : State} {m : MethodId} {below : List Frame} {meth : Method} {c : Code} {D : va_G} {q : ClassId × ClassId × ClassId × ClassId} {ad : Nat → Nat → Nat} {t : Nat × Nat} {aK aV : Nat → Nat} {args : Array Value} (S : CallFix p m c cX0_move 5 s args GW "OnChin$Balance") (V : EvC D q ad t aK aV s) (hr : meth.sig.returnType = (some .int)) (hlocks : meth.locks = false) (o0 : Nat) (o1 : Nat) (o2 : Nat) (ho0 : o0 < 5) (ho1 : o1 < 5) (ho2 : o2 < 3) (post : Int32 → St → Prop)  : ∀ (σ : St) (H : Heap) (locs : List Loc) (ls : Array Slot), wp_X0_move o0 o1 o2 post  σ → wo D clA LC ad s.heap H locs (EC q ad σ) → lv_has ls 5 [(0, .ref (ad 13 o0)), (1, .ref (ad 2 o1)), (2, .ref (ad 6 o2))] → W p l e { frames := 2, cells := 0, slots := 0, locals := 43 } s m args below meth c H locs 0 0 (MQ below (zQi D clA LC ad (EC q ad) post) args s 0 0 (zA LC ad)) (F0 m 0 ls []) := by
  have hx := S.1
  have hb := S.2.1
  intro  σ H locs ls h  hw hl
  have h : wp_X6_seenLater o1 (fun r1 σ1 => wp_X0_was o0 (((σ 13 o0 4) - (σ 6 o2 2)) - r1) (fun r2 σ2 => wp_X0_was o0 ((((σ 13 o0 4) - (σ 6 o2 2)) - r1) - 1) (fun r3 σ3 => wp_X8_wish o2 r2 r3 (fun r4 σ4 => wp_X8_limited ((σ4 13 o0 3) + r4) (σ4 6 o2 5) (fun r5 σ5 => post (r5 - (σ5 13 o0 3)) σ5) σ4) σ3) σ2) σ1) σ := h
  refine lv_aload_n hx hb dX0_move_0 rfl (lv_at hl 0 rfl) ?_
  refine gC_13_4 S V hw ho0 fl_X0_24 rfl dX0_move_1 ?_
  refine lv_aload_n hx hb dX0_move_4 rfl (lv_at hl 2 rfl) ?_
  refine lv_iconst (v := 2) hx hb dX0_move_5 (by decide) ?_
  refine aC_6 S V hw ho2 (vp_in_nI (n := 2) (Nat.le_of_ble_eq_true rfl) (Nat.le_of_ble_eq_true rfl)) (z := (σ 6 o2 2)) rfl dX0_move_6 ?_
  refine lv_isub hx hb dX0_move_7 ?_
  refine lv_aload_n hx hb dX0_move_8 rfl (lv_at hl 1 rfl) ?_
  refine call_Vi (As := []) (rest := [.int ((σ 13 o0 4) - (σ 6 o2 2))]) EvC_ok S V hw (mt_X6_seenLater l D q ad t aK aV o1 ho1 σ _ h) ok_X6_seenLater ml_X0_50 (rC_2 S V hw ho1) ⟨(Nat.le_of_ble_eq_true rfl), (Nat.le_of_ble_eq_true rfl)⟩ ⟨rfl, rfl⟩ rfl hl.1 rfl (Nat.le_of_ble_eq_true rfl) dX0_move_9 (fun r1 σ1 H locs h hw => ?_)
  refine lv_isub hx hb dX0_move_12 ?_
  refine lv_istore_n (lv' := [(3, .int (((σ 13 o0 4) - (σ 6 o2 2)) - r1)), (0, .ref (ad 13 o0)), (1, .ref (ad 2 o1)), (2, .ref (ad 6 o2))]) hx hb dX0_move_13 rfl hl (by decide) rfl (fun ls hl => ?_)
  refine lv_aload_n hx hb dX0_move_14 rfl (lv_at hl 3 rfl) ?_
  refine lv_aload_n hx hb dX0_move_15 rfl (lv_at hl 1 rfl) ?_
  refine lv_iload_n hx hb dX0_move_16 rfl (lv_at hl 0 rfl) ?_
  refine call_Vi (As := [.int (((σ 13 o0 4) - (σ 6 o2 2)) - r1)]) (rest := [.ref (ad 6 o2)]) EvC_ok S V hw (mt_X0_was l D q ad t aK aV o0 (((σ 13 o0 4) - (σ 6 o2 2)) - r1) ho0 σ1 _ h) ok_X0_was ml_X0_54 (rC_13 S V hw ho0) ⟨(Nat.le_of_ble_eq_true rfl), (Nat.le_of_ble_eq_true rfl)⟩ ⟨rfl, rfl⟩ rfl hl.1 rfl (Nat.le_of_ble_eq_true rfl) dX0_move_17 (fun r2 σ2 H locs h hw => ?_)
  refine lv_aload_n hx hb dX0_move_20 rfl (lv_at hl 1 rfl) ?_
  refine lv_iload_n hx hb dX0_move_21 rfl (lv_at hl 0 rfl) ?_
  refine lv_iconst (v := 1) hx hb dX0_move_22 (by decide) ?_
  refine lv_isub hx hb dX0_move_23 ?_
  refine call_Vi (As := [.int ((((σ 13 o0 4) - (σ 6 o2 2)) - r1) - 1)]) (rest := [.int r2, .ref (ad 6 o2)]) EvC_ok S V hw (mt_X0_was l D q ad t aK aV o0 ((((σ 13 o0 4) - (σ 6 o2 2)) - r1) - 1) ho0 σ2 _ h) ok_X0_was ml_X0_54 (rC_13 S V hw ho0) ⟨(Nat.le_of_ble_eq_true rfl), (Nat.le_of_ble_eq_true rfl)⟩ ⟨rfl, rfl⟩ rfl hl.1 rfl (Nat.le_of_ble_eq_true rfl) dX0_move_24 (fun r3 σ3 H locs h hw => ?_)
  refine call_SNi (As := [.ref (ad 6 o2), .int r2, .int r3]) (rest := []) EvC_ok S V hw (mt_X8_wish l D q ad t aK aV o2 r2 r3 ho2 σ3 _ h) ok_X8_wish (V.2.2.1 _ (List.mem_of_getElem? (i := 11) rfl)) ⟨(Nat.le_of_ble_eq_true rfl), (Nat.le_of_ble_eq_true rfl)⟩ ⟨rfl, rfl⟩ rfl hl.1 rfl (Nat.le_of_ble_eq_true rfl) dX0_move_27 (fun r4 σ4 H locs h hw => ?_)
  refine lv_istore (lv' := [(4, .int r4), (3, .int (((σ 13 o0 4) - (σ 6 o2 2)) - r1)), (0, .ref (ad 13 o0)), (1, .ref (ad 2 o1)), (2, .ref (ad 6 o2))]) hx hb dX0_move_30 hl (by decide) rfl (fun ls hl => ?_)
  refine lv_aload_n hx hb dX0_move_32 rfl (lv_at hl 2 rfl) ?_
  refine gC_13_3 S V hw ho0 fl_X0_21 rfl dX0_move_33 ?_
  refine lv_iload hx hb dX0_move_36 (lv_at hl 0 rfl) ?_
  refine lv_iadd hx hb dX0_move_38 ?_
  refine lv_aload_n hx hb dX0_move_39 rfl (lv_at hl 4 rfl) ?_
  refine lv_iconst (v := 5) hx hb dX0_move_40 (by decide) ?_
  refine aC_6 S V hw ho2 (vp_in_nI (n := 5) (Nat.le_of_ble_eq_true rfl) (Nat.le_of_ble_eq_true rfl)) (z := (σ4 6 o2 5)) rfl dX0_move_41 ?_
  refine call_SNi (As := [.int ((σ4 13 o0 3) + r4), .int (σ4 6 o2 5)]) (rest := []) EvC_ok S V hw (mt_X8_limited l D q ad t aK aV ((σ4 13 o0 3) + r4) (σ4 6 o2 5)  σ4 _ h) ok_X8_limited (V.2.2.1 _ (List.mem_of_getElem? (i := 12) rfl)) ⟨(Nat.le_of_ble_eq_true rfl), (Nat.le_of_ble_eq_true rfl)⟩ ⟨rfl, rfl⟩ rfl hl.1 rfl (Nat.le_of_ble_eq_true rfl) dX0_move_42 (fun r5 σ5 H locs h hw => ?_)
  refine lv_aload_n hx hb dX0_move_45 rfl (lv_at hl 2 rfl) ?_
  refine gC_13_3 S V hw ho0 fl_X0_21 rfl dX0_move_46 ?_
  refine lv_isub hx hb dX0_move_49 ?_
  exact ret_i S hr hlocks hw h dX0_move_50
theorem mt_X0_move (l : Launch) (D : va_G) (q : ClassId × ClassId × ClassId × ClassId) (ad : Nat → Nat → Nat) (t : Nat × Nat) (aK aV : Nat → Nat) (o0 : Nat) (o1 : Nat) (o2 : Nat) (ho0 : o0 < 5) (ho1 : o1 < 5) (ho2 : o2 < 3) (σ : St) (post : Int32 → St → Prop) (h : wp_X0_move o0 o1 o2 post σ) : cI l D clA LC ad (EC q ad) (EvC D q ad t aK aV) yX0_move cX0_move 5 (some .int) { frames := 2, cells := 0, slots := 0, locals := 43 } [.ref (ad 13 o0), .ref (ad 2 o1), .ref (ad 6 o2)] σ post :=
  ent_i (by decide) (Nat.le_of_ble_eq_true rfl) (fun p e s m below meth c S V hr hlocks hw ls hl => wk_X0_move_0 S V hr hlocks o0 o1 o2 ho0 ho1 ho2 post   σ _ _ ls h  hw (lv_sub hl [0, 1, 2] rfl))
def wp_X6_leaning_19 (o0 : Nat) (x1 : Int32) (x2 : Int32) (x3 : Int32) (post : Int32 → St → Prop) (xs0 : Int32) (σ : St) : Prop := ((¬ (σ 2 o0 0) = 1 → ((¬ (σ 2 o0 0) = 2 → post xs0 σ) ∧ ((σ 2 o0 0) = 2 → post (xs0 + ((x2 * (σ 2 o0 1)) / 20)) σ))) ∧ ((σ 2 o0 0) = 1 → post (xs0 - ((x1 * (σ 2 o0 1)) / 10)) σ))
set_option maxHeartbeats 4000000 in
set_option maxRecDepth 100000 in
theorem wk_X6_leaning_19 {p : Program} {l : Launch} {e : Env} {s : State} {m : MethodId} {below : List Frame} {meth : Method} {c : Code} {D : va_G} {q : ClassId × ClassId × ClassId × ClassId} {ad : Nat → Nat → Nat} {t : Nat × Nat} {aK aV : Nat → Nat} {args : Array Value} (S : CallFix p m c cX6_leaning 5 s args GW "OnChin$Thing") (V : EvC D q ad t aK aV s) (hr : meth.sig.returnType = (some .int)) (hlocks : meth.locks = false) (o0 : Nat) (x1 : Int32) (x2 : Int32) (x3 : Int32) (ho0 : o0 < 5) (post : Int32 → St → Prop)  : ∀ (xs0 : Int32) (σ : St) (H : Heap) (locs : List Loc) (ls : Array Slot), wp_X6_leaning_19 o0 x1 x2 x3 post xs0 σ → wo D clA LC ad s.heap H locs (EC q ad σ) → lv_has ls 5 [(0, .ref (ad 2 o0)), (1, .int x1), (2, .int x2), (3, .int x3)] → W p l e { frames := 0, cells := 0, slots := 0, locals := 0 } s m args below meth c H locs 0 0 (MQ below (zQi D clA LC ad (EC q ad) post) args s 0 0 (zA LC ad)) (F0 m 19 ls [.int xs0]) := by
  have hx := S.1
  have hb := S.2.1
  intro xs0 σ H locs ls h  hw hl
  refine lv_istore (lv' := [(4, .int xs0), (0, .ref (ad 2 o0)), (1, .int x1), (2, .int x2), (3, .int x3)]) hx hb dX6_leaning_19 hl (by decide) rfl (fun ls hl => ?_)
  refine lv_aload_n hx hb dX6_leaning_21 rfl (lv_at hl 1 rfl) ?_
  refine gC_2_0 S V hw ho0 fl_X6_9 rfl dX6_leaning_22 ?_
  refine lv_iconst (v := 1) hx hb dX6_leaning_25 (by decide) ?_
  refine lv_icmp_ne (tgt := 42) hx hb dX6_leaning_26 (by decide) (fun hc => ?_) (fun hc => ?_)
  · have h := h.1 hc
    refine lv_aload_n hx hb dX6_leaning_42 rfl (lv_at hl 1 rfl) ?_
    refine gC_2_0 S V hw ho0 fl_X6_9 rfl dX6_leaning_43 ?_
    refine lv_iconst (v := 2) hx hb dX6_leaning_46 (by decide) ?_
    refine lv_icmp_ne (tgt := 63) hx hb dX6_leaning_47 (by decide) (fun hc => ?_) (fun hc => ?_)
    · have h := h.1 hc
      refine lv_iload hx hb dX6_leaning_63 (lv_at hl 0 rfl) ?_
      exact ret_i S hr hlocks hw h dX6_leaning_65
    · have h := h.2 hc
      refine lv_iload hx hb dX6_leaning_50 (lv_at hl 0 rfl) ?_
      refine lv_iload_n hx hb dX6_leaning_52 rfl (lv_at hl 3 rfl) ?_
      refine lv_aload_n hx hb dX6_leaning_53 rfl (lv_at hl 1 rfl) ?_
      refine gC_2_1 S V hw ho0 fl_X6_15 rfl dX6_leaning_54 ?_
      refine lv_imul hx hb dX6_leaning_57 ?_
      refine lv_bipush (v := 20) hx hb dX6_leaning_58 (by decide) ?_
      refine lv_idiv hx hb dX6_leaning_60 (by decide) ?_
      refine lv_iadd hx hb dX6_leaning_61 ?_
      exact ret_i S hr hlocks hw h dX6_leaning_62
  · have h := h.2 hc
    refine lv_iload hx hb dX6_leaning_29 (lv_at hl 0 rfl) ?_
    refine lv_iload_n hx hb dX6_leaning_31 rfl (lv_at hl 2 rfl) ?_
    refine lv_aload_n hx hb dX6_leaning_32 rfl (lv_at hl 1 rfl) ?_
    refine gC_2_1 S V hw ho0 fl_X6_15 rfl dX6_leaning_33 ?_
    refine lv_imul hx hb dX6_leaning_36 ?_
    refine lv_bipush (v := 10) hx hb dX6_leaning_37 (by decide) ?_
    refine lv_idiv hx hb dX6_leaning_39 (by decide) ?_
    refine lv_isub hx hb dX6_leaning_40 ?_
    exact ret_i S hr hlocks hw h dX6_leaning_41
def wp_X6_leaning (o0 : Nat) (x1 : Int32) (x2 : Int32) (x3 : Int32) (post : Int32 → St → Prop)  (σ : St) : Prop := (((σ 2 o0 3) ≤ 0 → wp_X6_leaning_19 o0 x1 x2 x3 post 0 σ) ∧ (¬ (σ 2 o0 3) ≤ 0 → (¬ (σ 2 o0 3) = 0 ∧ wp_X6_leaning_19 o0 x1 x2 x3 post ((x1 * x3) / (σ 2 o0 3)) σ)))
set_option maxHeartbeats 4000000 in
set_option maxRecDepth 100000 in
theorem wk_X6_leaning_0 {p : Program} {l : Launch} {e : Env} {s : State} {m : MethodId} {below : List Frame} {meth : Method} {c : Code} {D : va_G} {q : ClassId × ClassId × ClassId × ClassId} {ad : Nat → Nat → Nat} {t : Nat × Nat} {aK aV : Nat → Nat} {args : Array Value} (S : CallFix p m c cX6_leaning 5 s args GW "OnChin$Thing") (V : EvC D q ad t aK aV s) (hr : meth.sig.returnType = (some .int)) (hlocks : meth.locks = false) (o0 : Nat) (x1 : Int32) (x2 : Int32) (x3 : Int32) (ho0 : o0 < 5) (post : Int32 → St → Prop)  : ∀ (σ : St) (H : Heap) (locs : List Loc) (ls : Array Slot), wp_X6_leaning o0 x1 x2 x3 post  σ → wo D clA LC ad s.heap H locs (EC q ad σ) → lv_has ls 5 [(0, .ref (ad 2 o0)), (1, .int x1), (2, .int x2), (3, .int x3)] → W p l e { frames := 0, cells := 0, slots := 0, locals := 0 } s m args below meth c H locs 0 0 (MQ below (zQi D clA LC ad (EC q ad) post) args s 0 0 (zA LC ad)) (F0 m 0 ls []) := by
  have hx := S.1
  have hb := S.2.1
  intro  σ H locs ls h  hw hl
  refine lv_aload_n hx hb dX6_leaning_0 rfl (lv_at hl 0 rfl) ?_
  refine gC_2_3 S V hw ho0 fl_X6_21 rfl dX6_leaning_1 ?_
  refine lv_if_le (tgt := 18) hx hb dX6_leaning_4 (by decide) (fun hc => ?_) (fun hc => ?_)
  · have h := h.1 hc
    refine lv_iconst (v := 0) hx hb dX6_leaning_18 (by decide) ?_
    exact wk_X6_leaning_19 S V hr hlocks o0 x1 x2 x3 ho0  post  0 _ _ _ _ h  hw (lv_sub hl [0, 1, 2, 3] rfl)
  · have h := h.2 hc
    refine lv_iload_n hx hb dX6_leaning_7 rfl (lv_at hl 1 rfl) ?_
    refine lv_iload_n hx hb dX6_leaning_8 rfl (lv_at hl 3 rfl) ?_
    refine lv_imul hx hb dX6_leaning_9 ?_
    refine lv_aload_n hx hb dX6_leaning_10 rfl (lv_at hl 0 rfl) ?_
    refine gC_2_3 S V hw ho0 fl_X6_21 rfl dX6_leaning_11 ?_
    refine lv_idiv hx hb dX6_leaning_14 h.1 ?_
    have h := h.2
    refine lv_goto (tgt := 19) hx hb dX6_leaning_15 (by decide) ?_
    exact wk_X6_leaning_19 S V hr hlocks o0 x1 x2 x3 ho0  post  ((x1 * x3) / (σ 2 o0 3)) _ _ _ _ h  hw (lv_sub hl [0, 1, 2, 3] rfl)
theorem mt_X6_leaning (l : Launch) (D : va_G) (q : ClassId × ClassId × ClassId × ClassId) (ad : Nat → Nat → Nat) (t : Nat × Nat) (aK aV : Nat → Nat) (o0 : Nat) (x1 : Int32) (x2 : Int32) (x3 : Int32) (ho0 : o0 < 5) (σ : St) (post : Int32 → St → Prop) (h : wp_X6_leaning o0 x1 x2 x3 post σ) : cI l D clA LC ad (EC q ad) (EvC D q ad t aK aV) yX6_leaning cX6_leaning 5 (some .int) { frames := 0, cells := 0, slots := 0, locals := 0 } [.ref (ad 2 o0), .int x1, .int x2, .int x3] σ post :=
  ent_i (by decide) (Nat.le_of_ble_eq_true rfl) (fun p e s m below meth c S V hr hlocks hw ls hl => wk_X6_leaning_0 S V hr hlocks o0 x1 x2 x3 ho0 post   σ _ _ ls h  hw (lv_sub hl [0, 1, 2, 3] rfl))
def wp_X0_tick_47 (o0 : Nat) (o1 : Nat) (o2 : Nat) (x3 : Int32) (x4 : Int32) (post : St → Prop) (x5 : Int32) (os0 : Nat) (xs1 : Int32) (σ : St) : Prop := wp_X6_leaning o1 (σ 13 o0 1) (σ 13 o0 2) x5 (fun r1 σ1 => (vp_in (((σ1 13 o0 4) + 1) &&& 31) 32 ∧ post (su (su (su (su (su σ1 13 o0 2 ((σ 13 o0 2) + ((r1 + (σ1 6 o2 8)) + x4))) 13 o0 1 ((σ1 13 o0 1) + (((σ 13 o0 2) + ((r1 + (σ1 6 o2 8)) + x4)) - (σ1 13 o0 5)))) 13 o0 3 ((σ1 13 o0 3) + (σ1 13 o0 5))) 13 o0 4 ((σ1 13 o0 4) + 1)) 14 o0 ((((σ1 13 o0 4) + 1) &&& 31).toNatClampNeg) ((σ1 13 o0 1) + (((σ 13 o0 2) + ((r1 + (σ1 6 o2 8)) + x4)) - (σ1 13 o0 5)))))) (su σ 13 os0 5 xs1)
set_option maxHeartbeats 4000000 in
set_option maxRecDepth 100000 in
theorem wk_X0_tick_47 {p : Program} {l : Launch} {e : Env} {s : State} {m : MethodId} {below : List Frame} {meth : Method} {c : Code} {D : va_G} {q : ClassId × ClassId × ClassId × ClassId} {ad : Nat → Nat → Nat} {t : Nat × Nat} {aK aV : Nat → Nat} {args : Array Value} (S : CallFix p m c cX0_tick 6 s args GW "OnChin$Balance") (V : EvC D q ad t aK aV s) (hr : meth.sig.returnType = none) (hlocks : meth.locks = false) (o0 : Nat) (o1 : Nat) (o2 : Nat) (x3 : Int32) (x4 : Int32) (ho0 : o0 < 5) (ho1 : o1 < 5) (ho2 : o2 < 3) (post : St → Prop)  : ∀ (x5 : Int32) (os0 : Nat) (xs1 : Int32) (σ : St) (H : Heap) (locs : List Loc) (ls : Array Slot), wp_X0_tick_47 o0 o1 o2 x3 x4 post x5 os0 xs1 σ → os0 < 5 → wo D clA LC ad s.heap H locs (EC q ad σ) → lv_has ls 6 [(0, .ref (ad 13 o0)), (1, .ref (ad 2 o1)), (2, .ref (ad 6 o2)), (3, .int x3), (4, .int x4), (5, .int x5)] → W p l e { frames := 3, cells := 0, slots := 0, locals := 67 } s m args below meth c H locs 0 0 (MQ below (zQv D clA LC ad (EC q ad) post) args s 0 0 (zA LC ad)) (F0 m 47 ls [.int xs1, .ref (ad 13 os0)]) := by
  have hx := S.1
  have hb := S.2.1
  intro x5 os0 xs1 σ H locs ls h hos0 hw hl
  have h : wp_X6_leaning o1 (σ 13 o0 1) (σ 13 o0 2) x5 (fun r1 σ1 => (vp_in (((σ1 13 o0 4) + 1) &&& 31) 32 ∧ post (su (su (su (su (su σ1 13 o0 2 ((σ 13 o0 2) + ((r1 + (σ1 6 o2 8)) + x4))) 13 o0 1 ((σ1 13 o0 1) + (((σ 13 o0 2) + ((r1 + (σ1 6 o2 8)) + x4)) - (σ1 13 o0 5)))) 13 o0 3 ((σ1 13 o0 3) + (σ1 13 o0 5))) 13 o0 4 ((σ1 13 o0 4) + 1)) 14 o0 ((((σ1 13 o0 4) + 1) &&& 31).toNatClampNeg) ((σ1 13 o0 1) + (((σ 13 o0 2) + ((r1 + (σ1 6 o2 8)) + x4)) - (σ1 13 o0 5)))))) (su σ 13 os0 5 xs1) := h
  refine pC_13_5 S V hw hos0 fl_X0_27 dX0_tick_47 (fun H locs hw => ?_)
  refine lv_aload_n hx hb dX0_tick_50 rfl (lv_at hl 0 rfl) ?_
  refine lv_dup hx hb dX0_tick_51 rfl ?_
  refine gC_13_2 S V hw ho0 fl_X0_18 (su_nk rfl) dX0_tick_52 ?_
  refine lv_aload_n hx hb dX0_tick_55 rfl (lv_at hl 1 rfl) ?_
  refine lv_aload_n hx hb dX0_tick_56 rfl (lv_at hl 0 rfl) ?_
  refine gC_13_1 S V hw ho0 fl_X0_15 (su_nk rfl) dX0_tick_57 ?_
  refine lv_aload_n hx hb dX0_tick_60 rfl (lv_at hl 0 rfl) ?_
  refine gC_13_2 S V hw ho0 fl_X0_18 (su_nk rfl) dX0_tick_61 ?_
  refine lv_iload hx hb dX0_tick_64 (lv_at hl 5 rfl) ?_
  refine call_Vi (As := [.int (σ 13 o0 1), .int (σ 13 o0 2), .int x5]) (rest := [.int (σ 13 o0 2), .ref (ad 13 o0)]) EvC_ok S V hw (mt_X6_leaning l D q ad t aK aV o1 (σ 13 o0 1) (σ 13 o0 2) x5 ho1 (su σ 13 os0 5 xs1) _ h) ok_X6_leaning ml_X0_44 (rC_2 S V hw ho1) ⟨(Nat.le_of_ble_eq_true rfl), (Nat.le_of_ble_eq_true rfl)⟩ ⟨rfl, rfl⟩ rfl hl.1 rfl (Nat.le_of_ble_eq_true rfl) dX0_tick_66 (fun r1 σ1 H locs h hw => ?_)
  refine lv_aload_n hx hb dX0_tick_69 rfl (lv_at hl 2 rfl) ?_
  refine lv_bipush (v := 8) hx hb dX0_tick_70 (by decide) ?_
  refine aC_6 S V hw ho2 (vp_in_nI (n := 8) (Nat.le_of_ble_eq_true rfl) (Nat.le_of_ble_eq_true rfl)) (z := (σ1 6 o2 8)) rfl dX0_tick_72 ?_
  refine lv_iadd hx hb dX0_tick_73 ?_
  refine lv_iload hx hb dX0_tick_74 (lv_at hl 4 rfl) ?_
  refine lv_iadd hx hb dX0_tick_76 ?_
  refine lv_iadd hx hb dX0_tick_77 ?_
  refine pC_13_2 S V hw ho0 fl_X0_18 dX0_tick_78 (fun H locs hw => ?_)
  refine lv_aload_n hx hb dX0_tick_81 rfl (lv_at hl 0 rfl) ?_
  refine lv_dup hx hb dX0_tick_82 rfl ?_
  refine gC_13_1 S V hw ho0 fl_X0_15 (su_nk rfl) dX0_tick_83 ?_
  refine lv_aload_n hx hb dX0_tick_86 rfl (lv_at hl 0 rfl) ?_
  refine gC_13_2 S V hw ho0 fl_X0_18 su_eq dX0_tick_87 ?_
  refine lv_aload_n hx hb dX0_tick_90 rfl (lv_at hl 0 rfl) ?_
  refine gC_13_5 S V hw ho0 fl_X0_27 (su_nk rfl) dX0_tick_91 ?_
  refine lv_isub hx hb dX0_tick_94 ?_
  refine lv_iadd hx hb dX0_tick_95 ?_
  refine pC_13_1 S V hw ho0 fl_X0_15 dX0_tick_96 (fun H locs hw => ?_)
  refine lv_aload_n hx hb dX0_tick_99 rfl (lv_at hl 0 rfl) ?_
  refine lv_dup hx hb dX0_tick_100 rfl ?_
  refine gC_13_3 S V hw ho0 fl_X0_21 ((su_nk rfl).trans (su_nk rfl)) dX0_tick_101 ?_
  refine lv_aload_n hx hb dX0_tick_104 rfl (lv_at hl 0 rfl) ?_
  refine gC_13_5 S V hw ho0 fl_X0_27 ((su_nk rfl).trans (su_nk rfl)) dX0_tick_105 ?_
  refine lv_iadd hx hb dX0_tick_108 ?_
  refine pC_13_3 S V hw ho0 fl_X0_21 dX0_tick_109 (fun H locs hw => ?_)
  refine lv_aload_n hx hb dX0_tick_112 rfl (lv_at hl 0 rfl) ?_
  refine lv_dup hx hb dX0_tick_113 rfl ?_
  refine gC_13_4 S V hw ho0 fl_X0_24 ((su_nk rfl).trans ((su_nk rfl).trans (su_nk rfl))) dX0_tick_114 ?_
  refine lv_iconst (v := 1) hx hb dX0_tick_117 (by decide) ?_
  refine lv_iadd hx hb dX0_tick_118 ?_
  refine pC_13_4 S V hw ho0 fl_X0_24 dX0_tick_119 (fun H locs hw => ?_)
  refine lv_aload_n hx hb dX0_tick_122 rfl (lv_at hl 0 rfl) ?_
  refine gC_13_6 S V hw ho0 fl_X0_30 dX0_tick_123 ?_
  refine lv_aload_n hx hb dX0_tick_126 rfl (lv_at hl 0 rfl) ?_
  refine gC_13_4 S V hw ho0 fl_X0_24 su_eq dX0_tick_127 ?_
  refine lv_bipush (v := 31) hx hb dX0_tick_130 (by decide) ?_
  refine lv_iand hx hb dX0_tick_132 ?_
  refine lv_aload_n hx hb dX0_tick_133 rfl (lv_at hl 0 rfl) ?_
  refine gC_13_1 S V hw ho0 fl_X0_15 ((su_nk rfl).trans ((su_nk rfl).trans su_eq)) dX0_tick_134 ?_
  refine sC_14 S V hw ho0 h.1 dX0_tick_137 (fun H locs hw => ?_)
  have h := h.2
  exact ret_v S hr hlocks hw h dX0_tick_138
def wp_X0_tick_30 (o0 : Nat) (o1 : Nat) (o2 : Nat) (x3 : Int32) (x4 : Int32) (post : St → Prop) (xs0 : Int32) (σ : St) : Prop := ((x3 = 0 → wp_X0_tick_47 o0 o1 o2 x3 x4 post xs0 o0 0 σ) ∧ (¬ x3 = 0 → wp_X0_move o0 o1 o2 (fun r1 σ1 => wp_X0_tick_47 o0 o1 o2 x3 x4 post xs0 o0 r1 σ1) σ))
set_option maxHeartbeats 4000000 in
set_option maxRecDepth 100000 in
theorem wk_X0_tick_30 {p : Program} {l : Launch} {e : Env} {s : State} {m : MethodId} {below : List Frame} {meth : Method} {c : Code} {D : va_G} {q : ClassId × ClassId × ClassId × ClassId} {ad : Nat → Nat → Nat} {t : Nat × Nat} {aK aV : Nat → Nat} {args : Array Value} (S : CallFix p m c cX0_tick 6 s args GW "OnChin$Balance") (V : EvC D q ad t aK aV s) (hr : meth.sig.returnType = none) (hlocks : meth.locks = false) (o0 : Nat) (o1 : Nat) (o2 : Nat) (x3 : Int32) (x4 : Int32) (ho0 : o0 < 5) (ho1 : o1 < 5) (ho2 : o2 < 3) (post : St → Prop)  : ∀ (xs0 : Int32) (σ : St) (H : Heap) (locs : List Loc) (ls : Array Slot), wp_X0_tick_30 o0 o1 o2 x3 x4 post xs0 σ → wo D clA LC ad s.heap H locs (EC q ad σ) → lv_has ls 6 [(0, .ref (ad 13 o0)), (1, .ref (ad 2 o1)), (2, .ref (ad 6 o2)), (3, .int x3), (4, .int x4)] → W p l e { frames := 3, cells := 0, slots := 0, locals := 67 } s m args below meth c H locs 0 0 (MQ below (zQv D clA LC ad (EC q ad) post) args s 0 0 (zA LC ad)) (F0 m 30 ls [.int xs0]) := by
  have hx := S.1
  have hb := S.2.1
  intro xs0 σ H locs ls h  hw hl
  refine lv_istore (lv' := [(5, .int xs0), (0, .ref (ad 13 o0)), (1, .ref (ad 2 o1)), (2, .ref (ad 6 o2)), (3, .int x3), (4, .int x4)]) hx hb dX0_tick_30 hl (by decide) rfl (fun ls hl => ?_)
  refine lv_aload_n hx hb dX0_tick_32 rfl (lv_at hl 1 rfl) ?_
  refine lv_iload_n hx hb dX0_tick_33 rfl (lv_at hl 4 rfl) ?_
  refine lv_if_eq (tgt := 46) hx hb dX0_tick_34 (by decide) (fun hc => ?_) (fun hc => ?_)
  · have h := h.1 hc
    refine lv_iconst (v := 0) hx hb dX0_tick_46 (by decide) ?_
    exact wk_X0_tick_47 S V hr hlocks o0 o1 o2 x3 x4 ho0 ho1 ho2  post  xs0 o0 0 _ _ _ _ h ho0 hw (lv_sub hl [1, 2, 3, 4, 5, 0] rfl)
  · have h := h.2 hc
    refine lv_aload_n hx hb dX0_tick_37 rfl (lv_at hl 1 rfl) ?_
    refine lv_aload_n hx hb dX0_tick_38 rfl (lv_at hl 2 rfl) ?_
    refine lv_aload_n hx hb dX0_tick_39 rfl (lv_at hl 3 rfl) ?_
    refine call_Vi (As := [.ref (ad 2 o1), .ref (ad 6 o2)]) (rest := [.ref (ad 13 o0)]) EvC_ok S V hw (mt_X0_move l D q ad t aK aV o0 o1 o2 ho0 ho1 ho2 σ _ h) ok_X0_move ml_X0_40 (rC_13 S V hw ho0) ⟨(Nat.le_of_ble_eq_true rfl), (Nat.le_of_ble_eq_true rfl)⟩ ⟨rfl, rfl⟩ rfl hl.1 rfl (Nat.le_of_ble_eq_true rfl) dX0_tick_40 (fun r1 σ1 H locs h hw => ?_)
    refine lv_goto (tgt := 47) hx hb dX0_tick_43 (by decide) ?_
    exact wk_X0_tick_47 S V hr hlocks o0 o1 o2 x3 x4 ho0 ho1 ho2  post  xs0 o0 r1 _ _ _ _ h ho0 hw (lv_sub hl [1, 2, 3, 4, 5, 0] rfl)
def wp_X0_tick (o0 : Nat) (o1 : Nat) (o2 : Nat) (x3 : Int32) (x4 : Int32) (post : St → Prop)  (σ : St) : Prop := ((¬ ((σ 13 o0 4) - (σ 13 o0 4) / 2 * 2) = 0 → wp_X0_tick_30 o0 o1 o2 x3 x4 post ((σ 6 o2 6) - (σ 6 o2 9)) σ) ∧ (((σ 13 o0 4) - (σ 13 o0 4) / 2 * 2) = 0 → wp_X0_tick_30 o0 o1 o2 x3 x4 post ((σ 6 o2 6) + (σ 6 o2 9)) σ))
set_option maxHeartbeats 4000000 in
set_option maxRecDepth 100000 in
theorem wk_X0_tick_0 {p : Program} {l : Launch} {e : Env} {s : State} {m : MethodId} {below : List Frame} {meth : Method} {c : Code} {D : va_G} {q : ClassId × ClassId × ClassId × ClassId} {ad : Nat → Nat → Nat} {t : Nat × Nat} {aK aV : Nat → Nat} {args : Array Value} (S : CallFix p m c cX0_tick 6 s args GW "OnChin$Balance") (V : EvC D q ad t aK aV s) (hr : meth.sig.returnType = none) (hlocks : meth.locks = false) (o0 : Nat) (o1 : Nat) (o2 : Nat) (x3 : Int32) (x4 : Int32) (ho0 : o0 < 5) (ho1 : o1 < 5) (ho2 : o2 < 3) (post : St → Prop)  : ∀ (σ : St) (H : Heap) (locs : List Loc) (ls : Array Slot), wp_X0_tick o0 o1 o2 x3 x4 post  σ → wo D clA LC ad s.heap H locs (EC q ad σ) → lv_has ls 6 [(0, .ref (ad 13 o0)), (1, .ref (ad 2 o1)), (2, .ref (ad 6 o2)), (3, .int x3), (4, .int x4)] → W p l e { frames := 3, cells := 0, slots := 0, locals := 67 } s m args below meth c H locs 0 0 (MQ below (zQv D clA LC ad (EC q ad) post) args s 0 0 (zA LC ad)) (F0 m 0 ls []) := by
  have hx := S.1
  have hb := S.2.1
  intro  σ H locs ls h  hw hl
  refine lv_aload_n hx hb dX0_tick_0 rfl (lv_at hl 0 rfl) ?_
  refine gC_13_4 S V hw ho0 fl_X0_24 rfl dX0_tick_1 ?_
  refine lv_iconst (v := 2) hx hb dX0_tick_4 (by decide) ?_
  refine lv_irem hx hb dX0_tick_5 (by decide) ?_
  refine lv_if_ne (tgt := 21) hx hb dX0_tick_6 (by decide) (fun hc => ?_) (fun hc => ?_)
  · have h := h.1 hc
    refine lv_aload_n hx hb dX0_tick_21 rfl (lv_at hl 2 rfl) ?_
    refine lv_bipush (v := 6) hx hb dX0_tick_22 (by decide) ?_
    refine aC_6 S V hw ho2 (vp_in_nI (n := 6) (Nat.le_of_ble_eq_true rfl) (Nat.le_of_ble_eq_true rfl)) (z := (σ 6 o2 6)) rfl dX0_tick_24 ?_
    refine lv_aload_n hx hb dX0_tick_25 rfl (lv_at hl 2 rfl) ?_
    refine lv_bipush (v := 9) hx hb dX0_tick_26 (by decide) ?_
    refine aC_6 S V hw ho2 (vp_in_nI (n := 9) (Nat.le_of_ble_eq_true rfl) (Nat.le_of_ble_eq_true rfl)) (z := (σ 6 o2 9)) rfl dX0_tick_28 ?_
    refine lv_isub hx hb dX0_tick_29 ?_
    exact wk_X0_tick_30 S V hr hlocks o0 o1 o2 x3 x4 ho0 ho1 ho2  post  ((σ 6 o2 6) - (σ 6 o2 9)) _ _ _ _ h  hw (lv_sub hl [0, 1, 2, 3, 4] rfl)
  · have h := h.2 hc
    refine lv_aload_n hx hb dX0_tick_9 rfl (lv_at hl 2 rfl) ?_
    refine lv_bipush (v := 6) hx hb dX0_tick_10 (by decide) ?_
    refine aC_6 S V hw ho2 (vp_in_nI (n := 6) (Nat.le_of_ble_eq_true rfl) (Nat.le_of_ble_eq_true rfl)) (z := (σ 6 o2 6)) rfl dX0_tick_12 ?_
    refine lv_aload_n hx hb dX0_tick_13 rfl (lv_at hl 2 rfl) ?_
    refine lv_bipush (v := 9) hx hb dX0_tick_14 (by decide) ?_
    refine aC_6 S V hw ho2 (vp_in_nI (n := 9) (Nat.le_of_ble_eq_true rfl) (Nat.le_of_ble_eq_true rfl)) (z := (σ 6 o2 9)) rfl dX0_tick_16 ?_
    refine lv_iadd hx hb dX0_tick_17 ?_
    refine lv_goto (tgt := 30) hx hb dX0_tick_18 (by decide) ?_
    exact wk_X0_tick_30 S V hr hlocks o0 o1 o2 x3 x4 ho0 ho1 ho2  post  ((σ 6 o2 6) + (σ 6 o2 9)) _ _ _ _ h  hw (lv_sub hl [0, 1, 2, 3, 4] rfl)
theorem mt_X0_tick (l : Launch) (D : va_G) (q : ClassId × ClassId × ClassId × ClassId) (ad : Nat → Nat → Nat) (t : Nat × Nat) (aK aV : Nat → Nat) (o0 : Nat) (o1 : Nat) (o2 : Nat) (x3 : Int32) (x4 : Int32) (ho0 : o0 < 5) (ho1 : o1 < 5) (ho2 : o2 < 3) (σ : St) (post : St → Prop) (h : wp_X0_tick o0 o1 o2 x3 x4 post σ) : cV l D clA LC ad (EC q ad) (EvC D q ad t aK aV) yX0_tick cX0_tick 6 none { frames := 3, cells := 0, slots := 0, locals := 67 } [.ref (ad 13 o0), .ref (ad 2 o1), .ref (ad 6 o2), .int x3, .int x4] σ post :=
  ent_v (by decide) (Nat.le_of_ble_eq_true rfl) (fun p e s m below meth c S V hr hlocks hw ls hl => wk_X0_tick_0 S V hr hlocks o0 o1 o2 x3 x4 ho0 ho1 ho2 post   σ _ _ ls h  hw (lv_sub hl [0, 1, 2, 3, 4] rfl))
def wp_X0_isAgain_47 (o0 : Nat) (o1 : Nat) (x2 : Int32) (post : Int32 → St → Prop)  (σ : St) : Prop := post 0 σ
set_option maxHeartbeats 4000000 in
set_option maxRecDepth 100000 in
theorem wk_X0_isAgain_47 {p : Program} {l : Launch} {e : Env} {s : State} {m : MethodId} {below : List Frame} {meth : Method} {c : Code} {D : va_G} {q : ClassId × ClassId × ClassId × ClassId} {ad : Nat → Nat → Nat} {t : Nat × Nat} {aK aV : Nat → Nat} {args : Array Value} (S : CallFix p m c cX0_isAgain 4 s args GW "OnChin$Balance") (V : EvC D q ad t aK aV s) (hr : meth.sig.returnType = (some .boolean)) (hlocks : meth.locks = false) (o0 : Nat) (o1 : Nat) (x2 : Int32) (ho0 : o0 < 5) (ho1 : o1 < 5) (post : Int32 → St → Prop)  : ∀ (σ : St) (H : Heap) (locs : List Loc) (ls : Array Slot), wp_X0_isAgain_47 o0 o1 x2 post  σ → wo D clA LC ad s.heap H locs (EC q ad σ) → lv_has ls 4 [(0, .ref (ad 13 o0)), (1, .ref (ad 13 o1)), (2, .int x2)] → W p l e { frames := 1, cells := 0, slots := 0, locals := 21 } s m args below meth c H locs 0 0 (MQ below (zQi D clA LC ad (EC q ad) post) args s 0 0 (zA LC ad)) (F0 m 47 ls []) := by
  have hx := S.1
  have hb := S.2.1
  intro  σ H locs ls h  hw hl
  refine lv_iconst (v := 0) hx hb dX0_isAgain_47 (by decide) ?_
  exact ret_z S hr hlocks hw (by decide) h dX0_isAgain_48
def wp_X0_isAgain_51 (o0 : Nat) (o1 : Nat) (x2 : Int32) (post : Int32 → St → Prop) : Nat → Int32 → St → Prop
  | 0 => fun _ _ => False
  | n + 1 => fun x3 σ => ((x2 < x3 → post 1 σ) ∧ (¬ x2 < x3 → wp_X0_was o0 ((σ 13 o0 4) - x3) (fun r1 σ1 => wp_X0_was o1 ((σ1 13 o1 4) - x3) (fun r2 σ2 => ((r1 = r2 → wp_X0_isAgain_51 o0 o1 x2 post n (x3 + 1) σ2) ∧ (¬ r1 = r2 → post 0 σ2))) σ1) σ))
set_option maxHeartbeats 4000000 in
set_option maxRecDepth 100000 in
theorem wk_X0_isAgain_51 {p : Program} {l : Launch} {e : Env} {s : State} {m : MethodId} {below : List Frame} {meth : Method} {c : Code} {D : va_G} {q : ClassId × ClassId × ClassId × ClassId} {ad : Nat → Nat → Nat} {t : Nat × Nat} {aK aV : Nat → Nat} {args : Array Value} (S : CallFix p m c cX0_isAgain 4 s args GW "OnChin$Balance") (V : EvC D q ad t aK aV s) (hr : meth.sig.returnType = (some .boolean)) (hlocks : meth.locks = false) (o0 : Nat) (o1 : Nat) (x2 : Int32) (ho0 : o0 < 5) (ho1 : o1 < 5) (post : Int32 → St → Prop)  : ∀ (n : Nat) (x3 : Int32) (σ : St) (H : Heap) (locs : List Loc) (ls : Array Slot), wp_X0_isAgain_51 o0 o1 x2 post n x3 σ → wo D clA LC ad s.heap H locs (EC q ad σ) → lv_has ls 4 [(0, .ref (ad 13 o0)), (1, .ref (ad 13 o1)), (2, .int x2), (3, .int x3)] → W p l e { frames := 1, cells := 0, slots := 0, locals := 21 } s m args below meth c H locs 0 0 (MQ below (zQi D clA LC ad (EC q ad) post) args s 0 0 (zA LC ad)) (F0 m 51 ls []) := by
  have hx := S.1
  have hb := S.2.1
  intro n
  induction n with
  | zero => intro x3 σ H locs ls h; exact False.elim h
  | succ n ih =>
    intro x3 σ H locs ls h  hw hl
    refine lv_iload_n hx hb dX0_isAgain_51 rfl (lv_at hl 3 rfl) ?_
    refine lv_iload_n hx hb dX0_isAgain_52 rfl (lv_at hl 2 rfl) ?_
    refine lv_icmp_gt (tgt := 87) hx hb dX0_isAgain_53 (by decide) (fun hc => ?_) (fun hc => ?_)
    · have h := h.1 hc
      refine lv_iconst (v := 1) hx hb dX0_isAgain_87 (by decide) ?_
      exact ret_z S hr hlocks hw (by decide) h dX0_isAgain_88
    · have h := h.2 hc
      refine lv_aload_n hx hb dX0_isAgain_56 rfl (lv_at hl 0 rfl) ?_
      refine lv_aload_n hx hb dX0_isAgain_57 rfl (lv_at hl 0 rfl) ?_
      refine gC_13_4 S V hw ho0 fl_X0_24 rfl dX0_isAgain_58 ?_
      refine lv_iload_n hx hb dX0_isAgain_61 rfl (lv_at hl 3 rfl) ?_
      refine lv_isub hx hb dX0_isAgain_62 ?_
      refine call_Vi (As := [.int ((σ 13 o0 4) - x3)]) (rest := []) EvC_ok S V hw (mt_X0_was l D q ad t aK aV o0 ((σ 13 o0 4) - x3) ho0 σ _ h) ok_X0_was ml_X0_54 (rC_13 S V hw ho0) ⟨(Nat.le_of_ble_eq_true rfl), (Nat.le_of_ble_eq_true rfl)⟩ ⟨rfl, rfl⟩ rfl hl.1 rfl (Nat.le_of_ble_eq_true rfl) dX0_isAgain_63 (fun r1 σ1 H locs h hw => ?_)
      refine lv_aload_n hx hb dX0_isAgain_66 rfl (lv_at hl 1 rfl) ?_
      refine lv_aload_n hx hb dX0_isAgain_67 rfl (lv_at hl 1 rfl) ?_
      refine gC_13_4 S V hw ho1 fl_X0_24 rfl dX0_isAgain_68 ?_
      refine lv_iload_n hx hb dX0_isAgain_71 rfl (lv_at hl 3 rfl) ?_
      refine lv_isub hx hb dX0_isAgain_72 ?_
      refine call_Vi (As := [.int ((σ1 13 o1 4) - x3)]) (rest := [.int r1]) EvC_ok S V hw (mt_X0_was l D q ad t aK aV o1 ((σ1 13 o1 4) - x3) ho1 σ1 _ h) ok_X0_was ml_X0_54 (rC_13 S V hw ho1) ⟨(Nat.le_of_ble_eq_true rfl), (Nat.le_of_ble_eq_true rfl)⟩ ⟨rfl, rfl⟩ rfl hl.1 rfl (Nat.le_of_ble_eq_true rfl) dX0_isAgain_73 (fun r2 σ2 H locs h hw => ?_)
      refine lv_icmp_eq (tgt := 81) hx hb dX0_isAgain_76 (by decide) (fun hc => ?_) (fun hc => ?_)
      · have h := h.1 hc
        refine lv_iinc (v := (x3 + 1)) (lv' := [(3, .int (x3 + 1)), (0, .ref (ad 13 o0)), (1, .ref (ad 13 o1)), (2, .int x2)]) hx hb dX0_isAgain_81 hl (k := 3) rfl rfl (by decide) rfl (fun ls hl => ?_)
        refine lv_goto (tgt := 51) hx hb dX0_isAgain_84 (by decide) ?_
        exact ih (x3 + 1) _ _ _ _ h  hw (lv_sub hl [1, 2, 3, 0] rfl)
      · have h := h.2 hc
        refine lv_iconst (v := 0) hx hb dX0_isAgain_79 (by decide) ?_
        exact ret_z S hr hlocks hw (by decide) h dX0_isAgain_80
def wp_X0_isAgain (o0 : Nat) (o1 : Nat) (x2 : Int32) (post : Int32 → St → Prop)  (σ : St) : Prop := ((¬ (σ 13 o0 1) = (σ 13 o1 1) → wp_X0_isAgain_47 o0 o1 x2 post  σ) ∧ ((σ 13 o0 1) = (σ 13 o1 1) → ((¬ (σ 13 o0 2) = (σ 13 o1 2) → wp_X0_isAgain_47 o0 o1 x2 post  σ) ∧ ((σ 13 o0 2) = (σ 13 o1 2) → ((¬ (σ 13 o0 3) = (σ 13 o1 3) → wp_X0_isAgain_47 o0 o1 x2 post  σ) ∧ ((σ 13 o0 3) = (σ 13 o1 3) → (((((σ 13 o0 4) - (σ 13 o1 4)) - ((σ 13 o0 4) - (σ 13 o1 4)) / 2 * 2) = 0 → ∃ nn, wp_X0_isAgain_51 o0 o1 x2 post nn 1 σ) ∧ (¬ (((σ 13 o0 4) - (σ 13 o1 4)) - ((σ 13 o0 4) - (σ 13 o1 4)) / 2 * 2) = 0 → wp_X0_isAgain_47 o0 o1 x2 post  σ))))))))
set_option maxHeartbeats 4000000 in
set_option maxRecDepth 100000 in
theorem wk_X0_isAgain_0 {p : Program} {l : Launch} {e : Env} {s : State} {m : MethodId} {below : List Frame} {meth : Method} {c : Code} {D : va_G} {q : ClassId × ClassId × ClassId × ClassId} {ad : Nat → Nat → Nat} {t : Nat × Nat} {aK aV : Nat → Nat} {args : Array Value} (S : CallFix p m c cX0_isAgain 4 s args GW "OnChin$Balance") (V : EvC D q ad t aK aV s) (hr : meth.sig.returnType = (some .boolean)) (hlocks : meth.locks = false) (o0 : Nat) (o1 : Nat) (x2 : Int32) (ho0 : o0 < 5) (ho1 : o1 < 5) (post : Int32 → St → Prop)  : ∀ (σ : St) (H : Heap) (locs : List Loc) (ls : Array Slot), wp_X0_isAgain o0 o1 x2 post  σ → wo D clA LC ad s.heap H locs (EC q ad σ) → lv_has ls 4 [(0, .ref (ad 13 o0)), (1, .ref (ad 13 o1)), (2, .int x2)] → W p l e { frames := 1, cells := 0, slots := 0, locals := 21 } s m args below meth c H locs 0 0 (MQ below (zQi D clA LC ad (EC q ad) post) args s 0 0 (zA LC ad)) (F0 m 0 ls []) := by
  have hx := S.1
  have hb := S.2.1
  intro  σ H locs ls h  hw hl
  refine lv_aload_n hx hb dX0_isAgain_0 rfl (lv_at hl 0 rfl) ?_
  refine gC_13_1 S V hw ho0 fl_X0_15 rfl dX0_isAgain_1 ?_
  refine lv_aload_n hx hb dX0_isAgain_4 rfl (lv_at hl 1 rfl) ?_
  refine gC_13_1 S V hw ho1 fl_X0_15 rfl dX0_isAgain_5 ?_
  refine lv_icmp_ne (tgt := 47) hx hb dX0_isAgain_8 (by decide) (fun hc => ?_) (fun hc => ?_)
  · have h := h.1 hc
    exact wk_X0_isAgain_47 S V hr hlocks o0 o1 x2 ho0 ho1  post   _ _ _ _ h  hw (lv_sub hl [0, 1, 2] rfl)
  · have h := h.2 hc
    refine lv_aload_n hx hb dX0_isAgain_11 rfl (lv_at hl 0 rfl) ?_
    refine gC_13_2 S V hw ho0 fl_X0_18 rfl dX0_isAgain_12 ?_
    refine lv_aload_n hx hb dX0_isAgain_15 rfl (lv_at hl 1 rfl) ?_
    refine gC_13_2 S V hw ho1 fl_X0_18 rfl dX0_isAgain_16 ?_
    refine lv_icmp_ne (tgt := 47) hx hb dX0_isAgain_19 (by decide) (fun hc => ?_) (fun hc => ?_)
    · have h := h.1 hc
      exact wk_X0_isAgain_47 S V hr hlocks o0 o1 x2 ho0 ho1  post   _ _ _ _ h  hw (lv_sub hl [0, 1, 2] rfl)
    · have h := h.2 hc
      refine lv_aload_n hx hb dX0_isAgain_22 rfl (lv_at hl 0 rfl) ?_
      refine gC_13_3 S V hw ho0 fl_X0_21 rfl dX0_isAgain_23 ?_
      refine lv_aload_n hx hb dX0_isAgain_26 rfl (lv_at hl 1 rfl) ?_
      refine gC_13_3 S V hw ho1 fl_X0_21 rfl dX0_isAgain_27 ?_
      refine lv_icmp_ne (tgt := 47) hx hb dX0_isAgain_30 (by decide) (fun hc => ?_) (fun hc => ?_)
      · have h := h.1 hc
        exact wk_X0_isAgain_47 S V hr hlocks o0 o1 x2 ho0 ho1  post   _ _ _ _ h  hw (lv_sub hl [0, 1, 2] rfl)
      · have h := h.2 hc
        refine lv_aload_n hx hb dX0_isAgain_33 rfl (lv_at hl 0 rfl) ?_
        refine gC_13_4 S V hw ho0 fl_X0_24 rfl dX0_isAgain_34 ?_
        refine lv_aload_n hx hb dX0_isAgain_37 rfl (lv_at hl 1 rfl) ?_
        refine gC_13_4 S V hw ho1 fl_X0_24 rfl dX0_isAgain_38 ?_
        refine lv_isub hx hb dX0_isAgain_41 ?_
        refine lv_iconst (v := 2) hx hb dX0_isAgain_42 (by decide) ?_
        refine lv_irem hx hb dX0_isAgain_43 (by decide) ?_
        refine lv_if_eq (tgt := 49) hx hb dX0_isAgain_44 (by decide) (fun hc => ?_) (fun hc => ?_)
        · have h := h.1 hc
          refine lv_iconst (v := 1) hx hb dX0_isAgain_49 (by decide) ?_
          refine lv_istore_n (lv' := [(3, .int 1), (0, .ref (ad 13 o0)), (1, .ref (ad 13 o1)), (2, .int x2)]) hx hb dX0_isAgain_50 rfl hl (by decide) rfl (fun ls hl => ?_)
          obtain ⟨n9, h⟩ := h
          exact wk_X0_isAgain_51 S V hr hlocks o0 o1 x2 ho0 ho1  post  n9 1 _ _ _ _ h  hw (lv_sub hl [1, 2, 3, 0] rfl)
        · have h := h.2 hc
          exact wk_X0_isAgain_47 S V hr hlocks o0 o1 x2 ho0 ho1  post   _ _ _ _ h  hw (lv_sub hl [0, 1, 2] rfl)
theorem mt_X0_isAgain (l : Launch) (D : va_G) (q : ClassId × ClassId × ClassId × ClassId) (ad : Nat → Nat → Nat) (t : Nat × Nat) (aK aV : Nat → Nat) (o0 : Nat) (o1 : Nat) (x2 : Int32) (ho0 : o0 < 5) (ho1 : o1 < 5) (σ : St) (post : Int32 → St → Prop) (h : wp_X0_isAgain o0 o1 x2 post σ) : cI l D clA LC ad (EC q ad) (EvC D q ad t aK aV) yX0_isAgain cX0_isAgain 4 (some .boolean) { frames := 1, cells := 0, slots := 0, locals := 21 } [.ref (ad 13 o0), .ref (ad 13 o1), .int x2] σ post :=
  ent_i (by decide) (Nat.le_of_ble_eq_true rfl) (fun p e s m below meth c S V hr hlocks hw ls hl => wk_X0_isAgain_0 S V hr hlocks o0 o1 x2 ho0 ho1 post   σ _ _ ls h  hw (lv_sub hl [0, 1, 2] rfl))
def wp_X8_power_4 (x0 : Int32) (x1 : Int32) (post : Int32 → St → Prop) : Nat → Int32 → Int32 → St → Prop
  | 0 => fun _ _ _ => False
  | n + 1 => fun x2 x3 σ => ((x1 ≤ x3 → post x2 σ) ∧ (¬ x1 ≤ x3 → wp_X8_power_4 x0 x1 post n (x2 * x0) (x3 + 1) σ))
set_option maxHeartbeats 4000000 in
set_option maxRecDepth 100000 in
theorem wk_X8_power_4 {p : Program} {l : Launch} {e : Env} {s : State} {m : MethodId} {below : List Frame} {meth : Method} {c : Code} {D : va_G} {q : ClassId × ClassId × ClassId × ClassId} {ad : Nat → Nat → Nat} {t : Nat × Nat} {aK aV : Nat → Nat} {args : Array Value} (S : CallFix p m c cX8_power 4 s args GW "OnChin") (V : EvC D q ad t aK aV s) (hr : meth.sig.returnType = (some .int)) (hlocks : meth.locks = false) (x0 : Int32) (x1 : Int32) (post : Int32 → St → Prop)  : ∀ (n : Nat) (x2 : Int32) (x3 : Int32) (σ : St) (H : Heap) (locs : List Loc) (ls : Array Slot), wp_X8_power_4 x0 x1 post n x2 x3 σ → wo D clA LC ad s.heap H locs (EC q ad σ) → lv_has ls 4 [(0, .int x0), (1, .int x1), (2, .int x2), (3, .int x3)] → W p l e { frames := 0, cells := 0, slots := 0, locals := 0 } s m args below meth c H locs 0 0 (MQ below (zQi D clA LC ad (EC q ad) post) args s 0 0 (zA LC ad)) (F0 m 4 ls []) := by
  have hx := S.1
  have hb := S.2.1
  intro n
  induction n with
  | zero => intro x2 x3 σ H locs ls h; exact False.elim h
  | succ n ih =>
    intro x2 x3 σ H locs ls h  hw hl
    refine lv_iload_n hx hb dX8_power_4 rfl (lv_at hl 3 rfl) ?_
    refine lv_iload_n hx hb dX8_power_5 rfl (lv_at hl 1 rfl) ?_
    refine lv_icmp_ge (tgt := 19) hx hb dX8_power_6 (by decide) (fun hc => ?_) (fun hc => ?_)
    · have h := h.1 hc
      refine lv_iload_n hx hb dX8_power_19 rfl (lv_at hl 2 rfl) ?_
      exact ret_i S hr hlocks hw h dX8_power_20
    · have h := h.2 hc
      refine lv_iload_n hx hb dX8_power_9 rfl (lv_at hl 2 rfl) ?_
      refine lv_iload_n hx hb dX8_power_10 rfl (lv_at hl 0 rfl) ?_
      refine lv_imul hx hb dX8_power_11 ?_
      refine lv_istore_n (lv' := [(2, .int (x2 * x0)), (0, .int x0), (1, .int x1), (3, .int x3)]) hx hb dX8_power_12 rfl hl (by decide) rfl (fun ls hl => ?_)
      refine lv_iinc (v := (x3 + 1)) (lv' := [(3, .int (x3 + 1)), (2, .int (x2 * x0)), (0, .int x0), (1, .int x1)]) hx hb dX8_power_13 hl (k := 3) rfl rfl (by decide) rfl (fun ls hl => ?_)
      refine lv_goto (tgt := 4) hx hb dX8_power_16 (by decide) ?_
      exact ih (x2 * x0) (x3 + 1) _ _ _ _ h  hw (lv_sub hl [2, 3, 1, 0] rfl)
def wp_X8_power (x0 : Int32) (x1 : Int32) (post : Int32 → St → Prop)  (σ : St) : Prop := ∃ nn, wp_X8_power_4 x0 x1 post nn 1 0 σ
set_option maxHeartbeats 4000000 in
set_option maxRecDepth 100000 in
theorem wk_X8_power_0 {p : Program} {l : Launch} {e : Env} {s : State} {m : MethodId} {below : List Frame} {meth : Method} {c : Code} {D : va_G} {q : ClassId × ClassId × ClassId × ClassId} {ad : Nat → Nat → Nat} {t : Nat × Nat} {aK aV : Nat → Nat} {args : Array Value} (S : CallFix p m c cX8_power 4 s args GW "OnChin") (V : EvC D q ad t aK aV s) (hr : meth.sig.returnType = (some .int)) (hlocks : meth.locks = false) (x0 : Int32) (x1 : Int32) (post : Int32 → St → Prop)  : ∀ (σ : St) (H : Heap) (locs : List Loc) (ls : Array Slot), wp_X8_power x0 x1 post  σ → wo D clA LC ad s.heap H locs (EC q ad σ) → lv_has ls 4 [(0, .int x0), (1, .int x1)] → W p l e { frames := 0, cells := 0, slots := 0, locals := 0 } s m args below meth c H locs 0 0 (MQ below (zQi D clA LC ad (EC q ad) post) args s 0 0 (zA LC ad)) (F0 m 0 ls []) := by
  have hx := S.1
  have hb := S.2.1
  intro  σ H locs ls h  hw hl
  refine lv_iconst (v := 1) hx hb dX8_power_0 (by decide) ?_
  refine lv_istore_n (lv' := [(2, .int 1), (0, .int x0), (1, .int x1)]) hx hb dX8_power_1 rfl hl (by decide) rfl (fun ls hl => ?_)
  refine lv_iconst (v := 0) hx hb dX8_power_2 (by decide) ?_
  refine lv_istore_n (lv' := [(3, .int 0), (2, .int 1), (0, .int x0), (1, .int x1)]) hx hb dX8_power_3 rfl hl (by decide) rfl (fun ls hl => ?_)
  obtain ⟨n9, h⟩ := h
  exact wk_X8_power_4 S V hr hlocks x0 x1   post  n9 1 0 _ _ _ _ h  hw (lv_sub hl [2, 3, 1, 0] rfl)
theorem mt_X8_power (l : Launch) (D : va_G) (q : ClassId × ClassId × ClassId × ClassId) (ad : Nat → Nat → Nat) (t : Nat × Nat) (aK aV : Nat → Nat) (x0 : Int32) (x1 : Int32) (σ : St) (post : Int32 → St → Prop) (h : wp_X8_power x0 x1 post σ) : cI l D clA LC ad (EC q ad) (EvC D q ad t aK aV) yX8_power cX8_power 4 (some .int) { frames := 0, cells := 0, slots := 0, locals := 0 } [.int x0, .int x1] σ post :=
  ent_i (by decide) (Nat.le_of_ble_eq_true rfl) (fun p e s m below meth c S V hr hlocks hw ls hl => wk_X8_power_0 S V hr hlocks x0 x1  post   σ _ _ ls h  hw (lv_sub hl [0, 1] rfl))
def wp_X6_measure_93 (o0 : Nat) (post : St → Prop) (os0 : Nat) (xs1 : Int32) (σ : St) : Prop := post (su σ 2 os0 3 xs1)
set_option maxHeartbeats 4000000 in
set_option maxRecDepth 100000 in
theorem wk_X6_measure_93 {p : Program} {l : Launch} {e : Env} {s : State} {m : MethodId} {below : List Frame} {meth : Method} {c : Code} {D : va_G} {q : ClassId × ClassId × ClassId × ClassId} {ad : Nat → Nat → Nat} {t : Nat × Nat} {aK aV : Nat → Nat} {args : Array Value} (S : CallFix p m c cX6_measure 4 s args GW "OnChin$Thing") (V : EvC D q ad t aK aV s) (hr : meth.sig.returnType = none) (hlocks : meth.locks = false) (o0 : Nat) (ho0 : o0 < 5) (post : St → Prop)  : ∀ (os0 : Nat) (xs1 : Int32) (σ : St) (H : Heap) (locs : List Loc) (ls : Array Slot), wp_X6_measure_93 o0 post os0 xs1 σ → os0 < 5 → wo D clA LC ad s.heap H locs (EC q ad σ) → lv_has ls 4 [(0, .ref (ad 2 o0))] → W p l e { frames := 1, cells := 0, slots := 0, locals := 21 } s m args below meth c H locs 0 0 (MQ below (zQv D clA LC ad (EC q ad) post) args s 0 0 (zA LC ad)) (F0 m 93 ls [.int xs1, .ref (ad 2 os0)]) := by
  have hx := S.1
  have hb := S.2.1
  intro os0 xs1 σ H locs ls h hos0 hw hl
  refine pC_2_3 S V hw hos0 fl_X6_21 dX6_measure_93 (fun H locs hw => ?_)
  exact ret_v S hr hlocks hw h dX6_measure_96
def wp_X6_measure_11 (o0 : Nat) (post : St → Prop) : Nat → Int32 → Int32 → Int32 → St → Prop
  | 0 => fun _ _ _ _ => False
  | n + 1 => fun x1 x2 x3 σ => (((σ 2 o0 2) ≤ x3 → ((x2 ≤ 0 → wp_X6_measure_93 o0 post o0 (-1) σ) ∧ (¬ x2 ≤ 0 → (¬ x2 = 0 ∧ wp_X6_measure_93 o0 post o0 (x1 / x2) σ)))) ∧ (¬ (σ 2 o0 2) ≤ x3 → (vp_in x3 4 ∧ (vp_in x3 4 ∧ (vp_in x3 4 ∧ (vp_in x3 4 ∧ (vp_in x3 4 ∧ (vp_in x3 4 ∧ wp_X6_measure_11 o0 post n (x1 + (((σ 3 o0 x3.toNatClampNeg) * (σ 3 o0 x3.toNatClampNeg)) * (σ 4 o0 x3.toNatClampNeg))) (x2 + ((σ 3 o0 x3.toNatClampNeg) * (σ 4 o0 x3.toNatClampNeg))) (x3 + 1) (su σ 2 o0 4 (if (σ 2 o0 4) < (σ 3 o0 x3.toNatClampNeg) then (σ 3 o0 x3.toNatClampNeg) else (σ 2 o0 4)))))))))))
set_option maxHeartbeats 4000000 in
set_option maxRecDepth 100000 in
theorem wk_X6_measure_11 {p : Program} {l : Launch} {e : Env} {s : State} {m : MethodId} {below : List Frame} {meth : Method} {c : Code} {D : va_G} {q : ClassId × ClassId × ClassId × ClassId} {ad : Nat → Nat → Nat} {t : Nat × Nat} {aK aV : Nat → Nat} {args : Array Value} (S : CallFix p m c cX6_measure 4 s args GW "OnChin$Thing") (V : EvC D q ad t aK aV s) (hr : meth.sig.returnType = none) (hlocks : meth.locks = false) (o0 : Nat) (ho0 : o0 < 5) (post : St → Prop)  : ∀ (n : Nat) (x1 : Int32) (x2 : Int32) (x3 : Int32) (σ : St) (H : Heap) (locs : List Loc) (ls : Array Slot), wp_X6_measure_11 o0 post n x1 x2 x3 σ → wo D clA LC ad s.heap H locs (EC q ad σ) → lv_has ls 4 [(0, .ref (ad 2 o0)), (1, .int x1), (2, .int x2), (3, .int x3)] → W p l e { frames := 1, cells := 0, slots := 0, locals := 21 } s m args below meth c H locs 0 0 (MQ below (zQv D clA LC ad (EC q ad) post) args s 0 0 (zA LC ad)) (F0 m 11 ls []) := by
  have hx := S.1
  have hb := S.2.1
  intro n
  induction n with
  | zero => intro x1 x2 x3 σ H locs ls h; exact False.elim h
  | succ n ih =>
    intro x1 x2 x3 σ H locs ls h  hw hl
    refine lv_iload_n hx hb dX6_measure_11 rfl (lv_at hl 3 rfl) ?_
    refine lv_aload_n hx hb dX6_measure_12 rfl (lv_at hl 0 rfl) ?_
    refine gC_2_2 S V hw ho0 fl_X6_18 rfl dX6_measure_13 ?_
    refine lv_icmp_ge (tgt := 81) hx hb dX6_measure_16 (by decide) (fun hc => ?_) (fun hc => ?_)
    · have h := h.1 hc
      refine lv_aload_n hx hb dX6_measure_81 rfl (lv_at hl 0 rfl) ?_
      refine lv_iload_n hx hb dX6_measure_82 rfl (lv_at hl 2 rfl) ?_
      refine lv_if_le (tgt := 92) hx hb dX6_measure_83 (by decide) (fun hc => ?_) (fun hc => ?_)
      · have h := h.1 hc
        refine lv_iconst (v := (-1)) hx hb dX6_measure_92 (by decide) ?_
        exact wk_X6_measure_93 S V hr hlocks o0 ho0  post  o0 (-1) _ _ _ _ h ho0 hw (lv_sub hl [0] rfl)
      · have h := h.2 hc
        refine lv_iload_n hx hb dX6_measure_86 rfl (lv_at hl 1 rfl) ?_
        refine lv_iload_n hx hb dX6_measure_87 rfl (lv_at hl 2 rfl) ?_
        refine lv_idiv hx hb dX6_measure_88 h.1 ?_
        have h := h.2
        refine lv_goto (tgt := 93) hx hb dX6_measure_89 (by decide) ?_
        exact wk_X6_measure_93 S V hr hlocks o0 ho0  post  o0 (x1 / x2) _ _ _ _ h ho0 hw (lv_sub hl [0] rfl)
    · have h := h.2 hc
      refine lv_iload_n hx hb dX6_measure_19 rfl (lv_at hl 1 rfl) ?_
      refine lv_aload_n hx hb dX6_measure_20 rfl (lv_at hl 0 rfl) ?_
      refine gC_2_5 S V hw ho0 fl_X6_27 dX6_measure_21 ?_
      refine lv_iload_n hx hb dX6_measure_24 rfl (lv_at hl 3 rfl) ?_
      refine aC_3 S V hw ho0 h.1 (z := (σ 3 o0 x3.toNatClampNeg)) rfl dX6_measure_25 ?_
      have h := h.2
      refine lv_aload_n hx hb dX6_measure_26 rfl (lv_at hl 0 rfl) ?_
      refine gC_2_5 S V hw ho0 fl_X6_27 dX6_measure_27 ?_
      refine lv_iload_n hx hb dX6_measure_30 rfl (lv_at hl 3 rfl) ?_
      refine aC_3 S V hw ho0 h.1 (z := (σ 3 o0 x3.toNatClampNeg)) rfl dX6_measure_31 ?_
      have h := h.2
      refine lv_imul hx hb dX6_measure_32 ?_
      refine lv_aload_n hx hb dX6_measure_33 rfl (lv_at hl 0 rfl) ?_
      refine gC_2_6 S V hw ho0 fl_X6_31 dX6_measure_34 ?_
      refine lv_iload_n hx hb dX6_measure_37 rfl (lv_at hl 3 rfl) ?_
      refine aC_4 S V hw ho0 h.1 (z := (σ 4 o0 x3.toNatClampNeg)) rfl dX6_measure_38 ?_
      have h := h.2
      refine lv_imul hx hb dX6_measure_39 ?_
      refine lv_iadd hx hb dX6_measure_40 ?_
      refine lv_istore_n (lv' := [(1, .int (x1 + (((σ 3 o0 x3.toNatClampNeg) * (σ 3 o0 x3.toNatClampNeg)) * (σ 4 o0 x3.toNatClampNeg)))), (0, .ref (ad 2 o0)), (2, .int x2), (3, .int x3)]) hx hb dX6_measure_41 rfl hl (by decide) rfl (fun ls hl => ?_)
      refine lv_iload_n hx hb dX6_measure_42 rfl (lv_at hl 2 rfl) ?_
      refine lv_aload_n hx hb dX6_measure_43 rfl (lv_at hl 1 rfl) ?_
      refine gC_2_5 S V hw ho0 fl_X6_27 dX6_measure_44 ?_
      refine lv_iload_n hx hb dX6_measure_47 rfl (lv_at hl 3 rfl) ?_
      refine aC_3 S V hw ho0 h.1 (z := (σ 3 o0 x3.toNatClampNeg)) rfl dX6_measure_48 ?_
      have h := h.2
      refine lv_aload_n hx hb dX6_measure_49 rfl (lv_at hl 1 rfl) ?_
      refine gC_2_6 S V hw ho0 fl_X6_31 dX6_measure_50 ?_
      refine lv_iload_n hx hb dX6_measure_53 rfl (lv_at hl 3 rfl) ?_
      refine aC_4 S V hw ho0 h.1 (z := (σ 4 o0 x3.toNatClampNeg)) rfl dX6_measure_54 ?_
      have h := h.2
      refine lv_imul hx hb dX6_measure_55 ?_
      refine lv_iadd hx hb dX6_measure_56 ?_
      refine lv_istore_n (lv' := [(2, .int (x2 + ((σ 3 o0 x3.toNatClampNeg) * (σ 4 o0 x3.toNatClampNeg)))), (1, .int (x1 + (((σ 3 o0 x3.toNatClampNeg) * (σ 3 o0 x3.toNatClampNeg)) * (σ 4 o0 x3.toNatClampNeg)))), (0, .ref (ad 2 o0)), (3, .int x3)]) hx hb dX6_measure_57 rfl hl (by decide) rfl (fun ls hl => ?_)
      refine lv_aload_n hx hb dX6_measure_58 rfl (lv_at hl 2 rfl) ?_
      refine lv_aload_n hx hb dX6_measure_59 rfl (lv_at hl 2 rfl) ?_
      refine gC_2_4 S V hw ho0 fl_X6_24 rfl dX6_measure_60 ?_
      refine lv_aload_n hx hb dX6_measure_63 rfl (lv_at hl 2 rfl) ?_
      refine gC_2_5 S V hw ho0 fl_X6_27 dX6_measure_64 ?_
      refine lv_iload_n hx hb dX6_measure_67 rfl (lv_at hl 3 rfl) ?_
      refine aC_3 S V hw ho0 h.1 (z := (σ 3 o0 x3.toNatClampNeg)) rfl dX6_measure_68 ?_
      have h := h.2
      refine x_max S hl.1 ml_X6_37 ws_max wi_J9 wc_max (Nat.le_of_ble_eq_true rfl) (Nat.le_of_ble_eq_true rfl) dX6_measure_69 ?_
      refine pC_2_4 S V hw ho0 fl_X6_24 dX6_measure_72 (fun H locs hw => ?_)
      refine lv_iinc (v := (x3 + 1)) (lv' := [(3, .int (x3 + 1)), (2, .int (x2 + ((σ 3 o0 x3.toNatClampNeg) * (σ 4 o0 x3.toNatClampNeg)))), (1, .int (x1 + (((σ 3 o0 x3.toNatClampNeg) * (σ 3 o0 x3.toNatClampNeg)) * (σ 4 o0 x3.toNatClampNeg)))), (0, .ref (ad 2 o0))]) hx hb dX6_measure_75 hl (k := 3) rfl rfl (by decide) rfl (fun ls hl => ?_)
      refine lv_goto (tgt := 11) hx hb dX6_measure_78 (by decide) ?_
      exact ih (x1 + (((σ 3 o0 x3.toNatClampNeg) * (σ 3 o0 x3.toNatClampNeg)) * (σ 4 o0 x3.toNatClampNeg))) (x2 + ((σ 3 o0 x3.toNatClampNeg) * (σ 4 o0 x3.toNatClampNeg))) (x3 + 1) _ _ _ _ h  hw (lv_sub hl [3, 2, 1, 0] rfl)
def wp_X6_measure (o0 : Nat) (post : St → Prop)  (σ : St) : Prop := ∃ nn, wp_X6_measure_11 o0 post nn 0 0 0 (su σ 2 o0 4 0)
set_option maxHeartbeats 4000000 in
set_option maxRecDepth 100000 in
theorem wk_X6_measure_0 {p : Program} {l : Launch} {e : Env} {s : State} {m : MethodId} {below : List Frame} {meth : Method} {c : Code} {D : va_G} {q : ClassId × ClassId × ClassId × ClassId} {ad : Nat → Nat → Nat} {t : Nat × Nat} {aK aV : Nat → Nat} {args : Array Value} (S : CallFix p m c cX6_measure 4 s args GW "OnChin$Thing") (V : EvC D q ad t aK aV s) (hr : meth.sig.returnType = none) (hlocks : meth.locks = false) (o0 : Nat) (ho0 : o0 < 5) (post : St → Prop)  : ∀ (σ : St) (H : Heap) (locs : List Loc) (ls : Array Slot), wp_X6_measure o0 post  σ → wo D clA LC ad s.heap H locs (EC q ad σ) → lv_has ls 4 [(0, .ref (ad 2 o0))] → W p l e { frames := 1, cells := 0, slots := 0, locals := 21 } s m args below meth c H locs 0 0 (MQ below (zQv D clA LC ad (EC q ad) post) args s 0 0 (zA LC ad)) (F0 m 0 ls []) := by
  have hx := S.1
  have hb := S.2.1
  intro  σ H locs ls h  hw hl
  refine lv_iconst (v := 0) hx hb dX6_measure_0 (by decide) ?_
  refine lv_istore_n (lv' := [(1, .int 0), (0, .ref (ad 2 o0))]) hx hb dX6_measure_1 rfl hl (by decide) rfl (fun ls hl => ?_)
  refine lv_iconst (v := 0) hx hb dX6_measure_2 (by decide) ?_
  refine lv_istore_n (lv' := [(2, .int 0), (1, .int 0), (0, .ref (ad 2 o0))]) hx hb dX6_measure_3 rfl hl (by decide) rfl (fun ls hl => ?_)
  refine lv_aload_n hx hb dX6_measure_4 rfl (lv_at hl 2 rfl) ?_
  refine lv_iconst (v := 0) hx hb dX6_measure_5 (by decide) ?_
  refine pC_2_4 S V hw ho0 fl_X6_24 dX6_measure_6 (fun H locs hw => ?_)
  refine lv_iconst (v := 0) hx hb dX6_measure_9 (by decide) ?_
  refine lv_istore_n (lv' := [(3, .int 0), (2, .int 0), (1, .int 0), (0, .ref (ad 2 o0))]) hx hb dX6_measure_10 rfl hl (by decide) rfl (fun ls hl => ?_)
  obtain ⟨n9, h⟩ := h
  exact wk_X6_measure_11 S V hr hlocks o0 ho0  post  n9 0 0 0 _ _ _ _ h  hw (lv_sub hl [3, 2, 1, 0] rfl)
theorem mt_X6_measure (l : Launch) (D : va_G) (q : ClassId × ClassId × ClassId × ClassId) (ad : Nat → Nat → Nat) (t : Nat × Nat) (aK aV : Nat → Nat) (o0 : Nat) (ho0 : o0 < 5) (σ : St) (post : St → Prop) (h : wp_X6_measure o0 post σ) : cV l D clA LC ad (EC q ad) (EvC D q ad t aK aV) yX6_measure cX6_measure 4 none { frames := 1, cells := 0, slots := 0, locals := 21 } [.ref (ad 2 o0)] σ post :=
  ent_v (by decide) (Nat.le_of_ble_eq_true rfl) (fun p e s m below meth c S V hr hlocks hw ls hl => wk_X6_measure_0 S V hr hlocks o0 ho0 post   σ _ _ ls h  hw (lv_sub hl [0] rfl))
def wp_X6_strip (o0 : Nat) (post : St → Prop)  (σ : St) : Prop := wp_X6_measure o0 (fun σ1 => post σ1) (su σ 2 o0 2 0)
set_option maxHeartbeats 4000000 in
set_option maxRecDepth 100000 in
theorem wk_X6_strip_0 {p : Program} {l : Launch} {e : Env} {s : State} {m : MethodId} {below : List Frame} {meth : Method} {c : Code} {D : va_G} {q : ClassId × ClassId × ClassId × ClassId} {ad : Nat → Nat → Nat} {t : Nat × Nat} {aK aV : Nat → Nat} {args : Array Value} (S : CallFix p m c cX6_strip 1 s args GW "OnChin$Thing") (V : EvC D q ad t aK aV s) (hr : meth.sig.returnType = none) (hlocks : meth.locks = false) (o0 : Nat) (ho0 : o0 < 5) (post : St → Prop)  : ∀ (σ : St) (H : Heap) (locs : List Loc) (ls : Array Slot), wp_X6_strip o0 post  σ → wo D clA LC ad s.heap H locs (EC q ad σ) → lv_has ls 1 [(0, .ref (ad 2 o0))] → W p l e { frames := 2, cells := 0, slots := 0, locals := 44 } s m args below meth c H locs 0 0 (MQ below (zQv D clA LC ad (EC q ad) post) args s 0 0 (zA LC ad)) (F0 m 0 ls []) := by
  have hx := S.1
  have hb := S.2.1
  intro  σ H locs ls h  hw hl
  have h : wp_X6_measure o0 (fun σ1 => post σ1) (su σ 2 o0 2 0) := h
  refine lv_aload_n hx hb dX6_strip_0 rfl (lv_at hl 0 rfl) ?_
  refine lv_iconst (v := 0) hx hb dX6_strip_1 (by decide) ?_
  refine pC_2_2 S V hw ho0 fl_X6_18 dX6_strip_2 (fun H locs hw => ?_)
  refine lv_aload_n hx hb dX6_strip_5 rfl (lv_at hl 0 rfl) ?_
  refine call_Vv (As := []) (rest := []) EvC_ok S V hw (mt_X6_measure l D q ad t aK aV o0 ho0 (su σ 2 o0 2 0) _ h) ok_X6_measure ml_X6_34 (rC_2 S V hw ho0) ⟨(Nat.le_of_ble_eq_true rfl), (Nat.le_of_ble_eq_true rfl)⟩ ⟨rfl, rfl⟩ rfl hl.1 rfl (Nat.le_of_ble_eq_true rfl) dX6_strip_6 (fun σ1 H locs h hw => ?_)
  exact ret_v S hr hlocks hw h dX6_strip_9
theorem mt_X6_strip (l : Launch) (D : va_G) (q : ClassId × ClassId × ClassId × ClassId) (ad : Nat → Nat → Nat) (t : Nat × Nat) (aK aV : Nat → Nat) (o0 : Nat) (ho0 : o0 < 5) (σ : St) (post : St → Prop) (h : wp_X6_strip o0 post σ) : cV l D clA LC ad (EC q ad) (EvC D q ad t aK aV) yX6_strip cX6_strip 1 none { frames := 2, cells := 0, slots := 0, locals := 44 } [.ref (ad 2 o0)] σ post :=
  ent_v (by decide) (Nat.le_of_ble_eq_true rfl) (fun p e s m below meth c S V hr hlocks hw ls hl => wk_X6_strip_0 S V hr hlocks o0 ho0 post   σ _ _ ls h  hw (lv_sub hl [0] rfl))
def wp_X6_addLump (o0 : Nat) (x1 : Int32) (x2 : Int32) (post : St → Prop)  (σ : St) : Prop := (((σ 2 o0 2) < 4 → (vp_in (σ 2 o0 2) 4 ∧ (vp_in (σ 2 o0 2) 4 ∧ wp_X6_measure o0 (fun σ1 => post σ1) (su (su (su σ 3 o0 ((σ 2 o0 2).toNatClampNeg) x1) 4 o0 ((σ 2 o0 2).toNatClampNeg) x2) 2 o0 2 ((σ 2 o0 2) + 1))))) ∧ (¬ (σ 2 o0 2) < 4 → post σ))
set_option maxHeartbeats 4000000 in
set_option maxRecDepth 100000 in
theorem wk_X6_addLump_0 {p : Program} {l : Launch} {e : Env} {s : State} {m : MethodId} {below : List Frame} {meth : Method} {c : Code} {D : va_G} {q : ClassId × ClassId × ClassId × ClassId} {ad : Nat → Nat → Nat} {t : Nat × Nat} {aK aV : Nat → Nat} {args : Array Value} (S : CallFix p m c cX6_addLump 3 s args GW "OnChin$Thing") (V : EvC D q ad t aK aV s) (hr : meth.sig.returnType = none) (hlocks : meth.locks = false) (o0 : Nat) (x1 : Int32) (x2 : Int32) (ho0 : o0 < 5) (post : St → Prop)  : ∀ (σ : St) (H : Heap) (locs : List Loc) (ls : Array Slot), wp_X6_addLump o0 x1 x2 post  σ → wo D clA LC ad s.heap H locs (EC q ad σ) → lv_has ls 3 [(0, .ref (ad 2 o0)), (1, .int x1), (2, .int x2)] → W p l e { frames := 2, cells := 0, slots := 0, locals := 44 } s m args below meth c H locs 0 0 (MQ below (zQv D clA LC ad (EC q ad) post) args s 0 0 (zA LC ad)) (F0 m 0 ls []) := by
  have hx := S.1
  have hb := S.2.1
  intro  σ H locs ls h  hw hl
  refine lv_aload_n hx hb dX6_addLump_0 rfl (lv_at hl 0 rfl) ?_
  refine gC_2_2 S V hw ho0 fl_X6_18 rfl dX6_addLump_1 ?_
  refine lv_iconst (v := 4) hx hb dX6_addLump_4 (by decide) ?_
  refine lv_icmp_lt (tgt := 9) hx hb dX6_addLump_5 (by decide) (fun hc => ?_) (fun hc => ?_)
  · have h := h.1 hc
    refine lv_aload_n hx hb dX6_addLump_9 rfl (lv_at hl 0 rfl) ?_
    refine gC_2_5 S V hw ho0 fl_X6_27 dX6_addLump_10 ?_
    refine lv_aload_n hx hb dX6_addLump_13 rfl (lv_at hl 0 rfl) ?_
    refine gC_2_2 S V hw ho0 fl_X6_18 rfl dX6_addLump_14 ?_
    refine lv_iload_n hx hb dX6_addLump_17 rfl (lv_at hl 1 rfl) ?_
    refine sC_3 S V hw ho0 h.1 dX6_addLump_18 (fun H locs hw => ?_)
    have h := h.2
    refine lv_aload_n hx hb dX6_addLump_19 rfl (lv_at hl 0 rfl) ?_
    refine gC_2_6 S V hw ho0 fl_X6_31 dX6_addLump_20 ?_
    refine lv_aload_n hx hb dX6_addLump_23 rfl (lv_at hl 0 rfl) ?_
    refine gC_2_2 S V hw ho0 fl_X6_18 (su_nc rfl) dX6_addLump_24 ?_
    refine lv_iload_n hx hb dX6_addLump_27 rfl (lv_at hl 2 rfl) ?_
    refine sC_4 S V hw ho0 h.1 dX6_addLump_28 (fun H locs hw => ?_)
    have h := h.2
    refine lv_aload_n hx hb dX6_addLump_29 rfl (lv_at hl 0 rfl) ?_
    refine lv_dup hx hb dX6_addLump_30 rfl ?_
    refine gC_2_2 S V hw ho0 fl_X6_18 ((su_nc rfl).trans (su_nc rfl)) dX6_addLump_31 ?_
    refine lv_iconst (v := 1) hx hb dX6_addLump_34 (by decide) ?_
    refine lv_iadd hx hb dX6_addLump_35 ?_
    refine pC_2_2 S V hw ho0 fl_X6_18 dX6_addLump_36 (fun H locs hw => ?_)
    refine lv_aload_n hx hb dX6_addLump_39 rfl (lv_at hl 0 rfl) ?_
    refine call_Vv (As := []) (rest := []) EvC_ok S V hw (mt_X6_measure l D q ad t aK aV o0 ho0 (su (su (su σ 3 o0 ((σ 2 o0 2).toNatClampNeg) x1) 4 o0 ((σ 2 o0 2).toNatClampNeg) x2) 2 o0 2 ((σ 2 o0 2) + 1)) _ h) ok_X6_measure ml_X6_34 (rC_2 S V hw ho0) ⟨(Nat.le_of_ble_eq_true rfl), (Nat.le_of_ble_eq_true rfl)⟩ ⟨rfl, rfl⟩ rfl hl.1 rfl (Nat.le_of_ble_eq_true rfl) dX6_addLump_40 (fun σ1 H locs h hw => ?_)
    exact ret_v S hr hlocks hw h dX6_addLump_43
  · have h := h.2 hc
    exact ret_v S hr hlocks hw h dX6_addLump_8
theorem mt_X6_addLump (l : Launch) (D : va_G) (q : ClassId × ClassId × ClassId × ClassId) (ad : Nat → Nat → Nat) (t : Nat × Nat) (aK aV : Nat → Nat) (o0 : Nat) (x1 : Int32) (x2 : Int32) (ho0 : o0 < 5) (σ : St) (post : St → Prop) (h : wp_X6_addLump o0 x1 x2 post σ) : cV l D clA LC ad (EC q ad) (EvC D q ad t aK aV) yX6_addLump cX6_addLump 3 none { frames := 2, cells := 0, slots := 0, locals := 44 } [.ref (ad 2 o0), .int x1, .int x2] σ post :=
  ent_v (by decide) (Nat.le_of_ble_eq_true rfl) (fun p e s m below meth c S V hr hlocks hw ls hl => wk_X6_addLump_0 S V hr hlocks o0 x1 x2 ho0 post   σ _ _ ls h  hw (lv_sub hl [0, 1, 2] rfl))
def wp_X8_within_15 (x0 : Int32) (x1 : Int32) (x2 : Int32) (post : Int32 → St → Prop) (xs0 : Int32) (σ : St) : Prop := (narrow .boolean (.int xs0) = .int xs0 ∧ post xs0 σ)
set_option maxHeartbeats 4000000 in
set_option maxRecDepth 100000 in
theorem wk_X8_within_15 {p : Program} {l : Launch} {e : Env} {s : State} {m : MethodId} {below : List Frame} {meth : Method} {c : Code} {D : va_G} {q : ClassId × ClassId × ClassId × ClassId} {ad : Nat → Nat → Nat} {t : Nat × Nat} {aK aV : Nat → Nat} {args : Array Value} (S : CallFix p m c cX8_within 3 s args GW "OnChin") (V : EvC D q ad t aK aV s) (hr : meth.sig.returnType = (some .boolean)) (hlocks : meth.locks = false) (x0 : Int32) (x1 : Int32) (x2 : Int32) (post : Int32 → St → Prop)  : ∀ (xs0 : Int32) (σ : St) (H : Heap) (locs : List Loc) (ls : Array Slot), wp_X8_within_15 x0 x1 x2 post xs0 σ → wo D clA LC ad s.heap H locs (EC q ad σ) → lv_has ls 3 [(0, .int x0), (1, .int x1), (2, .int x2)] → W p l e { frames := 0, cells := 0, slots := 0, locals := 0 } s m args below meth c H locs 0 0 (MQ below (zQi D clA LC ad (EC q ad) post) args s 0 0 (zA LC ad)) (F0 m 15 ls [.int xs0]) := by
  have hx := S.1
  have hb := S.2.1
  intro xs0 σ H locs ls h  hw hl
  exact ret_z S hr hlocks hw h.1 h.2 dX8_within_15
def wp_X8_within_14 (x0 : Int32) (x1 : Int32) (x2 : Int32) (post : Int32 → St → Prop)  (σ : St) : Prop := wp_X8_within_15 x0 x1 x2 post 0 σ
set_option maxHeartbeats 4000000 in
set_option maxRecDepth 100000 in
theorem wk_X8_within_14 {p : Program} {l : Launch} {e : Env} {s : State} {m : MethodId} {below : List Frame} {meth : Method} {c : Code} {D : va_G} {q : ClassId × ClassId × ClassId × ClassId} {ad : Nat → Nat → Nat} {t : Nat × Nat} {aK aV : Nat → Nat} {args : Array Value} (S : CallFix p m c cX8_within 3 s args GW "OnChin") (V : EvC D q ad t aK aV s) (hr : meth.sig.returnType = (some .boolean)) (hlocks : meth.locks = false) (x0 : Int32) (x1 : Int32) (x2 : Int32) (post : Int32 → St → Prop)  : ∀ (σ : St) (H : Heap) (locs : List Loc) (ls : Array Slot), wp_X8_within_14 x0 x1 x2 post  σ → wo D clA LC ad s.heap H locs (EC q ad σ) → lv_has ls 3 [(0, .int x0), (1, .int x1), (2, .int x2)] → W p l e { frames := 0, cells := 0, slots := 0, locals := 0 } s m args below meth c H locs 0 0 (MQ below (zQi D clA LC ad (EC q ad) post) args s 0 0 (zA LC ad)) (F0 m 14 ls []) := by
  have hx := S.1
  have hb := S.2.1
  intro  σ H locs ls h  hw hl
  have h : wp_X8_within_15 x0 x1 x2 post 0 σ := h
  refine lv_iconst (v := 0) hx hb dX8_within_14 (by decide) ?_
  exact wk_X8_within_15 S V hr hlocks x0 x1 x2   post  0 _ _ _ _ h  hw (lv_sub hl [0, 1, 2] rfl)
def wp_X8_within (x0 : Int32) (x1 : Int32) (x2 : Int32) (post : Int32 → St → Prop)  (σ : St) : Prop := ((x0 < x1 → wp_X8_within_14 x0 x1 x2 post  σ) ∧ (¬ x0 < x1 → ((x2 < x0 → wp_X8_within_14 x0 x1 x2 post  σ) ∧ (¬ x2 < x0 → wp_X8_within_15 x0 x1 x2 post 1 σ))))
set_option maxHeartbeats 4000000 in
set_option maxRecDepth 100000 in
theorem wk_X8_within_0 {p : Program} {l : Launch} {e : Env} {s : State} {m : MethodId} {below : List Frame} {meth : Method} {c : Code} {D : va_G} {q : ClassId × ClassId × ClassId × ClassId} {ad : Nat → Nat → Nat} {t : Nat × Nat} {aK aV : Nat → Nat} {args : Array Value} (S : CallFix p m c cX8_within 3 s args GW "OnChin") (V : EvC D q ad t aK aV s) (hr : meth.sig.returnType = (some .boolean)) (hlocks : meth.locks = false) (x0 : Int32) (x1 : Int32) (x2 : Int32) (post : Int32 → St → Prop)  : ∀ (σ : St) (H : Heap) (locs : List Loc) (ls : Array Slot), wp_X8_within x0 x1 x2 post  σ → wo D clA LC ad s.heap H locs (EC q ad σ) → lv_has ls 3 [(0, .int x0), (1, .int x1), (2, .int x2)] → W p l e { frames := 0, cells := 0, slots := 0, locals := 0 } s m args below meth c H locs 0 0 (MQ below (zQi D clA LC ad (EC q ad) post) args s 0 0 (zA LC ad)) (F0 m 0 ls []) := by
  have hx := S.1
  have hb := S.2.1
  intro  σ H locs ls h  hw hl
  refine lv_iload_n hx hb dX8_within_0 rfl (lv_at hl 0 rfl) ?_
  refine lv_iload_n hx hb dX8_within_1 rfl (lv_at hl 1 rfl) ?_
  refine lv_icmp_lt (tgt := 14) hx hb dX8_within_2 (by decide) (fun hc => ?_) (fun hc => ?_)
  · have h := h.1 hc
    exact wk_X8_within_14 S V hr hlocks x0 x1 x2   post   _ _ _ _ h  hw (lv_sub hl [0, 1, 2] rfl)
  · have h := h.2 hc
    refine lv_iload_n hx hb dX8_within_5 rfl (lv_at hl 0 rfl) ?_
    refine lv_iload_n hx hb dX8_within_6 rfl (lv_at hl 2 rfl) ?_
    refine lv_icmp_gt (tgt := 14) hx hb dX8_within_7 (by decide) (fun hc => ?_) (fun hc => ?_)
    · have h := h.1 hc
      exact wk_X8_within_14 S V hr hlocks x0 x1 x2   post   _ _ _ _ h  hw (lv_sub hl [0, 1, 2] rfl)
    · have h := h.2 hc
      refine lv_iconst (v := 1) hx hb dX8_within_10 (by decide) ?_
      refine lv_goto (tgt := 15) hx hb dX8_within_11 (by decide) ?_
      exact wk_X8_within_15 S V hr hlocks x0 x1 x2   post  1 _ _ _ _ h  hw (lv_sub hl [0, 1, 2] rfl)
theorem mt_X8_within (l : Launch) (D : va_G) (q : ClassId × ClassId × ClassId × ClassId) (ad : Nat → Nat → Nat) (t : Nat × Nat) (aK aV : Nat → Nat) (x0 : Int32) (x1 : Int32) (x2 : Int32) (σ : St) (post : Int32 → St → Prop) (h : wp_X8_within x0 x1 x2 post σ) : cI l D clA LC ad (EC q ad) (EvC D q ad t aK aV) yX8_within cX8_within 3 (some .boolean) { frames := 0, cells := 0, slots := 0, locals := 0 } [.int x0, .int x1, .int x2] σ post :=
  ent_i (by decide) (Nat.le_of_ble_eq_true rfl) (fun p e s m below meth c S V hr hlocks hw ls hl => wk_X8_within_0 S V hr hlocks x0 x1 x2  post   σ _ _ ls h  hw (lv_sub hl [0, 1, 2] rfl))
def wp_X8_isThing (x0 : Int32) (post : Int32 → St → Prop)  (σ : St) : Prop := wp_X8_within x0 0 3 (fun r1 σ1 => (narrow .boolean (.int r1) = .int r1 ∧ post r1 σ1)) σ
set_option maxHeartbeats 4000000 in
set_option maxRecDepth 100000 in
theorem wk_X8_isThing_0 {p : Program} {l : Launch} {e : Env} {s : State} {m : MethodId} {below : List Frame} {meth : Method} {c : Code} {D : va_G} {q : ClassId × ClassId × ClassId × ClassId} {ad : Nat → Nat → Nat} {t : Nat × Nat} {aK aV : Nat → Nat} {args : Array Value} (S : CallFix p m c cX8_isThing 1 s args GW "OnChin") (V : EvC D q ad t aK aV s) (hr : meth.sig.returnType = (some .boolean)) (hlocks : meth.locks = false) (x0 : Int32) (post : Int32 → St → Prop)  : ∀ (σ : St) (H : Heap) (locs : List Loc) (ls : Array Slot), wp_X8_isThing x0 post  σ → wo D clA LC ad s.heap H locs (EC q ad σ) → lv_has ls 1 [(0, .int x0)] → W p l e { frames := 1, cells := 0, slots := 0, locals := 22 } s m args below meth c H locs 0 0 (MQ below (zQi D clA LC ad (EC q ad) post) args s 0 0 (zA LC ad)) (F0 m 0 ls []) := by
  have hx := S.1
  have hb := S.2.1
  intro  σ H locs ls h  hw hl
  have h : wp_X8_within x0 0 3 (fun r1 σ1 => (narrow .boolean (.int r1) = .int r1 ∧ post r1 σ1)) σ := h
  refine lv_iload_n hx hb dX8_isThing_0 rfl (lv_at hl 0 rfl) ?_
  refine lv_iconst (v := 0) hx hb dX8_isThing_1 (by decide) ?_
  refine lv_iconst (v := 3) hx hb dX8_isThing_2 (by decide) ?_
  refine call_Si (As := [.int x0, .int 0, .int 3]) (rest := []) EvC_ok S V hw (mt_X8_within l D q ad t aK aV x0 0 3  σ _ h) ok_X8_within ml_X8_62 ⟨(Nat.le_of_ble_eq_true rfl), (Nat.le_of_ble_eq_true rfl)⟩ ⟨rfl, rfl⟩ rfl hl.1 rfl (Nat.le_of_ble_eq_true rfl) dX8_isThing_3 (fun r1 σ1 H locs h hw => ?_)
  exact ret_z S hr hlocks hw h.1 h.2 dX8_isThing_6
theorem mt_X8_isThing (l : Launch) (D : va_G) (q : ClassId × ClassId × ClassId × ClassId) (ad : Nat → Nat → Nat) (t : Nat × Nat) (aK aV : Nat → Nat) (x0 : Int32) (σ : St) (post : Int32 → St → Prop) (h : wp_X8_isThing x0 post σ) : cI l D clA LC ad (EC q ad) (EvC D q ad t aK aV) yX8_isThing cX8_isThing 1 (some .boolean) { frames := 1, cells := 0, slots := 0, locals := 22 } [.int x0] σ post :=
  ent_i (by decide) (Nat.le_of_ble_eq_true rfl) (fun p e s m below meth c S V hr hlocks hw ls hl => wk_X8_isThing_0 S V hr hlocks x0  post   σ _ _ ls h  hw (lv_sub hl [0] rfl))
def wp_X6_become (o0 : Nat) (x1 : Int32) (x2 : Int32) (post : St → Prop)  (σ : St) : Prop := post (su (su σ 2 o0 0 x1) 2 o0 1 x2)
set_option maxHeartbeats 4000000 in
set_option maxRecDepth 100000 in
theorem wk_X6_become_0 {p : Program} {l : Launch} {e : Env} {s : State} {m : MethodId} {below : List Frame} {meth : Method} {c : Code} {D : va_G} {q : ClassId × ClassId × ClassId × ClassId} {ad : Nat → Nat → Nat} {t : Nat × Nat} {aK aV : Nat → Nat} {args : Array Value} (S : CallFix p m c cX6_become 3 s args GW "OnChin$Thing") (V : EvC D q ad t aK aV s) (hr : meth.sig.returnType = none) (hlocks : meth.locks = false) (o0 : Nat) (x1 : Int32) (x2 : Int32) (ho0 : o0 < 5) (post : St → Prop)  : ∀ (σ : St) (H : Heap) (locs : List Loc) (ls : Array Slot), wp_X6_become o0 x1 x2 post  σ → wo D clA LC ad s.heap H locs (EC q ad σ) → lv_has ls 3 [(0, .ref (ad 2 o0)), (1, .int x1), (2, .int x2)] → W p l e { frames := 0, cells := 0, slots := 0, locals := 0 } s m args below meth c H locs 0 0 (MQ below (zQv D clA LC ad (EC q ad) post) args s 0 0 (zA LC ad)) (F0 m 0 ls []) := by
  have hx := S.1
  have hb := S.2.1
  intro  σ H locs ls h  hw hl
  refine lv_aload_n hx hb dX6_become_0 rfl (lv_at hl 0 rfl) ?_
  refine lv_iload_n hx hb dX6_become_1 rfl (lv_at hl 1 rfl) ?_
  refine pC_2_0 S V hw ho0 fl_X6_9 dX6_become_2 (fun H locs hw => ?_)
  refine lv_aload_n hx hb dX6_become_5 rfl (lv_at hl 0 rfl) ?_
  refine lv_iload_n hx hb dX6_become_6 rfl (lv_at hl 2 rfl) ?_
  refine pC_2_1 S V hw ho0 fl_X6_15 dX6_become_7 (fun H locs hw => ?_)
  exact ret_v S hr hlocks hw h dX6_become_10
theorem mt_X6_become (l : Launch) (D : va_G) (q : ClassId × ClassId × ClassId × ClassId) (ad : Nat → Nat → Nat) (t : Nat × Nat) (aK aV : Nat → Nat) (o0 : Nat) (x1 : Int32) (x2 : Int32) (ho0 : o0 < 5) (σ : St) (post : St → Prop) (h : wp_X6_become o0 x1 x2 post σ) : cV l D clA LC ad (EC q ad) (EvC D q ad t aK aV) yX6_become cX6_become 3 none { frames := 0, cells := 0, slots := 0, locals := 0 } [.ref (ad 2 o0), .int x1, .int x2] σ post :=
  ent_v (by decide) (Nat.le_of_ble_eq_true rfl) (fun p e s m below meth c S V hr hlocks hw ls hl => wk_X6_become_0 S V hr hlocks o0 x1 x2 ho0 post   σ _ _ ls h  hw (lv_sub hl [0, 1, 2] rfl))
def wp_X8_lowestTerms_67 (x0 : Int32) (x1 : Int32) (x2 : Int32) (post : Int32 → St → Prop) (xs0 : Int32) (σ : St) : Prop := post xs0 σ
set_option maxHeartbeats 4000000 in
set_option maxRecDepth 100000 in
theorem wk_X8_lowestTerms_67 {p : Program} {l : Launch} {e : Env} {s : State} {m : MethodId} {below : List Frame} {meth : Method} {c : Code} {D : va_G} {q : ClassId × ClassId × ClassId × ClassId} {ad : Nat → Nat → Nat} {t : Nat × Nat} {aK aV : Nat → Nat} {args : Array Value} (S : CallFix p m c cX8_lowestTerms 6 s args GW "OnChin") (V : EvC D q ad t aK aV s) (hr : meth.sig.returnType = (some .int)) (hlocks : meth.locks = false) (x0 : Int32) (x1 : Int32) (x2 : Int32) (post : Int32 → St → Prop)  : ∀ (xs0 : Int32) (σ : St) (H : Heap) (locs : List Loc) (ls : Array Slot), wp_X8_lowestTerms_67 x0 x1 x2 post xs0 σ → wo D clA LC ad s.heap H locs (EC q ad σ) → lv_has ls 6 [(0, .int x0), (1, .int x1), (2, .int x2)] → W p l e { frames := 1, cells := 0, slots := 0, locals := 23 } s m args below meth c H locs 0 0 (MQ below (zQi D clA LC ad (EC q ad) post) args s 0 0 (zA LC ad)) (F0 m 67 ls [.int xs0]) := by
  have hx := S.1
  have hb := S.2.1
  intro xs0 σ H locs ls h  hw hl
  exact ret_i S hr hlocks hw h dX8_lowestTerms_67
def wp_X8_lowestTerms_51 (x0 : Int32) (x1 : Int32) (x2 : Int32) (K13 : Int32 → Int32 → Int32 → St → Prop) (post : Int32 → St → Prop) (x3 : Int32) (x4 : Int32) (x5 : Int32) (σ : St) : Prop := K13 x3 x4 (x5 + 1) σ
set_option maxHeartbeats 4000000 in
set_option maxRecDepth 100000 in
theorem wk_X8_lowestTerms_51 {p : Program} {l : Launch} {e : Env} {s : State} {m : MethodId} {below : List Frame} {meth : Method} {c : Code} {D : va_G} {q : ClassId × ClassId × ClassId × ClassId} {ad : Nat → Nat → Nat} {t : Nat × Nat} {aK aV : Nat → Nat} {args : Array Value} (S : CallFix p m c cX8_lowestTerms 6 s args GW "OnChin") (V : EvC D q ad t aK aV s) (hr : meth.sig.returnType = (some .int)) (hlocks : meth.locks = false) (x0 : Int32) (x1 : Int32) (x2 : Int32) (K13 : Int32 → Int32 → Int32 → St → Prop) (post : Int32 → St → Prop) (hK13 : ∀ (x3 : Int32) (x4 : Int32) (x5 : Int32) (σ : St) (H : Heap) (locs : List Loc) (ls : Array Slot), K13 x3 x4 x5 σ → wo D clA LC ad s.heap H locs (EC q ad σ) → lv_has ls 6 [(0, .int x0), (1, .int x1), (2, .int x2), (3, .int x3), (4, .int x4), (5, .int x5)] → W p l e { frames := 1, cells := 0, slots := 0, locals := 23 } s m args below meth c H locs 0 0 (MQ below (zQi D clA LC ad (EC q ad) post) args s 0 0 (zA LC ad)) (F0 m 13 ls [])) : ∀ (x3 : Int32) (x4 : Int32) (x5 : Int32) (σ : St) (H : Heap) (locs : List Loc) (ls : Array Slot), wp_X8_lowestTerms_51 x0 x1 x2 K13 post x3 x4 x5 σ → wo D clA LC ad s.heap H locs (EC q ad σ) → lv_has ls 6 [(0, .int x0), (1, .int x1), (2, .int x2), (3, .int x3), (4, .int x4), (5, .int x5)] → W p l e { frames := 1, cells := 0, slots := 0, locals := 23 } s m args below meth c H locs 0 0 (MQ below (zQi D clA LC ad (EC q ad) post) args s 0 0 (zA LC ad)) (F0 m 51 ls []) := by
  have hx := S.1
  have hb := S.2.1
  intro x3 x4 x5 σ H locs ls h  hw hl
  refine lv_iinc (v := (x5 + 1)) (lv' := [(5, .int (x5 + 1)), (0, .int x0), (1, .int x1), (2, .int x2), (3, .int x3), (4, .int x4)]) hx hb dX8_lowestTerms_51 hl (k := 5) rfl rfl (by decide) rfl (fun ls hl => ?_)
  refine lv_goto (tgt := 13) hx hb dX8_lowestTerms_54 (by decide) ?_
  exact hK13 x3 x4 (x5 + 1) _ _ _ _ h  hw (lv_sub hl [1, 2, 3, 4, 5, 0] rfl)
def wp_X8_lowestTerms_35 (x0 : Int32) (x1 : Int32) (x2 : Int32) (K13 : Int32 → Int32 → Int32 → St → Prop) (post : Int32 → St → Prop) (x3 : Int32) (x4 : Int32) (x5 : Int32) (σ : St) : Prop := ((¬ (x3 - x3 / 5 * 5) = 0 → wp_X8_lowestTerms_51 x0 x1 x2 K13 post x3 x4 x5 σ) ∧ ((x3 - x3 / 5 * 5) = 0 → wp_X8_lowestTerms_51 x0 x1 x2 K13 post (x3 / 5) (x4 / 5) x5 σ))
set_option maxHeartbeats 4000000 in
set_option maxRecDepth 100000 in
theorem wk_X8_lowestTerms_35 {p : Program} {l : Launch} {e : Env} {s : State} {m : MethodId} {below : List Frame} {meth : Method} {c : Code} {D : va_G} {q : ClassId × ClassId × ClassId × ClassId} {ad : Nat → Nat → Nat} {t : Nat × Nat} {aK aV : Nat → Nat} {args : Array Value} (S : CallFix p m c cX8_lowestTerms 6 s args GW "OnChin") (V : EvC D q ad t aK aV s) (hr : meth.sig.returnType = (some .int)) (hlocks : meth.locks = false) (x0 : Int32) (x1 : Int32) (x2 : Int32) (K13 : Int32 → Int32 → Int32 → St → Prop) (post : Int32 → St → Prop) (hK13 : ∀ (x3 : Int32) (x4 : Int32) (x5 : Int32) (σ : St) (H : Heap) (locs : List Loc) (ls : Array Slot), K13 x3 x4 x5 σ → wo D clA LC ad s.heap H locs (EC q ad σ) → lv_has ls 6 [(0, .int x0), (1, .int x1), (2, .int x2), (3, .int x3), (4, .int x4), (5, .int x5)] → W p l e { frames := 1, cells := 0, slots := 0, locals := 23 } s m args below meth c H locs 0 0 (MQ below (zQi D clA LC ad (EC q ad) post) args s 0 0 (zA LC ad)) (F0 m 13 ls [])) : ∀ (x3 : Int32) (x4 : Int32) (x5 : Int32) (σ : St) (H : Heap) (locs : List Loc) (ls : Array Slot), wp_X8_lowestTerms_35 x0 x1 x2 K13 post x3 x4 x5 σ → wo D clA LC ad s.heap H locs (EC q ad σ) → lv_has ls 6 [(0, .int x0), (1, .int x1), (2, .int x2), (3, .int x3), (4, .int x4), (5, .int x5)] → W p l e { frames := 1, cells := 0, slots := 0, locals := 23 } s m args below meth c H locs 0 0 (MQ below (zQi D clA LC ad (EC q ad) post) args s 0 0 (zA LC ad)) (F0 m 35 ls []) := by
  have hx := S.1
  have hb := S.2.1
  intro x3 x4 x5 σ H locs ls h  hw hl
  refine lv_iload_n hx hb dX8_lowestTerms_35 rfl (lv_at hl 3 rfl) ?_
  refine lv_iconst (v := 5) hx hb dX8_lowestTerms_36 (by decide) ?_
  refine lv_irem hx hb dX8_lowestTerms_37 (by decide) ?_
  refine lv_if_ne (tgt := 51) hx hb dX8_lowestTerms_38 (by decide) (fun hc => ?_) (fun hc => ?_)
  · have h := h.1 hc
    exact wk_X8_lowestTerms_51 S V hr hlocks x0 x1 x2  K13 post hK13 x3 x4 x5 _ _ _ _ h  hw (lv_sub hl [0, 1, 2, 3, 4, 5] rfl)
  · have h := h.2 hc
    refine lv_iload_n hx hb dX8_lowestTerms_41 rfl (lv_at hl 3 rfl) ?_
    refine lv_iconst (v := 5) hx hb dX8_lowestTerms_42 (by decide) ?_
    refine lv_idiv hx hb dX8_lowestTerms_43 (by decide) ?_
    refine lv_istore_n (lv' := [(3, .int (x3 / 5)), (0, .int x0), (1, .int x1), (2, .int x2), (4, .int x4), (5, .int x5)]) hx hb dX8_lowestTerms_44 rfl hl (by decide) rfl (fun ls hl => ?_)
    refine lv_iload hx hb dX8_lowestTerms_45 (lv_at hl 4 rfl) ?_
    refine lv_iconst (v := 5) hx hb dX8_lowestTerms_47 (by decide) ?_
    refine lv_idiv hx hb dX8_lowestTerms_48 (by decide) ?_
    refine lv_istore (lv' := [(4, .int (x4 / 5)), (3, .int (x3 / 5)), (0, .int x0), (1, .int x1), (2, .int x2), (5, .int x5)]) hx hb dX8_lowestTerms_49 hl (by decide) rfl (fun ls hl => ?_)
    exact wk_X8_lowestTerms_51 S V hr hlocks x0 x1 x2  K13 post hK13 (x3 / 5) (x4 / 5) x5 _ _ _ _ h  hw (lv_sub hl [2, 3, 4, 1, 0, 5] rfl)
def wp_X8_lowestTerms_13 (x0 : Int32) (x1 : Int32) (x2 : Int32) (post : Int32 → St → Prop) : Nat → Int32 → Int32 → Int32 → St → Prop
  | 0 => fun _ _ _ _ => False
  | n + 1 => fun x3 x4 x5 σ => ((x1 ≤ x5 → ((¬ x2 = 0 → wp_X8_lowestTerms_67 x0 x1 x2 post x4 σ) ∧ (x2 = 0 → wp_X8_lowestTerms_67 x0 x1 x2 post x3 σ))) ∧ (¬ x1 ≤ x5 → ((¬ (x3 - x3 / 2 * 2) = 0 → wp_X8_lowestTerms_35 x0 x1 x2 (fun y0 y1 y2 τ => wp_X8_lowestTerms_13 x0 x1 x2 post n y0 y1 y2 τ) post x3 x4 x5 σ) ∧ ((x3 - x3 / 2 * 2) = 0 → wp_X8_lowestTerms_35 x0 x1 x2 (fun y0 y1 y2 τ => wp_X8_lowestTerms_13 x0 x1 x2 post n y0 y1 y2 τ) post (x3 / 2) (x4 / 2) x5 σ))))
set_option maxHeartbeats 4000000 in
set_option maxRecDepth 100000 in
theorem wk_X8_lowestTerms_13 {p : Program} {l : Launch} {e : Env} {s : State} {m : MethodId} {below : List Frame} {meth : Method} {c : Code} {D : va_G} {q : ClassId × ClassId × ClassId × ClassId} {ad : Nat → Nat → Nat} {t : Nat × Nat} {aK aV : Nat → Nat} {args : Array Value} (S : CallFix p m c cX8_lowestTerms 6 s args GW "OnChin") (V : EvC D q ad t aK aV s) (hr : meth.sig.returnType = (some .int)) (hlocks : meth.locks = false) (x0 : Int32) (x1 : Int32) (x2 : Int32) (post : Int32 → St → Prop)  : ∀ (n : Nat) (x3 : Int32) (x4 : Int32) (x5 : Int32) (σ : St) (H : Heap) (locs : List Loc) (ls : Array Slot), wp_X8_lowestTerms_13 x0 x1 x2 post n x3 x4 x5 σ → wo D clA LC ad s.heap H locs (EC q ad σ) → lv_has ls 6 [(0, .int x0), (1, .int x1), (2, .int x2), (3, .int x3), (4, .int x4), (5, .int x5)] → W p l e { frames := 1, cells := 0, slots := 0, locals := 23 } s m args below meth c H locs 0 0 (MQ below (zQi D clA LC ad (EC q ad) post) args s 0 0 (zA LC ad)) (F0 m 13 ls []) := by
  have hx := S.1
  have hb := S.2.1
  intro n
  induction n with
  | zero => intro x3 x4 x5 σ H locs ls h; exact False.elim h
  | succ n ih =>
    intro x3 x4 x5 σ H locs ls h  hw hl
    refine lv_iload hx hb dX8_lowestTerms_13 (lv_at hl 5 rfl) ?_
    refine lv_iload_n hx hb dX8_lowestTerms_15 rfl (lv_at hl 1 rfl) ?_
    refine lv_icmp_ge (tgt := 57) hx hb dX8_lowestTerms_16 (by decide) (fun hc => ?_) (fun hc => ?_)
    · have h := h.1 hc
      refine lv_iload_n hx hb dX8_lowestTerms_57 rfl (lv_at hl 2 rfl) ?_
      refine lv_if_ne (tgt := 65) hx hb dX8_lowestTerms_58 (by decide) (fun hc => ?_) (fun hc => ?_)
      · have h := h.1 hc
        refine lv_iload hx hb dX8_lowestTerms_65 (lv_at hl 4 rfl) ?_
        exact wk_X8_lowestTerms_67 S V hr hlocks x0 x1 x2   post  x4 _ _ _ _ h  hw (lv_sub hl [0, 1, 2] rfl)
      · have h := h.2 hc
        refine lv_iload_n hx hb dX8_lowestTerms_61 rfl (lv_at hl 3 rfl) ?_
        refine lv_goto (tgt := 67) hx hb dX8_lowestTerms_62 (by decide) ?_
        exact wk_X8_lowestTerms_67 S V hr hlocks x0 x1 x2   post  x3 _ _ _ _ h  hw (lv_sub hl [0, 1, 2] rfl)
    · have h := h.2 hc
      refine lv_iload_n hx hb dX8_lowestTerms_19 rfl (lv_at hl 3 rfl) ?_
      refine lv_iconst (v := 2) hx hb dX8_lowestTerms_20 (by decide) ?_
      refine lv_irem hx hb dX8_lowestTerms_21 (by decide) ?_
      refine lv_if_ne (tgt := 35) hx hb dX8_lowestTerms_22 (by decide) (fun hc => ?_) (fun hc => ?_)
      · have h := h.1 hc
        exact wk_X8_lowestTerms_35 S V hr hlocks x0 x1 x2  (fun y0 y1 y2 τ => wp_X8_lowestTerms_13 x0 x1 x2 post n y0 y1 y2 τ) post ih x3 x4 x5 _ _ _ _ h  hw (lv_sub hl [0, 1, 2, 3, 4, 5] rfl)
      · have h := h.2 hc
        refine lv_iload_n hx hb dX8_lowestTerms_25 rfl (lv_at hl 3 rfl) ?_
        refine lv_iconst (v := 2) hx hb dX8_lowestTerms_26 (by decide) ?_
        refine lv_idiv hx hb dX8_lowestTerms_27 (by decide) ?_
        refine lv_istore_n (lv' := [(3, .int (x3 / 2)), (0, .int x0), (1, .int x1), (2, .int x2), (4, .int x4), (5, .int x5)]) hx hb dX8_lowestTerms_28 rfl hl (by decide) rfl (fun ls hl => ?_)
        refine lv_iload hx hb dX8_lowestTerms_29 (lv_at hl 4 rfl) ?_
        refine lv_iconst (v := 2) hx hb dX8_lowestTerms_31 (by decide) ?_
        refine lv_idiv hx hb dX8_lowestTerms_32 (by decide) ?_
        refine lv_istore (lv' := [(4, .int (x4 / 2)), (3, .int (x3 / 2)), (0, .int x0), (1, .int x1), (2, .int x2), (5, .int x5)]) hx hb dX8_lowestTerms_33 hl (by decide) rfl (fun ls hl => ?_)
        exact wk_X8_lowestTerms_35 S V hr hlocks x0 x1 x2  (fun y0 y1 y2 τ => wp_X8_lowestTerms_13 x0 x1 x2 post n y0 y1 y2 τ) post ih (x3 / 2) (x4 / 2) x5 _ _ _ _ h  hw (lv_sub hl [2, 3, 4, 1, 0, 5] rfl)
def wp_X8_lowestTerms (x0 : Int32) (x1 : Int32) (x2 : Int32) (post : Int32 → St → Prop)  (σ : St) : Prop := wp_X8_power 10 x1 (fun r1 σ1 => ∃ nn, wp_X8_lowestTerms_13 x0 x1 x2 post nn x0 r1 0 σ1) σ
set_option maxHeartbeats 4000000 in
set_option maxRecDepth 100000 in
theorem wk_X8_lowestTerms_0 {p : Program} {l : Launch} {e : Env} {s : State} {m : MethodId} {below : List Frame} {meth : Method} {c : Code} {D : va_G} {q : ClassId × ClassId × ClassId × ClassId} {ad : Nat → Nat → Nat} {t : Nat × Nat} {aK aV : Nat → Nat} {args : Array Value} (S : CallFix p m c cX8_lowestTerms 6 s args GW "OnChin") (V : EvC D q ad t aK aV s) (hr : meth.sig.returnType = (some .int)) (hlocks : meth.locks = false) (x0 : Int32) (x1 : Int32) (x2 : Int32) (post : Int32 → St → Prop)  : ∀ (σ : St) (H : Heap) (locs : List Loc) (ls : Array Slot), wp_X8_lowestTerms x0 x1 x2 post  σ → wo D clA LC ad s.heap H locs (EC q ad σ) → lv_has ls 6 [(0, .int x0), (1, .int x1), (2, .int x2)] → W p l e { frames := 1, cells := 0, slots := 0, locals := 23 } s m args below meth c H locs 0 0 (MQ below (zQi D clA LC ad (EC q ad) post) args s 0 0 (zA LC ad)) (F0 m 0 ls []) := by
  have hx := S.1
  have hb := S.2.1
  intro  σ H locs ls h  hw hl
  have h : wp_X8_power 10 x1 (fun r1 σ1 => ∃ nn, wp_X8_lowestTerms_13 x0 x1 x2 post nn x0 r1 0 σ1) σ := h
  refine lv_iload_n hx hb dX8_lowestTerms_0 rfl (lv_at hl 0 rfl) ?_
  refine lv_istore_n (lv' := [(3, .int x0), (0, .int x0), (1, .int x1), (2, .int x2)]) hx hb dX8_lowestTerms_1 rfl hl (by decide) rfl (fun ls hl => ?_)
  refine lv_bipush (v := 10) hx hb dX8_lowestTerms_2 (by decide) ?_
  refine lv_iload_n hx hb dX8_lowestTerms_4 rfl (lv_at hl 2 rfl) ?_
  refine call_Si (As := [.int 10, .int x1]) (rest := []) EvC_ok S V hw (mt_X8_power l D q ad t aK aV 10 x1  σ _ h) ok_X8_power ml_X8_270 ⟨(Nat.le_of_ble_eq_true rfl), (Nat.le_of_ble_eq_true rfl)⟩ ⟨rfl, rfl⟩ rfl hl.1 rfl (Nat.le_of_ble_eq_true rfl) dX8_lowestTerms_5 (fun r1 σ1 H locs h hw => ?_)
  refine lv_istore (lv' := [(4, .int r1), (3, .int x0), (0, .int x0), (1, .int x1), (2, .int x2)]) hx hb dX8_lowestTerms_8 hl (by decide) rfl (fun ls hl => ?_)
  refine lv_iconst (v := 0) hx hb dX8_lowestTerms_10 (by decide) ?_
  refine lv_istore (lv' := [(5, .int 0), (4, .int r1), (3, .int x0), (0, .int x0), (1, .int x1), (2, .int x2)]) hx hb dX8_lowestTerms_11 hl (by decide) rfl (fun ls hl => ?_)
  obtain ⟨n9, h⟩ := h
  exact wk_X8_lowestTerms_13 S V hr hlocks x0 x1 x2   post  n9 x0 r1 0 _ _ _ _ h  hw (lv_sub hl [3, 4, 5, 2, 1, 0] rfl)
theorem mt_X8_lowestTerms (l : Launch) (D : va_G) (q : ClassId × ClassId × ClassId × ClassId) (ad : Nat → Nat → Nat) (t : Nat × Nat) (aK aV : Nat → Nat) (x0 : Int32) (x1 : Int32) (x2 : Int32) (σ : St) (post : Int32 → St → Prop) (h : wp_X8_lowestTerms x0 x1 x2 post σ) : cI l D clA LC ad (EC q ad) (EvC D q ad t aK aV) yX8_lowestTerms cX8_lowestTerms 6 (some .int) { frames := 1, cells := 0, slots := 0, locals := 23 } [.int x0, .int x1, .int x2] σ post :=
  ent_i (by decide) (Nat.le_of_ble_eq_true rfl) (fun p e s m below meth c S V hr hlocks hw ls hl => wk_X8_lowestTerms_0 S V hr hlocks x0 x1 x2  post   σ _ _ ls h  hw (lv_sub hl [0, 1, 2] rfl))
