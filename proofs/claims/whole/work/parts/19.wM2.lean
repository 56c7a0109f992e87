def wp_X9_ticks_44 (x1 : Int32) (post : Int32 → St → Prop)  (σ : St) : Prop := post (-4) σ
set_option maxHeartbeats 4000000 in
set_option maxRecDepth 100000 in
theorem wk_X9_ticks_44 {p : Program} {l : Launch} {e : Env} {s : State} {m : MethodId} {below : List Frame} {meth : Method} {c : Code} {D : va_G} {q : ClassId × ClassId × ClassId × ClassId} {ad : Nat → Nat → Nat} {args : Array Value} (S : CallFix p m c cX9_ticks 4 s args GW "OnChinModel") (V : EvM D q ad s) (hr : meth.sig.returnType = (some .int)) (hlocks : meth.locks = false) (x1 : Int32) (post : Int32 → St → Prop)  : ∀ (σ : St) (H : Heap) (locs : List Loc) (ls : Array Slot), wp_X9_ticks_44 x1 post  σ → wo D clA LM ad s.heap H locs (EM q ad σ) → lv_has ls 4 [(0, .ref (ad 0 0)), (1, .int x1)] → W p l e { frames := 3, cells := 0, slots := 0, locals := 78 } s m args below meth c H locs 0 0 (MQ below (zQi D clA LM ad (EM q ad) post) args s 0 0 (zA LM ad)) (F0 m 44 ls []) := by
  have hx := S.1
  have hb := S.2.1
  intro  σ H locs ls h  hw hl
  refine lv_bipush (v := (-4)) hx hb dX9_ticks_44 (by decide) ?_
  exact ret_i S hr hlocks hw h dX9_ticks_46
def wp_X9_ticks_95 (x1 : Int32) (post : Int32 → St → Prop) (x3 : Int32) (σ : St) : Prop := post x3 σ
set_option maxHeartbeats 4000000 in
set_option maxRecDepth 100000 in
theorem wk_X9_ticks_95 {p : Program} {l : Launch} {e : Env} {s : State} {m : MethodId} {below : List Frame} {meth : Method} {c : Code} {D : va_G} {q : ClassId × ClassId × ClassId × ClassId} {ad : Nat → Nat → Nat} {args : Array Value} (S : CallFix p m c cX9_ticks 4 s args GW "OnChinModel") (V : EvM D q ad s) (hr : meth.sig.returnType = (some .int)) (hlocks : meth.locks = false) (x1 : Int32) (post : Int32 → St → Prop)  : ∀ (x3 : Int32) (σ : St) (H : Heap) (locs : List Loc) (ls : Array Slot), wp_X9_ticks_95 x1 post x3 σ → wo D clA LM ad s.heap H locs (EM q ad σ) → lv_has ls 4 [(0, .ref (ad 0 0)), (1, .int x1), (3, .int x3)] → W p l e { frames := 3, cells := 0, slots := 0, locals := 78 } s m args below meth c H locs 0 0 (MQ below (zQi D clA LM ad (EM q ad) post) args s 0 0 (zA LM ad)) (F0 m 95 ls []) := by
  have hx := S.1
  have hb := S.2.1
  intro x3 σ H locs ls h  hw hl
  refine lv_iload_n hx hb dX9_ticks_95 rfl (lv_at hl 2 rfl) ?_
  exact ret_i S hr hlocks hw h dX9_ticks_96
def wp_X9_ticks_54 (x1 : Int32) (post : Int32 → St → Prop) : Nat → Int32 → St → Prop
  | 0 => fun _ _ => False
  | n + 1 => fun x3 σ => ((x1 ≤ x3 → wp_X9_ticks_95 x1 post x3 σ) ∧ (¬ x1 ≤ x3 → ((400 ≤ (σ 11 0 2) → wp_X9_ticks_95 x1 post x3 σ) ∧ (¬ 400 ≤ (σ 11 0 2) → wp_X9_fell 2 (fun r1 σ1 => ((¬ r1 = 0 → wp_X9_ticks_95 x1 post x3 σ1) ∧ (r1 = 0 → wp_X9_tick 2 1 (σ1 0 0 16) (fun σ2 => wp_X9_ticks_54 x1 post n (x3 + 1) σ2) σ1))) σ))))
set_option maxHeartbeats 4000000 in
set_option maxRecDepth 100000 in
theorem wk_X9_ticks_54 {p : Program} {l : Launch} {e : Env} {s : State} {m : MethodId} {below : List Frame} {meth : Method} {c : Code} {D : va_G} {q : ClassId × ClassId × ClassId × ClassId} {ad : Nat → Nat → Nat} {args : Array Value} (S : CallFix p m c cX9_ticks 4 s args GW "OnChinModel") (V : EvM D q ad s) (hr : meth.sig.returnType = (some .int)) (hlocks : meth.locks = false) (x1 : Int32) (post : Int32 → St → Prop)  : ∀ (n : Nat) (x3 : Int32) (σ : St) (H : Heap) (locs : List Loc) (ls : Array Slot), wp_X9_ticks_54 x1 post n x3 σ → wo D clA LM ad s.heap H locs (EM q ad σ) → lv_has ls 4 [(0, .ref (ad 0 0)), (1, .int x1), (3, .int x3)] → W p l e { frames := 3, cells := 0, slots := 0, locals := 78 } s m args below meth c H locs 0 0 (MQ below (zQi D clA LM ad (EM q ad) post) args s 0 0 (zA LM ad)) (F0 m 54 ls []) := by
  have hx := S.1
  have hb := S.2.1
  intro n
  induction n with
  | zero => intro x3 σ H locs ls h; exact False.elim h
  | succ n ih =>
    intro x3 σ H locs ls h  hw hl
    refine lv_iload_n hx hb dX9_ticks_54 rfl (lv_at hl 2 rfl) ?_
    refine lv_iload_n hx hb dX9_ticks_55 rfl (lv_at hl 1 rfl) ?_
    refine lv_icmp_ge (tgt := 95) hx hb dX9_ticks_56 (by decide) (fun hc => ?_) (fun hc => ?_)
    · have h := h.1 hc
      exact wk_X9_ticks_95 S V hr hlocks x1   post  x3 _ _ _ _ h  hw (lv_sub hl [0, 1, 2] rfl)
    · have h := h.2 hc
      refine lv_aload_n hx hb dX9_ticks_59 rfl (lv_at hl 0 rfl) ?_
      refine gM_0_25 S V hw (Nat.le_of_ble_eq_true rfl) fl_X9_62 dX9_ticks_60 ?_
      refine lv_iconst (v := 2) hx hb dX9_ticks_63 (by decide) ?_
      refine aM_11 S V hw (Nat.le_of_ble_eq_true rfl) (vp_in_nI (n := 2) (Nat.le_of_ble_eq_true rfl) (Nat.le_of_ble_eq_true rfl)) (z := (σ 11 0 2)) rfl dX9_ticks_64 ?_
      refine lv_sipush (v := 400) hx hb dX9_ticks_65 (by decide) ?_
      refine lv_icmp_ge (tgt := 95) hx hb dX9_ticks_68 (by decide) (fun hc => ?_) (fun hc => ?_)
      · have h := h.1 hc
        exact wk_X9_ticks_95 S V hr hlocks x1   post  x3 _ _ _ _ h  hw (lv_sub hl [0, 1, 2] rfl)
      · have h := h.2 hc
        refine lv_aload_n hx hb dX9_ticks_71 rfl (lv_at hl 0 rfl) ?_
        refine lv_iconst (v := 2) hx hb dX9_ticks_72 (by decide) ?_
        refine call_Vi (As := [.int 2]) (rest := []) EvM_ok S V hw (mt_X9_fell l D q ad 2  σ _ h) ok_X9_fell ml_X9_255 (rM_0 S V hw (Nat.le_of_ble_eq_true rfl)) ⟨(Nat.le_of_ble_eq_true rfl), (Nat.le_of_ble_eq_true rfl)⟩ ⟨rfl, rfl⟩ rfl hl.1 rfl (Nat.le_of_ble_eq_true rfl) dX9_ticks_73 (fun r1 σ1 H locs h hw => ?_)
        refine lv_if_ne (tgt := 95) hx hb dX9_ticks_76 (by decide) (fun hc => ?_) (fun hc => ?_)
        · have h := h.1 hc
          exact wk_X9_ticks_95 S V hr hlocks x1   post  x3 _ _ _ _ h  hw (lv_sub hl [0, 1, 2] rfl)
        · have h := h.2 hc
          refine lv_aload_n hx hb dX9_ticks_79 rfl (lv_at hl 0 rfl) ?_
          refine lv_iconst (v := 2) hx hb dX9_ticks_80 (by decide) ?_
          refine lv_iconst (v := 1) hx hb dX9_ticks_81 (by decide) ?_
          refine lv_aload_n hx hb dX9_ticks_82 rfl (lv_at hl 0 rfl) ?_
          refine gM_0_16 S V hw (Nat.le_of_ble_eq_true rfl) fl_X9_177 rfl dX9_ticks_83 ?_
          refine call_Vv (As := [.int 2, .int 1, .int (σ1 0 0 16)]) (rest := []) EvM_ok S V hw (mt_X9_tick l D q ad 2 1 (σ1 0 0 16)  σ1 _ h) ok_X9_tick ml_X9_261 (rM_0 S V hw (Nat.le_of_ble_eq_true rfl)) ⟨(Nat.le_of_ble_eq_true rfl), (Nat.le_of_ble_eq_true rfl)⟩ ⟨rfl, rfl⟩ rfl hl.1 rfl (Nat.le_of_ble_eq_true rfl) dX9_ticks_86 (fun σ2 H locs h hw => ?_)
          refine lv_iinc (v := (x3 + 1)) (lv' := [(3, .int (x3 + 1)), (0, .ref (ad 0 0)), (1, .int x1)]) hx hb dX9_ticks_89 hl (k := 2) rfl rfl (by decide) rfl (fun ls hl => ?_)
          refine lv_goto (tgt := 54) hx hb dX9_ticks_92 (by decide) ?_
          exact ih (x3 + 1) _ _ _ _ h  hw (lv_sub hl [1, 2, 0] rfl)
def wp_X9_ticks (x1 : Int32) (post : Int32 → St → Prop)  (σ : St) : Prop := wp_X9_in (Int32.toInt64 x1) 1 100 (fun r1 σ1 => ((¬ r1 = 0 → (((σ1 13 0 2) = (-1) → wp_X9_ticks_44 x1 post  σ1) ∧ (¬ (σ1 13 0 2) = (-1) → wp_X9_fell 2 (fun r2 σ2 => ((¬ r2 = 0 → wp_X9_ticks_44 x1 post  σ2) ∧ (r2 = 0 → (vp_in (σ1 13 0 2) 4 ∧ ((¬ (σ2 5 0 ((σ1 13 0 2).toNatClampNeg)) = 0 → wp_X9_asTold (σ1 13 0 2) (fun σ3 => ∃ nn, wp_X9_ticks_54 x1 post nn 0 σ3) σ2) ∧ ((σ2 5 0 ((σ1 13 0 2).toNatClampNeg)) = 0 → wp_X9_ticks_44 x1 post  σ2)))))) σ1))) ∧ (r1 = 0 → post (-3) σ1))) σ
set_option maxHeartbeats 4000000 in
set_option maxRecDepth 100000 in
theorem wk_X9_ticks_0 {p : Program} {l : Launch} {e : Env} {s : State} {m : MethodId} {below : List Frame} {meth : Method} {c : Code} {D : va_G} {q : ClassId × ClassId × ClassId × ClassId} {ad : Nat → Nat → Nat} {args : Array Value} (S : CallFix p m c cX9_ticks 4 s args GW "OnChinModel") (V : EvM D q ad s) (hr : meth.sig.returnType = (some .int)) (hlocks : meth.locks = false) (x1 : Int32) (post : Int32 → St → Prop)  : ∀ (σ : St) (H : Heap) (locs : List Loc) (ls : Array Slot), wp_X9_ticks x1 post  σ → wo D clA LM ad s.heap H locs (EM q ad σ) → lv_has ls 4 [(0, .ref (ad 0 0)), (1, .int x1)] → W p l e { frames := 3, cells := 0, slots := 0, locals := 78 } s m args below meth c H locs 0 0 (MQ below (zQi D clA LM ad (EM q ad) post) args s 0 0 (zA LM ad)) (F0 m 0 ls []) := by
  have hx := S.1
  have hb := S.2.1
  intro  σ H locs ls h  hw hl
  have h : wp_X9_in (Int32.toInt64 x1) 1 100 (fun r1 σ1 => ((¬ r1 = 0 → (((σ1 13 0 2) = (-1) → wp_X9_ticks_44 x1 post  σ1) ∧ (¬ (σ1 13 0 2) = (-1) → wp_X9_fell 2 (fun r2 σ2 => ((¬ r2 = 0 → wp_X9_ticks_44 x1 post  σ2) ∧ (r2 = 0 → (vp_in (σ1 13 0 2) 4 ∧ ((¬ (σ2 5 0 ((σ1 13 0 2).toNatClampNeg)) = 0 → wp_X9_asTold (σ1 13 0 2) (fun σ3 => ∃ nn, wp_X9_ticks_54 x1 post nn 0 σ3) σ2) ∧ ((σ2 5 0 ((σ1 13 0 2).toNatClampNeg)) = 0 → wp_X9_ticks_44 x1 post  σ2)))))) σ1))) ∧ (r1 = 0 → post (-3) σ1))) σ := h
  refine lv_iload_n hx hb dX9_ticks_0 rfl (lv_at hl 1 rfl) ?_
  refine lv_i2l (v := (Int32.toInt64 x1)) hx hb dX9_ticks_1 rfl ?_
  refine lv_lconst (v := 1) hx hb dX9_ticks_2 (by decide) ?_
  refine lv_ldc2 (v := 100) hx hb S.2.2.2.1 (gw_S S _ kc_X9_253) dX9_ticks_3 ?_
  refine call_Si (As := [.long (Int32.toInt64 x1), .long 1, .long 100]) (rest := []) EvM_ok S V hw (mt_X9_in l D q ad (Int32.toInt64 x1) 1 100  σ _ h) ok_X9_in ml_X9_92 ⟨(Nat.le_of_ble_eq_true rfl), (Nat.le_of_ble_eq_true rfl)⟩ ⟨rfl, rfl⟩ rfl hl.1 rfl (Nat.le_of_ble_eq_true rfl) dX9_ticks_6 (fun r1 σ1 H locs h hw => ?_)
  refine lv_if_ne (tgt := 15) hx hb dX9_ticks_9 (by decide) (fun hc => ?_) (fun hc => ?_)
  · have h := h.1 hc
    refine lv_aload_n hx hb dX9_ticks_15 rfl (lv_at hl 0 rfl) ?_
    refine gM_0_27 S V hw (Nat.le_of_ble_eq_true rfl) fl_X9_68 dX9_ticks_16 ?_
    refine lv_iconst (v := 2) hx hb dX9_ticks_19 (by decide) ?_
    refine aM_13 S V hw (Nat.le_of_ble_eq_true rfl) (vp_in_nI (n := 2) (Nat.le_of_ble_eq_true rfl) (Nat.le_of_ble_eq_true rfl)) (z := (σ1 13 0 2)) rfl dX9_ticks_20 ?_
    refine lv_istore_n (lv' := [(2, .int (σ1 13 0 2)), (0, .ref (ad 0 0)), (1, .int x1)]) hx hb dX9_ticks_21 rfl hl (by decide) rfl (fun ls hl => ?_)
    refine lv_iload_n hx hb dX9_ticks_22 rfl (lv_at hl 0 rfl) ?_
    refine lv_iconst (v := (-1)) hx hb dX9_ticks_23 (by decide) ?_
    refine lv_icmp_eq (tgt := 44) hx hb dX9_ticks_24 (by decide) (fun hc => ?_) (fun hc => ?_)
    · have h := h.1 hc
      exact wk_X9_ticks_44 S V hr hlocks x1   post   _ _ _ _ h  hw (lv_sub hl [1, 2] rfl)
    · have h := h.2 hc
      refine lv_aload_n hx hb dX9_ticks_27 rfl (lv_at hl 1 rfl) ?_
      refine lv_iconst (v := 2) hx hb dX9_ticks_28 (by decide) ?_
      refine call_Vi (As := [.int 2]) (rest := []) EvM_ok S V hw (mt_X9_fell l D q ad 2  σ1 _ h) ok_X9_fell ml_X9_255 (rM_0 S V hw (Nat.le_of_ble_eq_true rfl)) ⟨(Nat.le_of_ble_eq_true rfl), (Nat.le_of_ble_eq_true rfl)⟩ ⟨rfl, rfl⟩ rfl hl.1 rfl (Nat.le_of_ble_eq_true rfl) dX9_ticks_29 (fun r2 σ2 H locs h hw => ?_)
      refine lv_if_ne (tgt := 44) hx hb dX9_ticks_32 (by decide) (fun hc => ?_) (fun hc => ?_)
      · have h := h.1 hc
        exact wk_X9_ticks_44 S V hr hlocks x1   post   _ _ _ _ h  hw (lv_sub hl [1, 2] rfl)
      · have h := h.2 hc
        refine lv_aload_n hx hb dX9_ticks_35 rfl (lv_at hl 1 rfl) ?_
        refine gM_0_6 S V hw (Nat.le_of_ble_eq_true rfl) fl_X9_22 dX9_ticks_36 ?_
        refine lv_iload_n hx hb dX9_ticks_39 rfl (lv_at hl 0 rfl) ?_
        refine aM_5 S V hw (Nat.le_of_ble_eq_true rfl) h.1 (z := (σ2 5 0 ((σ1 13 0 2).toNatClampNeg))) rfl dX9_ticks_40 ?_
        have h := h.2
        refine lv_if_ne (tgt := 47) hx hb dX9_ticks_41 (by decide) (fun hc => ?_) (fun hc => ?_)
        · have h := h.1 hc
          refine lv_aload_n hx hb dX9_ticks_47 rfl (lv_at hl 1 rfl) ?_
          refine lv_iload_n hx hb dX9_ticks_48 rfl (lv_at hl 0 rfl) ?_
          refine call_Vv (As := [.int (σ1 13 0 2)]) (rest := []) EvM_ok S V hw (mt_X9_asTold l D q ad (σ1 13 0 2)  σ2 _ h) ok_X9_asTold ml_X9_258 (rM_0 S V hw (Nat.le_of_ble_eq_true rfl)) ⟨(Nat.le_of_ble_eq_true rfl), (Nat.le_of_ble_eq_true rfl)⟩ ⟨rfl, rfl⟩ rfl hl.1 rfl (Nat.le_of_ble_eq_true rfl) dX9_ticks_49 (fun σ3 H locs h hw => ?_)
          refine lv_iconst (v := 0) hx hb dX9_ticks_52 (by decide) ?_
          refine lv_istore_n (lv' := [(3, .int 0), (2, .int (σ1 13 0 2)), (0, .ref (ad 0 0)), (1, .int x1)]) hx hb dX9_ticks_53 rfl hl (by decide) rfl (fun ls hl => ?_)
          obtain ⟨n9, h⟩ := h
          exact wk_X9_ticks_54 S V hr hlocks x1   post  n9 0 _ _ _ _ h  hw (lv_sub hl [2, 3, 0] rfl)
        · have h := h.2 hc
          exact wk_X9_ticks_44 S V hr hlocks x1   post   _ _ _ _ h  hw (lv_sub hl [1, 2] rfl)
  · have h := h.2 hc
    refine lv_bipush (v := (-3)) hx hb dX9_ticks_12 (by decide) ?_
    exact ret_i S hr hlocks hw h dX9_ticks_14
theorem mt_X9_ticks (l : Launch) (D : va_G) (q : ClassId × ClassId × ClassId × ClassId) (ad : Nat → Nat → Nat) (x1 : Int32) (σ : St) (post : Int32 → St → Prop) (h : wp_X9_ticks x1 post σ) : cI l D clA LM ad (EM q ad) (EvM D q ad) yX9_ticks cX9_ticks 4 (some .int) { frames := 3, cells := 0, slots := 0, locals := 78 } [.ref (ad 0 0), .int x1] σ post :=
  ent_i (by decide) (Nat.le_of_ble_eq_true rfl) (fun p e s m below meth c S V hr hlocks hw ls hl => wk_X9_ticks_0 S V hr hlocks x1  post   σ _ _ ls h  hw (lv_sub hl [0, 1] rfl))
def wp_X9_now_131 (x1 : Int32) (post : Int32 → St → Prop) (xs0 : Int32) (σ : St) : Prop := post xs0 σ
set_option maxHeartbeats 4000000 in
set_option maxRecDepth 100000 in
theorem wk_X9_now_131 {p : Program} {l : Launch} {e : Env} {s : State} {m : MethodId} {below : List Frame} {meth : Method} {c : Code} {D : va_G} {q : ClassId × ClassId × ClassId × ClassId} {ad : Nat → Nat → Nat} {args : Array Value} (S : CallFix p m c cX9_now 2 s args GW "OnChinModel") (V : EvM D q ad s) (hr : meth.sig.returnType = (some .int)) (hlocks : meth.locks = false) (x1 : Int32) (post : Int32 → St → Prop)  : ∀ (xs0 : Int32) (σ : St) (H : Heap) (locs : List Loc) (ls : Array Slot), wp_X9_now_131 x1 post xs0 σ → wo D clA LM ad s.heap H locs (EM q ad σ) → lv_has ls 2 [(0, .ref (ad 0 0)), (1, .int x1)] → W p l e { frames := 2, cells := 0, slots := 0, locals := 43 } s m args below meth c H locs 0 0 (MQ below (zQi D clA LM ad (EM q ad) post) args s 0 0 (zA LM ad)) (F0 m 131 ls [.int xs0]) := by
  have hx := S.1
  have hb := S.2.1
  intro xs0 σ H locs ls h  hw hl
  exact ret_i S hr hlocks hw h dX9_now_131
def wp_X9_now (x1 : Int32) (post : Int32 → St → Prop)  (σ : St) : Prop := wp_X9_in (Int32.toInt64 x1) 0 6 (fun r1 σ1 => ((¬ r1 = 0 → ((¬ (σ1 13 0 2) = (-1) → ((x1 = 0 → wp_X9_leansAt 2 (fun r2 σ2 => post (r2 + 1000000) σ2) σ1) ∧ (¬ x1 = 0 → ((x1 = 1 → post ((σ1 9 0 2) + 1000000) σ1) ∧ (¬ x1 = 1 → ((x1 = 2 → post ((σ1 10 0 2) + 1000) σ1) ∧ (¬ x1 = 2 → ((x1 = 3 → post (σ1 11 0 2) σ1) ∧ (¬ x1 = 3 → ((x1 = 4 → post ((σ1 12 0 2) + 1000) σ1) ∧ (¬ x1 = 4 → ((x1 = 5 → wp_X9_fell 2 (fun r3 σ3 => ((r3 = 0 → wp_X9_now_131 x1 post 0 σ3) ∧ (¬ r3 = 0 → wp_X9_now_131 x1 post 1 σ3))) σ1) ∧ (¬ x1 = 5 → post (σ1 13 0 2) σ1))))))))))))) ∧ ((σ1 13 0 2) = (-1) → post (-4) σ1))) ∧ (r1 = 0 → post (-3) σ1))) σ
set_option maxHeartbeats 4000000 in
set_option maxRecDepth 100000 in
theorem wk_X9_now_0 {p : Program} {l : Launch} {e : Env} {s : State} {m : MethodId} {below : List Frame} {meth : Method} {c : Code} {D : va_G} {q : ClassId × ClassId × ClassId × ClassId} {ad : Nat → Nat → Nat} {args : Array Value} (S : CallFix p m c cX9_now 2 s args GW "OnChinModel") (V : EvM D q ad s) (hr : meth.sig.returnType = (some .int)) (hlocks : meth.locks = false) (x1 : Int32) (post : Int32 → St → Prop)  : ∀ (σ : St) (H : Heap) (locs : List Loc) (ls : Array Slot), wp_X9_now x1 post  σ → wo D clA LM ad s.heap H locs (EM q ad σ) → lv_has ls 2 [(0, .ref (ad 0 0)), (1, .int x1)] → W p l e { frames := 2, cells := 0, slots := 0, locals := 43 } s m args below meth c H locs 0 0 (MQ below (zQi D clA LM ad (EM q ad) post) args s 0 0 (zA LM ad)) (F0 m 0 ls []) := by
  have hx := S.1
  have hb := S.2.1
  intro  σ H locs ls h  hw hl
  have h : wp_X9_in (Int32.toInt64 x1) 0 6 (fun r1 σ1 => ((¬ r1 = 0 → ((¬ (σ1 13 0 2) = (-1) → ((x1 = 0 → wp_X9_leansAt 2 (fun r2 σ2 => post (r2 + 1000000) σ2) σ1) ∧ (¬ x1 = 0 → ((x1 = 1 → post ((σ1 9 0 2) + 1000000) σ1) ∧ (¬ x1 = 1 → ((x1 = 2 → post ((σ1 10 0 2) + 1000) σ1) ∧ (¬ x1 = 2 → ((x1 = 3 → post (σ1 11 0 2) σ1) ∧ (¬ x1 = 3 → ((x1 = 4 → post ((σ1 12 0 2) + 1000) σ1) ∧ (¬ x1 = 4 → ((x1 = 5 → wp_X9_fell 2 (fun r3 σ3 => ((r3 = 0 → wp_X9_now_131 x1 post 0 σ3) ∧ (¬ r3 = 0 → wp_X9_now_131 x1 post 1 σ3))) σ1) ∧ (¬ x1 = 5 → post (σ1 13 0 2) σ1))))))))))))) ∧ ((σ1 13 0 2) = (-1) → post (-4) σ1))) ∧ (r1 = 0 → post (-3) σ1))) σ := h
  refine lv_iload_n hx hb dX9_now_0 rfl (lv_at hl 1 rfl) ?_
  refine lv_i2l (v := (Int32.toInt64 x1)) hx hb dX9_now_1 rfl ?_
  refine lv_lconst (v := 0) hx hb dX9_now_2 (by decide) ?_
  refine lv_ldc2 (v := 6) hx hb S.2.2.2.1 (gw_S S _ kc_X9_265) dX9_now_3 ?_
  refine call_Si (As := [.long (Int32.toInt64 x1), .long 0, .long 6]) (rest := []) EvM_ok S V hw (mt_X9_in l D q ad (Int32.toInt64 x1) 0 6  σ _ h) ok_X9_in ml_X9_92 ⟨(Nat.le_of_ble_eq_true rfl), (Nat.le_of_ble_eq_true rfl)⟩ ⟨rfl, rfl⟩ rfl hl.1 rfl (Nat.le_of_ble_eq_true rfl) dX9_now_6 (fun r1 σ1 H locs h hw => ?_)
  refine lv_if_ne (tgt := 15) hx hb dX9_now_9 (by decide) (fun hc => ?_) (fun hc => ?_)
  · have h := h.1 hc
    refine lv_aload_n hx hb dX9_now_15 rfl (lv_at hl 0 rfl) ?_
    refine gM_0_27 S V hw (Nat.le_of_ble_eq_true rfl) fl_X9_68 dX9_now_16 ?_
    refine lv_iconst (v := 2) hx hb dX9_now_19 (by decide) ?_
    refine aM_13 S V hw (Nat.le_of_ble_eq_true rfl) (vp_in_nI (n := 2) (Nat.le_of_ble_eq_true rfl) (Nat.le_of_ble_eq_true rfl)) (z := (σ1 13 0 2)) rfl dX9_now_20 ?_
    refine lv_iconst (v := (-1)) hx hb dX9_now_21 (by decide) ?_
    refine lv_icmp_ne (tgt := 28) hx hb dX9_now_22 (by decide) (fun hc => ?_) (fun hc => ?_)
    · have h := h.1 hc
      refine lv_iload_n hx hb dX9_now_28 rfl (lv_at hl 1 rfl) ?_
      by_cases hc0 : x1 = 0
      · have h := h.1 hc0
        refine lv_tableIn (tgt := 68) hx hb dX9_now_29 (by rw [hc0]; decide) (by rw [hc0]; decide) (by rw [hc0]; rfl) (by decide) ?_
        refine lv_aload_n hx hb dX9_now_68 rfl (lv_at hl 0 rfl) ?_
        refine lv_iconst (v := 2) hx hb dX9_now_69 (by decide) ?_
        refine call_Vi (As := [.int 2]) (rest := []) EvM_ok S V hw (mt_X9_leansAt l D q ad 2  σ1 _ h) ok_X9_leansAt ml_X9_225 (rM_0 S V hw (Nat.le_of_ble_eq_true rfl)) ⟨(Nat.le_of_ble_eq_true rfl), (Nat.le_of_ble_eq_true rfl)⟩ ⟨rfl, rfl⟩ rfl hl.1 rfl (Nat.le_of_ble_eq_true rfl) dX9_now_70 (fun r2 σ2 H locs h hw => ?_)
        refine lv_ldcw (v := 1000000) hx hb S.2.2.2.1 (gw_S S _ kc_X9_267) dX9_now_73 ?_
        refine lv_iadd hx hb dX9_now_76 ?_
        exact ret_i S hr hlocks hw h dX9_now_77
      · have h := h.2 hc0
        by_cases hc1 : x1 = 1
        · have h := h.1 hc1
          refine lv_tableIn (tgt := 78) hx hb dX9_now_29 (by rw [hc1]; decide) (by rw [hc1]; decide) (by rw [hc1]; rfl) (by decide) ?_
          refine lv_aload_n hx hb dX9_now_78 rfl (lv_at hl 0 rfl) ?_
          refine gM_0_23 S V hw (Nat.le_of_ble_eq_true rfl) fl_X9_56 dX9_now_79 ?_
          refine lv_iconst (v := 2) hx hb dX9_now_82 (by decide) ?_
          refine aM_9 S V hw (Nat.le_of_ble_eq_true rfl) (vp_in_nI (n := 2) (Nat.le_of_ble_eq_true rfl) (Nat.le_of_ble_eq_true rfl)) (z := (σ1 9 0 2)) rfl dX9_now_83 ?_
          refine lv_ldcw (v := 1000000) hx hb S.2.2.2.1 (gw_S S _ kc_X9_267) dX9_now_84 ?_
          refine lv_iadd hx hb dX9_now_87 ?_
          exact ret_i S hr hlocks hw h dX9_now_88
        · have h := h.2 hc1
          by_cases hc2 : x1 = 2
          · have h := h.1 hc2
            refine lv_tableIn (tgt := 89) hx hb dX9_now_29 (by rw [hc2]; decide) (by rw [hc2]; decide) (by rw [hc2]; rfl) (by decide) ?_
            refine lv_aload_n hx hb dX9_now_89 rfl (lv_at hl 0 rfl) ?_
            refine gM_0_24 S V hw (Nat.le_of_ble_eq_true rfl) fl_X9_59 dX9_now_90 ?_
            refine lv_iconst (v := 2) hx hb dX9_now_93 (by decide) ?_
            refine aM_10 S V hw (Nat.le_of_ble_eq_true rfl) (vp_in_nI (n := 2) (Nat.le_of_ble_eq_true rfl) (Nat.le_of_ble_eq_true rfl)) (z := (σ1 10 0 2)) rfl dX9_now_94 ?_
            refine lv_sipush (v := 1000) hx hb dX9_now_95 (by decide) ?_
            refine lv_iadd hx hb dX9_now_98 ?_
            exact ret_i S hr hlocks hw h dX9_now_99
          · have h := h.2 hc2
            by_cases hc3 : x1 = 3
            · have h := h.1 hc3
              refine lv_tableIn (tgt := 100) hx hb dX9_now_29 (by rw [hc3]; decide) (by rw [hc3]; decide) (by rw [hc3]; rfl) (by decide) ?_
              refine lv_aload_n hx hb dX9_now_100 rfl (lv_at hl 0 rfl) ?_
              refine gM_0_25 S V hw (Nat.le_of_ble_eq_true rfl) fl_X9_62 dX9_now_101 ?_
              refine lv_iconst (v := 2) hx hb dX9_now_104 (by decide) ?_
              refine aM_11 S V hw (Nat.le_of_ble_eq_true rfl) (vp_in_nI (n := 2) (Nat.le_of_ble_eq_true rfl) (Nat.le_of_ble_eq_true rfl)) (z := (σ1 11 0 2)) rfl dX9_now_105 ?_
              exact ret_i S hr hlocks hw h dX9_now_106
            · have h := h.2 hc3
              by_cases hc4 : x1 = 4
              · have h := h.1 hc4
                refine lv_tableIn (tgt := 107) hx hb dX9_now_29 (by rw [hc4]; decide) (by rw [hc4]; decide) (by rw [hc4]; rfl) (by decide) ?_
                refine lv_aload_n hx hb dX9_now_107 rfl (lv_at hl 0 rfl) ?_
                refine gM_0_26 S V hw (Nat.le_of_ble_eq_true rfl) fl_X9_65 dX9_now_108 ?_
                refine lv_iconst (v := 2) hx hb dX9_now_111 (by decide) ?_
                refine aM_12 S V hw (Nat.le_of_ble_eq_true rfl) (vp_in_nI (n := 2) (Nat.le_of_ble_eq_true rfl) (Nat.le_of_ble_eq_true rfl)) (z := (σ1 12 0 2)) rfl dX9_now_112 ?_
                refine lv_sipush (v := 1000) hx hb dX9_now_113 (by decide) ?_
                refine lv_iadd hx hb dX9_now_116 ?_
                exact ret_i S hr hlocks hw h dX9_now_117
              · have h := h.2 hc4
                by_cases hc5 : x1 = 5
                · have h := h.1 hc5
                  refine lv_tableIn (tgt := 118) hx hb dX9_now_29 (by rw [hc5]; decide) (by rw [hc5]; decide) (by rw [hc5]; rfl) (by decide) ?_
                  refine lv_aload_n hx hb dX9_now_118 rfl (lv_at hl 0 rfl) ?_
                  refine lv_iconst (v := 2) hx hb dX9_now_119 (by decide) ?_
                  refine call_Vi (As := [.int 2]) (rest := []) EvM_ok S V hw (mt_X9_fell l D q ad 2  σ1 _ h) ok_X9_fell ml_X9_255 (rM_0 S V hw (Nat.le_of_ble_eq_true rfl)) ⟨(Nat.le_of_ble_eq_true rfl), (Nat.le_of_ble_eq_true rfl)⟩ ⟨rfl, rfl⟩ rfl hl.1 rfl (Nat.le_of_ble_eq_true rfl) dX9_now_120 (fun r3 σ3 H locs h hw => ?_)
                  refine lv_if_eq (tgt := 130) hx hb dX9_now_123 (by decide) (fun hc => ?_) (fun hc => ?_)
                  · have h := h.1 hc
                    refine lv_iconst (v := 0) hx hb dX9_now_130 (by decide) ?_
                    exact wk_X9_now_131 S V hr hlocks x1   post  0 _ _ _ _ h  hw (lv_sub hl [0, 1] rfl)
                  · have h := h.2 hc
                    refine lv_iconst (v := 1) hx hb dX9_now_126 (by decide) ?_
                    refine lv_goto (tgt := 131) hx hb dX9_now_127 (by decide) ?_
                    exact wk_X9_now_131 S V hr hlocks x1   post  1 _ _ _ _ h  hw (lv_sub hl [0, 1] rfl)
                · have h := h.2 hc5
                  refine lv_tableOut (tgt := 132) hx hb dX9_now_29 (by have e0 := lv_neT (k := 0) (a := 0) hc0 rfl; have e1 := lv_neT (k := 1) (a := 1) hc1 rfl; have e2 := lv_neT (k := 2) (a := 2) hc2 rfl; have e3 := lv_neT (k := 3) (a := 3) hc3 rfl; have e4 := lv_neT (k := 4) (a := 4) hc4 rfl; have e5 := lv_neT (k := 5) (a := 5) hc5 rfl; omega) (by decide) ?_
                  refine lv_aload_n hx hb dX9_now_132 rfl (lv_at hl 0 rfl) ?_
                  refine gM_0_27 S V hw (Nat.le_of_ble_eq_true rfl) fl_X9_68 dX9_now_133 ?_
                  refine lv_iconst (v := 2) hx hb dX9_now_136 (by decide) ?_
                  refine aM_13 S V hw (Nat.le_of_ble_eq_true rfl) (vp_in_nI (n := 2) (Nat.le_of_ble_eq_true rfl) (Nat.le_of_ble_eq_true rfl)) (z := (σ1 13 0 2)) rfl dX9_now_137 ?_
                  exact ret_i S hr hlocks hw h dX9_now_138
    · have h := h.2 hc
      refine lv_bipush (v := (-4)) hx hb dX9_now_25 (by decide) ?_
      exact ret_i S hr hlocks hw h dX9_now_27
  · have h := h.2 hc
    refine lv_bipush (v := (-3)) hx hb dX9_now_12 (by decide) ?_
    exact ret_i S hr hlocks hw h dX9_now_14
theorem mt_X9_now (l : Launch) (D : va_G) (q : ClassId × ClassId × ClassId × ClassId) (ad : Nat → Nat → Nat) (x1 : Int32) (σ : St) (post : Int32 → St → Prop) (h : wp_X9_now x1 post σ) : cI l D clA LM ad (EM q ad) (EvM D q ad) yX9_now cX9_now 2 (some .int) { frames := 2, cells := 0, slots := 0, locals := 43 } [.ref (ad 0 0), .int x1] σ post :=
  ent_i (by decide) (Nat.le_of_ble_eq_true rfl) (fun p e s m below meth c S V hr hlocks hw ls hl => wk_X9_now_0 S V hr hlocks x1  post   σ _ _ ls h  hw (lv_sub hl [0, 1] rfl))
def wp_X9_copy_2 (x1 : Int32) (x2 : Int32) (post : St → Prop) : Nat → Int32 → St → Prop
  | 0 => fun _ _ => False
  | n + 1 => fun x3 σ => ((402 ≤ x3 → (vp_in x1 5 ∧ (vp_in x2 5 ∧ (vp_in x1 5 ∧ (vp_in x2 5 ∧ (vp_in x1 5 ∧ (vp_in x2 5 ∧ (vp_in x1 5 ∧ (vp_in x2 5 ∧ (vp_in x1 5 ∧ (vp_in x2 5 ∧ post (su (su (su (su (su σ 9 0 x2.toNatClampNeg (σ 9 0 x1.toNatClampNeg)) 10 0 x2.toNatClampNeg (σ 10 0 x1.toNatClampNeg)) 11 0 x2.toNatClampNeg (σ 11 0 x1.toNatClampNeg)) 12 0 x2.toNatClampNeg (σ 12 0 x1.toNatClampNeg)) 13 0 x2.toNatClampNeg (σ 13 0 x1.toNatClampNeg))))))))))))) ∧ (¬ 402 ≤ x3 → (vp_in ((402 * x1) + x3) 2010 ∧ (vp_in ((402 * x2) + x3) 2010 ∧ wp_X9_copy_2 x1 x2 post n (x3 + 1) (su σ 8 0 (((402 * x2) + x3).toNatClampNeg) (σ 8 0 (((402 * x1) + x3).toNatClampNeg)))))))
set_option maxHeartbeats 4000000 in
set_option maxRecDepth 100000 in
theorem wk_X9_copy_2 {p : Program} {l : Launch} {e : Env} {s : State} {m : MethodId} {below : List Frame} {meth : Method} {c : Code} {D : va_G} {q : ClassId × ClassId × ClassId × ClassId} {ad : Nat → Nat → Nat} {args : Array Value} (S : CallFix p m c cX9_copy 4 s args GW "OnChinModel") (V : EvM D q ad s) (hr : meth.sig.returnType = none) (hlocks : meth.locks = false) (x1 : Int32) (x2 : Int32) (post : St → Prop)  : ∀ (n : Nat) (x3 : Int32) (σ : St) (H : Heap) (locs : List Loc) (ls : Array Slot), wp_X9_copy_2 x1 x2 post n x3 σ → wo D clA LM ad s.heap H locs (EM q ad σ) → lv_has ls 4 [(0, .ref (ad 0 0)), (1, .int x1), (2, .int x2), (3, .int x3)] → W p l e { frames := 0, cells := 0, slots := 0, locals := 0 } s m args below meth c H locs 0 0 (MQ below (zQv D clA LM ad (EM q ad) post) args s 0 0 (zA LM ad)) (F0 m 2 ls []) := by
  have hx := S.1
  have hb := S.2.1
  intro n
  induction n with
  | zero => intro x3 σ H locs ls h; exact False.elim h
  | succ n ih =>
    intro x3 σ H locs ls h  hw hl
    refine lv_iload_n hx hb dX9_copy_2 rfl (lv_at hl 3 rfl) ?_
    refine lv_sipush (v := 402) hx hb dX9_copy_3 (by decide) ?_
    refine lv_icmp_ge (tgt := 39) hx hb dX9_copy_6 (by decide) (fun hc => ?_) (fun hc => ?_)
    · have h := h.1 hc
      refine lv_aload_n hx hb dX9_copy_39 rfl (lv_at hl 0 rfl) ?_
      refine gM_0_23 S V hw (Nat.le_of_ble_eq_true rfl) fl_X9_56 dX9_copy_40 ?_
      refine lv_iload_n hx hb dX9_copy_43 rfl (lv_at hl 2 rfl) ?_
      refine lv_aload_n hx hb dX9_copy_44 rfl (lv_at hl 0 rfl) ?_
      refine gM_0_23 S V hw (Nat.le_of_ble_eq_true rfl) fl_X9_56 dX9_copy_45 ?_
      refine lv_iload_n hx hb dX9_copy_48 rfl (lv_at hl 1 rfl) ?_
      refine aM_9 S V hw (Nat.le_of_ble_eq_true rfl) h.1 (z := (σ 9 0 x1.toNatClampNeg)) rfl dX9_copy_49 ?_
      have h := h.2
      refine sM_9 S V hw (Nat.le_of_ble_eq_true rfl) h.1 dX9_copy_50 (fun H locs hw => ?_)
      have h := h.2
      refine lv_aload_n hx hb dX9_copy_51 rfl (lv_at hl 0 rfl) ?_
      refine gM_0_24 S V hw (Nat.le_of_ble_eq_true rfl) fl_X9_59 dX9_copy_52 ?_
      refine lv_iload_n hx hb dX9_copy_55 rfl (lv_at hl 2 rfl) ?_
      refine lv_aload_n hx hb dX9_copy_56 rfl (lv_at hl 0 rfl) ?_
      refine gM_0_24 S V hw (Nat.le_of_ble_eq_true rfl) fl_X9_59 dX9_copy_57 ?_
      refine lv_iload_n hx hb dX9_copy_60 rfl (lv_at hl 1 rfl) ?_
      refine aM_10 S V hw (Nat.le_of_ble_eq_true rfl) h.1 (z := (σ 10 0 x1.toNatClampNeg)) (su_nc rfl) dX9_copy_61 ?_
      have h := h.2
      refine sM_10 S V hw (Nat.le_of_ble_eq_true rfl) h.1 dX9_copy_62 (fun H locs hw => ?_)
      have h := h.2
      refine lv_aload_n hx hb dX9_copy_63 rfl (lv_at hl 0 rfl) ?_
      refine gM_0_25 S V hw (Nat.le_of_ble_eq_true rfl) fl_X9_62 dX9_copy_64 ?_
      refine lv_iload_n hx hb dX9_copy_67 rfl (lv_at hl 2 rfl) ?_
      refine lv_aload_n hx hb dX9_copy_68 rfl (lv_at hl 0 rfl) ?_
      refine gM_0_25 S V hw (Nat.le_of_ble_eq_true rfl) fl_X9_62 dX9_copy_69 ?_
      refine lv_iload_n hx hb dX9_copy_72 rfl (lv_at hl 1 rfl) ?_
      refine aM_11 S V hw (Nat.le_of_ble_eq_true rfl) h.1 (z := (σ 11 0 x1.toNatClampNeg)) ((su_nc rfl).trans (su_nc rfl)) dX9_copy_73 ?_
      have h := h.2
      refine sM_11 S V hw (Nat.le_of_ble_eq_true rfl) h.1 dX9_copy_74 (fun H locs hw => ?_)
      have h := h.2
      refine lv_aload_n hx hb dX9_copy_75 rfl (lv_at hl 0 rfl) ?_
      refine gM_0_26 S V hw (Nat.le_of_ble_eq_true rfl) fl_X9_65 dX9_copy_76 ?_
      refine lv_iload_n hx hb dX9_copy_79 rfl (lv_at hl 2 rfl) ?_
      refine lv_aload_n hx hb dX9_copy_80 rfl (lv_at hl 0 rfl) ?_
      refine gM_0_26 S V hw (Nat.le_of_ble_eq_true rfl) fl_X9_65 dX9_copy_81 ?_
      refine lv_iload_n hx hb dX9_copy_84 rfl (lv_at hl 1 rfl) ?_
      refine aM_12 S V hw (Nat.le_of_ble_eq_true rfl) h.1 (z := (σ 12 0 x1.toNatClampNeg)) ((su_nc rfl).trans ((su_nc rfl).trans (su_nc rfl))) dX9_copy_85 ?_
      have h := h.2
      refine sM_12 S V hw (Nat.le_of_ble_eq_true rfl) h.1 dX9_copy_86 (fun H locs hw => ?_)
      have h := h.2
      refine lv_aload_n hx hb dX9_copy_87 rfl (lv_at hl 0 rfl) ?_
      refine gM_0_27 S V hw (Nat.le_of_ble_eq_true rfl) fl_X9_68 dX9_copy_88 ?_
      refine lv_iload_n hx hb dX9_copy_91 rfl (lv_at hl 2 rfl) ?_
      refine lv_aload_n hx hb dX9_copy_92 rfl (lv_at hl 0 rfl) ?_
      refine gM_0_27 S V hw (Nat.le_of_ble_eq_true rfl) fl_X9_68 dX9_copy_93 ?_
      refine lv_iload_n hx hb dX9_copy_96 rfl (lv_at hl 1 rfl) ?_
      refine aM_13 S V hw (Nat.le_of_ble_eq_true rfl) h.1 (z := (σ 13 0 x1.toNatClampNeg)) ((su_nc rfl).trans ((su_nc rfl).trans ((su_nc rfl).trans (su_nc rfl)))) dX9_copy_97 ?_
      have h := h.2
      refine sM_13 S V hw (Nat.le_of_ble_eq_true rfl) h.1 dX9_copy_98 (fun H locs hw => ?_)
      have h := h.2
      exact ret_v S hr hlocks hw h dX9_copy_99
    · have h := h.2 hc
      refine lv_aload_n hx hb dX9_copy_9 rfl (lv_at hl 0 rfl) ?_
      refine gM_0_22 S V hw (Nat.le_of_ble_eq_true rfl) fl_X9_53 dX9_copy_10 ?_
      refine lv_sipush (v := 402) hx hb dX9_copy_13 (by decide) ?_
      refine lv_iload_n hx hb dX9_copy_16 rfl (lv_at hl 2 rfl) ?_
      refine lv_imul hx hb dX9_copy_17 ?_
      refine lv_iload_n hx hb dX9_copy_18 rfl (lv_at hl 3 rfl) ?_
      refine lv_iadd hx hb dX9_copy_19 ?_
      refine lv_aload_n hx hb dX9_copy_20 rfl (lv_at hl 0 rfl) ?_
      refine gM_0_22 S V hw (Nat.le_of_ble_eq_true rfl) fl_X9_53 dX9_copy_21 ?_
      refine lv_sipush (v := 402) hx hb dX9_copy_24 (by decide) ?_
      refine lv_iload_n hx hb dX9_copy_27 rfl (lv_at hl 1 rfl) ?_
      refine lv_imul hx hb dX9_copy_28 ?_
      refine lv_iload_n hx hb dX9_copy_29 rfl (lv_at hl 3 rfl) ?_
      refine lv_iadd hx hb dX9_copy_30 ?_
      refine aM_8 S V hw (Nat.le_of_ble_eq_true rfl) h.1 (z := (σ 8 0 (((402 * x1) + x3).toNatClampNeg))) rfl dX9_copy_31 ?_
      have h := h.2
      refine sM_8 S V hw (Nat.le_of_ble_eq_true rfl) h.1 dX9_copy_32 (fun H locs hw => ?_)
      have h := h.2
      refine lv_iinc (v := (x3 + 1)) (lv' := [(3, .int (x3 + 1)), (0, .ref (ad 0 0)), (1, .int x1), (2, .int x2)]) hx hb dX9_copy_33 hl (k := 3) rfl rfl (by decide) rfl (fun ls hl => ?_)
      refine lv_goto (tgt := 2) hx hb dX9_copy_36 (by decide) ?_
      exact ih (x3 + 1) _ _ _ _ h  hw (lv_sub hl [1, 2, 3, 0] rfl)
def wp_X9_copy (x1 : Int32) (x2 : Int32) (post : St → Prop)  (σ : St) : Prop := ∃ nn, wp_X9_copy_2 x1 x2 post nn 0 σ
set_option maxHeartbeats 4000000 in
set_option maxRecDepth 100000 in
theorem wk_X9_copy_0 {p : Program} {l : Launch} {e : Env} {s : State} {m : MethodId} {below : List Frame} {meth : Method} {c : Code} {D : va_G} {q : ClassId × ClassId × ClassId × ClassId} {ad : Nat → Nat → Nat} {args : Array Value} (S : CallFix p m c cX9_copy 4 s args GW "OnChinModel") (V : EvM D q ad s) (hr : meth.sig.returnType = none) (hlocks : meth.locks = false) (x1 : Int32) (x2 : Int32) (post : St → Prop)  : ∀ (σ : St) (H : Heap) (locs : List Loc) (ls : Array Slot), wp_X9_copy x1 x2 post  σ → wo D clA LM ad s.heap H locs (EM q ad σ) → lv_has ls 4 [(0, .ref (ad 0 0)), (1, .int x1), (2, .int x2)] → W p l e { frames := 0, cells := 0, slots := 0, locals := 0 } s m args below meth c H locs 0 0 (MQ below (zQv D clA LM ad (EM q ad) post) args s 0 0 (zA LM ad)) (F0 m 0 ls []) := by
  have hx := S.1
  have hb := S.2.1
  intro  σ H locs ls h  hw hl
  refine lv_iconst (v := 0) hx hb dX9_copy_0 (by decide) ?_
  refine lv_istore_n (lv' := [(3, .int 0), (0, .ref (ad 0 0)), (1, .int x1), (2, .int x2)]) hx hb dX9_copy_1 rfl hl (by decide) rfl (fun ls hl => ?_)
  obtain ⟨n9, h⟩ := h
  exact wk_X9_copy_2 S V hr hlocks x1 x2   post  n9 0 _ _ _ _ h  hw (lv_sub hl [1, 2, 3, 0] rfl)
theorem mt_X9_copy (l : Launch) (D : va_G) (q : ClassId × ClassId × ClassId × ClassId) (ad : Nat → Nat → Nat) (x1 : Int32) (x2 : Int32) (σ : St) (post : St → Prop) (h : wp_X9_copy x1 x2 post σ) : cV l D clA LM ad (EM q ad) (EvM D q ad) yX9_copy cX9_copy 4 none { frames := 0, cells := 0, slots := 0, locals := 0 } [.ref (ad 0 0), .int x1, .int x2] σ post :=
  ent_v (by decide) (Nat.le_of_ble_eq_true rfl) (fun p e s m below meth c S V hr hlocks hw ls hl => wk_X9_copy_0 S V hr hlocks x1 x2  post   σ _ _ ls h  hw (lv_sub hl [0, 1, 2] rfl))
def wp_X9_keep (x1 : Int32) (post : Int32 → St → Prop)  (σ : St) : Prop := wp_X9_in (Int32.toInt64 x1) 0 1 (fun r1 σ1 => ((¬ r1 = 0 → ((¬ (σ1 13 0 2) = (-1) → wp_X9_copy 2 (3 + x1) (fun σ2 => post 1 σ2) σ1) ∧ ((σ1 13 0 2) = (-1) → post (-4) σ1))) ∧ (r1 = 0 → post (-2) σ1))) σ
set_option maxHeartbeats 4000000 in
set_option maxRecDepth 100000 in
theorem wk_X9_keep_0 {p : Program} {l : Launch} {e : Env} {s : State} {m : MethodId} {below : List Frame} {meth : Method} {c : Code} {D : va_G} {q : ClassId × ClassId × ClassId × ClassId} {ad : Nat → Nat → Nat} {args : Array Value} (S : CallFix p m c cX9_keep 2 s args GW "OnChinModel") (V : EvM D q ad s) (hr : meth.sig.returnType = (some .int)) (hlocks : meth.locks = false) (x1 : Int32) (post : Int32 → St → Prop)  : ∀ (σ : St) (H : Heap) (locs : List Loc) (ls : Array Slot), wp_X9_keep x1 post  σ → wo D clA LM ad s.heap H locs (EM q ad σ) → lv_has ls 2 [(0, .ref (ad 0 0)), (1, .int x1)] → W p l e { frames := 1, cells := 0, slots := 0, locals := 25 } s m args below meth c H locs 0 0 (MQ below (zQi D clA LM ad (EM q ad) post) args s 0 0 (zA LM ad)) (F0 m 0 ls []) := by
  have hx := S.1
  have hb := S.2.1
  intro  σ H locs ls h  hw hl
  have h : wp_X9_in (Int32.toInt64 x1) 0 1 (fun r1 σ1 => ((¬ r1 = 0 → ((¬ (σ1 13 0 2) = (-1) → wp_X9_copy 2 (3 + x1) (fun σ2 => post 1 σ2) σ1) ∧ ((σ1 13 0 2) = (-1) → post (-4) σ1))) ∧ (r1 = 0 → post (-2) σ1))) σ := h
  refine lv_iload_n hx hb dX9_keep_0 rfl (lv_at hl 1 rfl) ?_
  refine lv_i2l (v := (Int32.toInt64 x1)) hx hb dX9_keep_1 rfl ?_
  refine lv_lconst (v := 0) hx hb dX9_keep_2 (by decide) ?_
  refine lv_lconst (v := 1) hx hb dX9_keep_3 (by decide) ?_
  refine call_Si (As := [.long (Int32.toInt64 x1), .long 0, .long 1]) (rest := []) EvM_ok S V hw (mt_X9_in l D q ad (Int32.toInt64 x1) 0 1  σ _ h) ok_X9_in ml_X9_92 ⟨(Nat.le_of_ble_eq_true rfl), (Nat.le_of_ble_eq_true rfl)⟩ ⟨rfl, rfl⟩ rfl hl.1 rfl (Nat.le_of_ble_eq_true rfl) dX9_keep_4 (fun r1 σ1 H locs h hw => ?_)
  refine lv_if_ne (tgt := 13) hx hb dX9_keep_7 (by decide) (fun hc => ?_) (fun hc => ?_)
  · have h := h.1 hc
    refine lv_aload_n hx hb dX9_keep_13 rfl (lv_at hl 0 rfl) ?_
    refine gM_0_27 S V hw (Nat.le_of_ble_eq_true rfl) fl_X9_68 dX9_keep_14 ?_
    refine lv_iconst (v := 2) hx hb dX9_keep_17 (by decide) ?_
    refine aM_13 S V hw (Nat.le_of_ble_eq_true rfl) (vp_in_nI (n := 2) (Nat.le_of_ble_eq_true rfl) (Nat.le_of_ble_eq_true rfl)) (z := (σ1 13 0 2)) rfl dX9_keep_18 ?_
    refine lv_iconst (v := (-1)) hx hb dX9_keep_19 (by decide) ?_
    refine lv_icmp_ne (tgt := 26) hx hb dX9_keep_20 (by decide) (fun hc => ?_) (fun hc => ?_)
    · have h := h.1 hc
      refine lv_aload_n hx hb dX9_keep_26 rfl (lv_at hl 0 rfl) ?_
      refine lv_iconst (v := 2) hx hb dX9_keep_27 (by decide) ?_
      refine lv_iconst (v := 3) hx hb dX9_keep_28 (by decide) ?_
      refine lv_iload_n hx hb dX9_keep_29 rfl (lv_at hl 1 rfl) ?_
      refine lv_iadd hx hb dX9_keep_30 ?_
      refine call_Vv (As := [.int 2, .int (3 + x1)]) (rest := []) EvM_ok S V hw (mt_X9_copy l D q ad 2 (3 + x1)  σ1 _ h) ok_X9_copy ml_X9_268 (rM_0 S V hw (Nat.le_of_ble_eq_true rfl)) ⟨(Nat.le_of_ble_eq_true rfl), (Nat.le_of_ble_eq_true rfl)⟩ ⟨rfl, rfl⟩ rfl hl.1 rfl (Nat.le_of_ble_eq_true rfl) dX9_keep_31 (fun σ2 H locs h hw => ?_)
      refine lv_iconst (v := 1) hx hb dX9_keep_34 (by decide) ?_
      exact ret_i S hr hlocks hw h dX9_keep_35
    · have h := h.2 hc
      refine lv_bipush (v := (-4)) hx hb dX9_keep_23 (by decide) ?_
      exact ret_i S hr hlocks hw h dX9_keep_25
  · have h := h.2 hc
    refine lv_bipush (v := (-2)) hx hb dX9_keep_10 (by decide) ?_
    exact ret_i S hr hlocks hw h dX9_keep_12
theorem mt_X9_keep (l : Launch) (D : va_G) (q : ClassId × ClassId × ClassId × ClassId) (ad : Nat → Nat → Nat) (x1 : Int32) (σ : St) (post : Int32 → St → Prop) (h : wp_X9_keep x1 post σ) : cI l D clA LM ad (EM q ad) (EvM D q ad) yX9_keep cX9_keep 2 (some .int) { frames := 1, cells := 0, slots := 0, locals := 25 } [.ref (ad 0 0), .int x1] σ post :=
  ent_i (by decide) (Nat.le_of_ble_eq_true rfl) (fun p e s m below meth c S V hr hlocks hw ls hl => wk_X9_keep_0 S V hr hlocks x1  post   σ _ _ ls h  hw (lv_sub hl [0, 1] rfl))
def wp_X9_back (x1 : Int32) (post : Int32 → St → Prop)  (σ : St) : Prop := wp_X9_in (Int32.toInt64 x1) 0 1 (fun r1 σ1 => ((¬ r1 = 0 → (vp_in (3 + x1) 5 ∧ ((¬ (σ1 13 0 ((3 + x1).toNatClampNeg)) = (-1) → wp_X9_copy (3 + x1) 2 (fun σ2 => post (σ2 11 0 2) σ2) σ1) ∧ ((σ1 13 0 ((3 + x1).toNatClampNeg)) = (-1) → post (-4) σ1)))) ∧ (r1 = 0 → post (-2) σ1))) σ
set_option maxHeartbeats 4000000 in
set_option maxRecDepth 100000 in
theorem wk_X9_back_0 {p : Program} {l : Launch} {e : Env} {s : State} {m : MethodId} {below : List Frame} {meth : Method} {c : Code} {D : va_G} {q : ClassId × ClassId × ClassId × ClassId} {ad : Nat → Nat → Nat} {args : Array Value} (S : CallFix p m c cX9_back 2 s args GW "OnChinModel") (V : EvM D q ad s) (hr : meth.sig.returnType = (some .int)) (hlocks : meth.locks = false) (x1 : Int32) (post : Int32 → St → Prop)  : ∀ (σ : St) (H : Heap) (locs : List Loc) (ls : Array Slot), wp_X9_back x1 post  σ → wo D clA LM ad s.heap H locs (EM q ad σ) → lv_has ls 2 [(0, .ref (ad 0 0)), (1, .int x1)] → W p l e { frames := 1, cells := 0, slots := 0, locals := 25 } s m args below meth c H locs 0 0 (MQ below (zQi D clA LM ad (EM q ad) post) args s 0 0 (zA LM ad)) (F0 m 0 ls []) := by
  have hx := S.1
  have hb := S.2.1
  intro  σ H locs ls h  hw hl
  have h : wp_X9_in (Int32.toInt64 x1) 0 1 (fun r1 σ1 => ((¬ r1 = 0 → (vp_in (3 + x1) 5 ∧ ((¬ (σ1 13 0 ((3 + x1).toNatClampNeg)) = (-1) → wp_X9_copy (3 + x1) 2 (fun σ2 => post (σ2 11 0 2) σ2) σ1) ∧ ((σ1 13 0 ((3 + x1).toNatClampNeg)) = (-1) → post (-4) σ1)))) ∧ (r1 = 0 → post (-2) σ1))) σ := h
  refine lv_iload_n hx hb dX9_back_0 rfl (lv_at hl 1 rfl) ?_
  refine lv_i2l (v := (Int32.toInt64 x1)) hx hb dX9_back_1 rfl ?_
  refine lv_lconst (v := 0) hx hb dX9_back_2 (by decide) ?_
  refine lv_lconst (v := 1) hx hb dX9_back_3 (by decide) ?_
  refine call_Si (As := [.long (Int32.toInt64 x1), .long 0, .long 1]) (rest := []) EvM_ok S V hw (mt_X9_in l D q ad (Int32.toInt64 x1) 0 1  σ _ h) ok_X9_in ml_X9_92 ⟨(Nat.le_of_ble_eq_true rfl), (Nat.le_of_ble_eq_true rfl)⟩ ⟨rfl, rfl⟩ rfl hl.1 rfl (Nat.le_of_ble_eq_true rfl) dX9_back_4 (fun r1 σ1 H locs h hw => ?_)
  refine lv_if_ne (tgt := 13) hx hb dX9_back_7 (by decide) (fun hc => ?_) (fun hc => ?_)
  · have h := h.1 hc
    refine lv_aload_n hx hb dX9_back_13 rfl (lv_at hl 0 rfl) ?_
    refine gM_0_27 S V hw (Nat.le_of_ble_eq_true rfl) fl_X9_68 dX9_back_14 ?_
    refine lv_iconst (v := 3) hx hb dX9_back_17 (by decide) ?_
    refine lv_iload_n hx hb dX9_back_18 rfl (lv_at hl 1 rfl) ?_
    refine lv_iadd hx hb dX9_back_19 ?_
    refine aM_13 S V hw (Nat.le_of_ble_eq_true rfl) h.1 (z := (σ1 13 0 ((3 + x1).toNatClampNeg))) rfl dX9_back_20 ?_
    have h := h.2
    refine lv_iconst (v := (-1)) hx hb dX9_back_21 (by decide) ?_
    refine lv_icmp_ne (tgt := 28) hx hb dX9_back_22 (by decide) (fun hc => ?_) (fun hc => ?_)
    · have h := h.1 hc
      refine lv_aload_n hx hb dX9_back_28 rfl (lv_at hl 0 rfl) ?_
      refine lv_iconst (v := 3) hx hb dX9_back_29 (by decide) ?_
      refine lv_iload_n hx hb dX9_back_30 rfl (lv_at hl 1 rfl) ?_
      refine lv_iadd hx hb dX9_back_31 ?_
      refine lv_iconst (v := 2) hx hb dX9_back_32 (by decide) ?_
      refine call_Vv (As := [.int (3 + x1), .int 2]) (rest := []) EvM_ok S V hw (mt_X9_copy l D q ad (3 + x1) 2  σ1 _ h) ok_X9_copy ml_X9_268 (rM_0 S V hw (Nat.le_of_ble_eq_true rfl)) ⟨(Nat.le_of_ble_eq_true rfl), (Nat.le_of_ble_eq_true rfl)⟩ ⟨rfl, rfl⟩ rfl hl.1 rfl (Nat.le_of_ble_eq_true rfl) dX9_back_33 (fun σ2 H locs h hw => ?_)
      refine lv_aload_n hx hb dX9_back_36 rfl (lv_at hl 0 rfl) ?_
      refine gM_0_25 S V hw (Nat.le_of_ble_eq_true rfl) fl_X9_62 dX9_back_37 ?_
      refine lv_iconst (v := 2) hx hb dX9_back_40 (by decide) ?_
      refine aM_11 S V hw (Nat.le_of_ble_eq_true rfl) (vp_in_nI (n := 2) (Nat.le_of_ble_eq_true rfl) (Nat.le_of_ble_eq_true rfl)) (z := (σ2 11 0 2)) rfl dX9_back_41 ?_
      exact ret_i S hr hlocks hw h dX9_back_42
    · have h := h.2 hc
      refine lv_bipush (v := (-4)) hx hb dX9_back_25 (by decide) ?_
      exact ret_i S hr hlocks hw h dX9_back_27
  · have h := h.2 hc
    refine lv_bipush (v := (-2)) hx hb dX9_back_10 (by decide) ?_
    exact ret_i S hr hlocks hw h dX9_back_12
theorem mt_X9_back (l : Launch) (D : va_G) (q : ClassId × ClassId × ClassId × ClassId) (ad : Nat → Nat → Nat) (x1 : Int32) (σ : St) (post : Int32 → St → Prop) (h : wp_X9_back x1 post σ) : cI l D clA LM ad (EM q ad) (EvM D q ad) yX9_back cX9_back 2 (some .int) { frames := 1, cells := 0, slots := 0, locals := 25 } [.ref (ad 0 0), .int x1] σ post :=
  ent_i (by decide) (Nat.le_of_ble_eq_true rfl) (fun p e s m below meth c S V hr hlocks hw ls hl => wk_X9_back_0 S V hr hlocks x1  post   σ _ _ ls h  hw (lv_sub hl [0, 1] rfl))
def wp_X9_lasts_40 (x1 : Int32) (x2 : Int32) (x3 : Int32) (post : Int32 → St → Prop)  (σ : St) : Prop := post (σ 11 0 0) σ
set_option maxHeartbeats 4000000 in
set_option maxRecDepth 100000 in
theorem wk_X9_lasts_40 {p : Program} {l : Launch} {e : Env} {s : State} {m : MethodId} {below : List Frame} {meth : Method} {c : Code} {D : va_G} {q : ClassId × ClassId × ClassId × ClassId} {ad : Nat → Nat → Nat} {args : Array Value} (S : CallFix p m c cX9_lasts 4 s args GW "OnChinModel") (V : EvM D q ad s) (hr : meth.sig.returnType = (some .int)) (hlocks : meth.locks = false) (x1 : Int32) (x2 : Int32) (x3 : Int32) (post : Int32 → St → Prop)  : ∀ (σ : St) (H : Heap) (locs : List Loc) (ls : Array Slot), wp_X9_lasts_40 x1 x2 x3 post  σ → wo D clA LM ad s.heap H locs (EM q ad σ) → lv_has ls 4 [(0, .ref (ad 0 0)), (1, .int x1), (2, .int x2), (3, .int x3)] → W p l e { frames := 3, cells := 0, slots := 0, locals := 78 } s m args below meth c H locs 0 0 (MQ below (zQi D clA LM ad (EM q ad) post) args s 0 0 (zA LM ad)) (F0 m 40 ls []) := by
  have hx := S.1
  have hb := S.2.1
  intro  σ H locs ls h  hw hl
  refine lv_aload_n hx hb dX9_lasts_40 rfl (lv_at hl 0 rfl) ?_
  refine gM_0_25 S V hw (Nat.le_of_ble_eq_true rfl) fl_X9_62 dX9_lasts_41 ?_
  refine lv_iconst (v := 0) hx hb dX9_lasts_44 (by decide) ?_
  refine aM_11 S V hw (Nat.le_of_ble_eq_true rfl) (vp_in_nI (n := 0) (Nat.le_of_ble_eq_true rfl) (Nat.le_of_ble_eq_true rfl)) (z := (σ 11 0 0)) rfl dX9_lasts_45 ?_
  exact ret_i S hr hlocks hw h dX9_lasts_46
def wp_X9_lasts_7 (x1 : Int32) (x2 : Int32) (x3 : Int32) (post : Int32 → St → Prop) : Nat → St → Prop
  | 0 => fun  _ => False
  | n + 1 => fun  σ => ((400 ≤ (σ 11 0 0) → wp_X9_lasts_40 x1 x2 x3 post  σ) ∧ (¬ 400 ≤ (σ 11 0 0) → wp_X9_fell 0 (fun r1 σ1 => ((¬ r1 = 0 → wp_X9_lasts_40 x1 x2 x3 post  σ1) ∧ (r1 = 0 → wp_X9_tick 0 x3 (σ1 0 0 16) (fun σ2 => wp_X9_lasts_7 x1 x2 x3 post n  σ2) σ1))) σ))
set_option maxHeartbeats 4000000 in
set_option maxRecDepth 100000 in
theorem wk_X9_lasts_7 {p : Program} {l : Launch} {e : Env} {s : State} {m : MethodId} {below : List Frame} {meth : Method} {c : Code} {D : va_G} {q : ClassId × ClassId × ClassId × ClassId} {ad : Nat → Nat → Nat} {args : Array Value} (S : CallFix p m c cX9_lasts 4 s args GW "OnChinModel") (V : EvM D q ad s) (hr : meth.sig.returnType = (some .int)) (hlocks : meth.locks = false) (x1 : Int32) (x2 : Int32) (x3 : Int32) (post : Int32 → St → Prop)  : ∀ (n : Nat) (σ : St) (H : Heap) (locs : List Loc) (ls : Array Slot), wp_X9_lasts_7 x1 x2 x3 post n  σ → wo D clA LM ad s.heap H locs (EM q ad σ) → lv_has ls 4 [(0, .ref (ad 0 0)), (1, .int x1), (2, .int x2), (3, .int x3)] → W p l e { frames := 3, cells := 0, slots := 0, locals := 78 } s m args below meth c H locs 0 0 (MQ below (zQi D clA LM ad (EM q ad) post) args s 0 0 (zA LM ad)) (F0 m 7 ls []) := by
  have hx := S.1
  have hb := S.2.1
  intro n
  induction n with
  | zero => intro  σ H locs ls h; exact False.elim h
  | succ n ih =>
    intro  σ H locs ls h  hw hl
    refine lv_aload_n hx hb dX9_lasts_7 rfl (lv_at hl 0 rfl) ?_
    refine gM_0_25 S V hw (Nat.le_of_ble_eq_true rfl) fl_X9_62 dX9_lasts_8 ?_
    refine lv_iconst (v := 0) hx hb dX9_lasts_11 (by decide) ?_
    refine aM_11 S V hw (Nat.le_of_ble_eq_true rfl) (vp_in_nI (n := 0) (Nat.le_of_ble_eq_true rfl) (Nat.le_of_ble_eq_true rfl)) (z := (σ 11 0 0)) rfl dX9_lasts_12 ?_
    refine lv_sipush (v := 400) hx hb dX9_lasts_13 (by decide) ?_
    refine lv_icmp_ge (tgt := 40) hx hb dX9_lasts_16 (by decide) (fun hc => ?_) (fun hc => ?_)
    · have h := h.1 hc
      exact wk_X9_lasts_40 S V hr hlocks x1 x2 x3   post   _ _ _ _ h  hw (lv_sub hl [0, 1, 2, 3] rfl)
    · have h := h.2 hc
      refine lv_aload_n hx hb dX9_lasts_19 rfl (lv_at hl 0 rfl) ?_
      refine lv_iconst (v := 0) hx hb dX9_lasts_20 (by decide) ?_
      refine call_Vi (As := [.int 0]) (rest := []) EvM_ok S V hw (mt_X9_fell l D q ad 0  σ _ h) ok_X9_fell ml_X9_255 (rM_0 S V hw (Nat.le_of_ble_eq_true rfl)) ⟨(Nat.le_of_ble_eq_true rfl), (Nat.le_of_ble_eq_true rfl)⟩ ⟨rfl, rfl⟩ rfl hl.1 rfl (Nat.le_of_ble_eq_true rfl) dX9_lasts_21 (fun r1 σ1 H locs h hw => ?_)
      refine lv_if_ne (tgt := 40) hx hb dX9_lasts_24 (by decide) (fun hc => ?_) (fun hc => ?_)
      · have h := h.1 hc
        exact wk_X9_lasts_40 S V hr hlocks x1 x2 x3   post   _ _ _ _ h  hw (lv_sub hl [0, 1, 2, 3] rfl)
      · have h := h.2 hc
        refine lv_aload_n hx hb dX9_lasts_27 rfl (lv_at hl 0 rfl) ?_
        refine lv_iconst (v := 0) hx hb dX9_lasts_28 (by decide) ?_
        refine lv_iload_n hx hb dX9_lasts_29 rfl (lv_at hl 3 rfl) ?_
        refine lv_aload_n hx hb dX9_lasts_30 rfl (lv_at hl 0 rfl) ?_
        refine gM_0_16 S V hw (Nat.le_of_ble_eq_true rfl) fl_X9_177 rfl dX9_lasts_31 ?_
        refine call_Vv (As := [.int 0, .int x3, .int (σ1 0 0 16)]) (rest := []) EvM_ok S V hw (mt_X9_tick l D q ad 0 x3 (σ1 0 0 16)  σ1 _ h) ok_X9_tick ml_X9_261 (rM_0 S V hw (Nat.le_of_ble_eq_true rfl)) ⟨(Nat.le_of_ble_eq_true rfl), (Nat.le_of_ble_eq_true rfl)⟩ ⟨rfl, rfl⟩ rfl hl.1 rfl (Nat.le_of_ble_eq_true rfl) dX9_lasts_34 (fun σ2 H locs h hw => ?_)
        refine lv_goto (tgt := 7) hx hb dX9_lasts_37 (by decide) ?_
        exact ih  _ _ _ _ h  hw (lv_sub hl [0, 1, 2, 3] rfl)
def wp_X9_lasts (x1 : Int32) (x2 : Int32) (x3 : Int32) (post : Int32 → St → Prop)  (σ : St) : Prop := wp_X9_start 0 x1 x2 (fun σ1 => ∃ nn, wp_X9_lasts_7 x1 x2 x3 post nn  σ1) σ
set_option maxHeartbeats 4000000 in
set_option maxRecDepth 100000 in
theorem wk_X9_lasts_0 {p : Program} {l : Launch} {e : Env} {s : State} {m : MethodId} {below : List Frame} {meth : Method} {c : Code} {D : va_G} {q : ClassId × ClassId × ClassId × ClassId} {ad : Nat → Nat → Nat} {args : Array Value} (S : CallFix p m c cX9_lasts 4 s args GW "OnChinModel") (V : EvM D q ad s) (hr : meth.sig.returnType = (some .int)) (hlocks : meth.locks = false) (x1 : Int32) (x2 : Int32) (x3 : Int32) (post : Int32 → St → Prop)  : ∀ (σ : St) (H : Heap) (locs : List Loc) (ls : Array Slot), wp_X9_lasts x1 x2 x3 post  σ → wo D clA LM ad s.heap H locs (EM q ad σ) → lv_has ls 4 [(0, .ref (ad 0 0)), (1, .int x1), (2, .int x2), (3, .int x3)] → W p l e { frames := 3, cells := 0, slots := 0, locals := 78 } s m args below meth c H locs 0 0 (MQ below (zQi D clA LM ad (EM q ad) post) args s 0 0 (zA LM ad)) (F0 m 0 ls []) := by
  have hx := S.1
  have hb := S.2.1
  intro  σ H locs ls h  hw hl
  have h : wp_X9_start 0 x1 x2 (fun σ1 => ∃ nn, wp_X9_lasts_7 x1 x2 x3 post nn  σ1) σ := h
  refine lv_aload_n hx hb dX9_lasts_0 rfl (lv_at hl 0 rfl) ?_
  refine lv_iconst (v := 0) hx hb dX9_lasts_1 (by decide) ?_
  refine lv_iload_n hx hb dX9_lasts_2 rfl (lv_at hl 1 rfl) ?_
  refine lv_iload_n hx hb dX9_lasts_3 rfl (lv_at hl 2 rfl) ?_
  refine call_Vv (As := [.int 0, .int x1, .int x2]) (rest := []) EvM_ok S V hw (mt_X9_start l D q ad 0 x1 x2  σ _ h) ok_X9_start ml_X9_249 (rM_0 S V hw (Nat.le_of_ble_eq_true rfl)) ⟨(Nat.le_of_ble_eq_true rfl), (Nat.le_of_ble_eq_true rfl)⟩ ⟨rfl, rfl⟩ rfl hl.1 rfl (Nat.le_of_ble_eq_true rfl) dX9_lasts_4 (fun σ1 H locs h hw => ?_)
  obtain ⟨n9, h⟩ := h
  exact wk_X9_lasts_7 S V hr hlocks x1 x2 x3   post  n9  _ _ _ _ h  hw (lv_sub hl [0, 1, 2, 3] rfl)
theorem mt_X9_lasts (l : Launch) (D : va_G) (q : ClassId × ClassId × ClassId × ClassId) (ad : Nat → Nat → Nat) (x1 : Int32) (x2 : Int32) (x3 : Int32) (σ : St) (post : Int32 → St → Prop) (h : wp_X9_lasts x1 x2 x3 post σ) : cI l D clA LM ad (EM q ad) (EvM D q ad) yX9_lasts cX9_lasts 4 (some .int) { frames := 3, cells := 0, slots := 0, locals := 78 } [.ref (ad 0 0), .int x1, .int x2, .int x3] σ post :=
  ent_i (by decide) (Nat.le_of_ble_eq_true rfl) (fun p e s m below meth c S V hr hlocks hw ls hl => wk_X9_lasts_0 S V hr hlocks x1 x2 x3  post   σ _ _ ls h  hw (lv_sub hl [0, 1, 2, 3] rfl))
def wp_X9_kept_24 (x1 : Int32) (x2 : Int32) (x3 : Int32) (post : Int32 → St → Prop)  (σ : St) : Prop := post (-3) σ
set_option maxHeartbeats 4000000 in
set_option maxRecDepth 100000 in
theorem wk_X9_kept_24 {p : Program} {l : Launch} {e : Env} {s : State} {m : MethodId} {below : List Frame} {meth : Method} {c : Code} {D : va_G} {q : ClassId × ClassId × ClassId × ClassId} {ad : Nat → Nat → Nat} {args : Array Value} (S : CallFix p m c cX9_kept 4 s args GW "OnChinModel") (V : EvM D q ad s) (hr : meth.sig.returnType = (some .int)) (hlocks : meth.locks = false) (x1 : Int32) (x2 : Int32) (x3 : Int32) (post : Int32 → St → Prop)  : ∀ (σ : St) (H : Heap) (locs : List Loc) (ls : Array Slot), wp_X9_kept_24 x1 x2 x3 post  σ → wo D clA LM ad s.heap H locs (EM q ad σ) → lv_has ls 4 [(0, .ref (ad 0 0)), (1, .int x1), (2, .int x2), (3, .int x3)] → W p l e { frames := 4, cells := 0, slots := 0, locals := 101 } s m args below meth c H locs 0 0 (MQ below (zQi D clA LM ad (EM q ad) post) args s 0 0 (zA LM ad)) (F0 m 24 ls []) := by
  have hx := S.1
  have hb := S.2.1
  intro  σ H locs ls h  hw hl
  refine lv_bipush (v := (-3)) hx hb dX9_kept_24 (by decide) ?_
  exact ret_i S hr hlocks hw h dX9_kept_26
def wp_X9_kept (x1 : Int32) (x2 : Int32) (x3 : Int32) (post : Int32 → St → Prop)  (σ : St) : Prop := wp_X9_isThing x1 (fun r1 σ1 => ((¬ r1 = 0 → wp_X9_isX x2 (fun r2 σ2 => ((r2 = 0 → wp_X9_kept_24 x1 x2 x3 post  σ2) ∧ (¬ r2 = 0 → wp_X9_isV x3 (fun r3 σ3 => ((¬ r3 = 0 → (vp_in x1 4 ∧ ((¬ (σ3 5 0 x1.toNatClampNeg) = 0 → wp_X9_asTold x1 (fun σ4 => wp_X9_lasts x2 x3 1 (fun r5 σ5 => post r5 σ5) σ4) σ3) ∧ ((σ3 5 0 x1.toNatClampNeg) = 0 → post (-4) σ3)))) ∧ (r3 = 0 → wp_X9_kept_24 x1 x2 x3 post  σ3))) σ2))) σ1) ∧ (r1 = 0 → post (-2) σ1))) σ
set_option maxHeartbeats 4000000 in
set_option maxRecDepth 100000 in
theorem wk_X9_kept_0 {p : Program} {l : Launch} {e : Env} {s : State} {m : MethodId} {below : List Frame} {meth : Method} {c : Code} {D : va_G} {q : ClassId × ClassId × ClassId × ClassId} {ad : Nat → Nat → Nat} {args : Array Value} (S : CallFix p m c cX9_kept 4 s args GW "OnChinModel") (V : EvM D q ad s) (hr : meth.sig.returnType = (some .int)) (hlocks : meth.locks = false) (x1 : Int32) (x2 : Int32) (x3 : Int32) (post : Int32 → St → Prop)  : ∀ (σ : St) (H : Heap) (locs : List Loc) (ls : Array Slot), wp_X9_kept x1 x2 x3 post  σ → wo D clA LM ad s.heap H locs (EM q ad σ) → lv_has ls 4 [(0, .ref (ad 0 0)), (1, .int x1), (2, .int x2), (3, .int x3)] → W p l e { frames := 4, cells := 0, slots := 0, locals := 101 } s m args below meth c H locs 0 0 (MQ below (zQi D clA LM ad (EM q ad) post) args s 0 0 (zA LM ad)) (F0 m 0 ls []) := by
  have hx := S.1
  have hb := S.2.1
  intro  σ H locs ls h  hw hl
  have h : wp_X9_isThing x1 (fun r1 σ1 => ((¬ r1 = 0 → wp_X9_isX x2 (fun r2 σ2 => ((r2 = 0 → wp_X9_kept_24 x1 x2 x3 post  σ2) ∧ (¬ r2 = 0 → wp_X9_isV x3 (fun r3 σ3 => ((¬ r3 = 0 → (vp_in x1 4 ∧ ((¬ (σ3 5 0 x1.toNatClampNeg) = 0 → wp_X9_asTold x1 (fun σ4 => wp_X9_lasts x2 x3 1 (fun r5 σ5 => post r5 σ5) σ4) σ3) ∧ ((σ3 5 0 x1.toNatClampNeg) = 0 → post (-4) σ3)))) ∧ (r3 = 0 → wp_X9_kept_24 x1 x2 x3 post  σ3))) σ2))) σ1) ∧ (r1 = 0 → post (-2) σ1))) σ := h
  refine lv_iload_n hx hb dX9_kept_0 rfl (lv_at hl 1 rfl) ?_
  refine call_Si (As := [.int x1]) (rest := []) EvM_ok S V hw (mt_X9_isThing l D q ad x1  σ _ h) ok_X9_isThing ml_X9_192 ⟨(Nat.le_of_ble_eq_true rfl), (Nat.le_of_ble_eq_true rfl)⟩ ⟨rfl, rfl⟩ rfl hl.1 rfl (Nat.le_of_ble_eq_true rfl) dX9_kept_1 (fun r1 σ1 H locs h hw => ?_)
  refine lv_if_ne (tgt := 10) hx hb dX9_kept_4 (by decide) (fun hc => ?_) (fun hc => ?_)
  · have h := h.1 hc
    refine lv_iload_n hx hb dX9_kept_10 rfl (lv_at hl 2 rfl) ?_
    refine call_Si (As := [.int x2]) (rest := []) EvM_ok S V hw (mt_X9_isX l D q ad x2  σ1 _ h) ok_X9_isX ml_X9_243 ⟨(Nat.le_of_ble_eq_true rfl), (Nat.le_of_ble_eq_true rfl)⟩ ⟨rfl, rfl⟩ rfl hl.1 rfl (Nat.le_of_ble_eq_true rfl) dX9_kept_11 (fun r2 σ2 H locs h hw => ?_)
    refine lv_if_eq (tgt := 24) hx hb dX9_kept_14 (by decide) (fun hc => ?_) (fun hc => ?_)
    · have h := h.1 hc
      exact wk_X9_kept_24 S V hr hlocks x1 x2 x3   post   _ _ _ _ h  hw (lv_sub hl [0, 1, 2, 3] rfl)
    · have h := h.2 hc
      refine lv_iload_n hx hb dX9_kept_17 rfl (lv_at hl 3 rfl) ?_
      refine call_Si (As := [.int x3]) (rest := []) EvM_ok S V hw (mt_X9_isV l D q ad x3  σ2 _ h) ok_X9_isV ml_X9_246 ⟨(Nat.le_of_ble_eq_true rfl), (Nat.le_of_ble_eq_true rfl)⟩ ⟨rfl, rfl⟩ rfl hl.1 rfl (Nat.le_of_ble_eq_true rfl) dX9_kept_18 (fun r3 σ3 H locs h hw => ?_)
      refine lv_if_ne (tgt := 27) hx hb dX9_kept_21 (by decide) (fun hc => ?_) (fun hc => ?_)
      · have h := h.1 hc
        refine lv_aload_n hx hb dX9_kept_27 rfl (lv_at hl 0 rfl) ?_
        refine gM_0_6 S V hw (Nat.le_of_ble_eq_true rfl) fl_X9_22 dX9_kept_28 ?_
        refine lv_iload_n hx hb dX9_kept_31 rfl (lv_at hl 1 rfl) ?_
        refine aM_5 S V hw (Nat.le_of_ble_eq_true rfl) h.1 (z := (σ3 5 0 x1.toNatClampNeg)) rfl dX9_kept_32 ?_
        have h := h.2
        refine lv_if_ne (tgt := 39) hx hb dX9_kept_33 (by decide) (fun hc => ?_) (fun hc => ?_)
        · have h := h.1 hc
          refine lv_aload_n hx hb dX9_kept_39 rfl (lv_at hl 0 rfl) ?_
          refine lv_iload_n hx hb dX9_kept_40 rfl (lv_at hl 1 rfl) ?_
          refine call_Vv (As := [.int x1]) (rest := []) EvM_ok S V hw (mt_X9_asTold l D q ad x1  σ3 _ h) ok_X9_asTold ml_X9_258 (rM_0 S V hw (Nat.le_of_ble_eq_true rfl)) ⟨(Nat.le_of_ble_eq_true rfl), (Nat.le_of_ble_eq_true rfl)⟩ ⟨rfl, rfl⟩ rfl hl.1 rfl (Nat.le_of_ble_eq_true rfl) dX9_kept_41 (fun σ4 H locs h hw => ?_)
          refine lv_aload_n hx hb dX9_kept_44 rfl (lv_at hl 0 rfl) ?_
          refine lv_iload_n hx hb dX9_kept_45 rfl (lv_at hl 2 rfl) ?_
          refine lv_iload_n hx hb dX9_kept_46 rfl (lv_at hl 3 rfl) ?_
          refine lv_iconst (v := 1) hx hb dX9_kept_47 (by decide) ?_
          refine call_Vi (As := [.int x2, .int x3, .int 1]) (rest := []) EvM_ok S V hw (mt_X9_lasts l D q ad x2 x3 1  σ4 _ h) ok_X9_lasts ml_X9_272 (rM_0 S V hw (Nat.le_of_ble_eq_true rfl)) ⟨(Nat.le_of_ble_eq_true rfl), (Nat.le_of_ble_eq_true rfl)⟩ ⟨rfl, rfl⟩ rfl hl.1 rfl (Nat.le_of_ble_eq_true rfl) dX9_kept_48 (fun r5 σ5 H locs h hw => ?_)
          exact ret_i S hr hlocks hw h dX9_kept_51
        · have h := h.2 hc
          refine lv_bipush (v := (-4)) hx hb dX9_kept_36 (by decide) ?_
          exact ret_i S hr hlocks hw h dX9_kept_38
      · have h := h.2 hc
        exact wk_X9_kept_24 S V hr hlocks x1 x2 x3   post   _ _ _ _ h  hw (lv_sub hl [0, 1, 2, 3] rfl)
  · have h := h.2 hc
    refine lv_bipush (v := (-2)) hx hb dX9_kept_7 (by decide) ?_
    exact ret_i S hr hlocks hw h dX9_kept_9
theorem mt_X9_kept (l : Launch) (D : va_G) (q : ClassId × ClassId × ClassId × ClassId) (ad : Nat → Nat → Nat) (x1 : Int32) (x2 : Int32) (x3 : Int32) (σ : St) (post : Int32 → St → Prop) (h : wp_X9_kept x1 x2 x3 post σ) : cI l D clA LM ad (EM q ad) (EvM D q ad) yX9_kept cX9_kept 4 (some .int) { frames := 4, cells := 0, slots := 0, locals := 101 } [.ref (ad 0 0), .int x1, .int x2, .int x3] σ post :=
  ent_i (by decide) (Nat.le_of_ble_eq_true rfl) (fun p e s m below meth c S V hr hlocks hw ls hl => wk_X9_kept_0 S V hr hlocks x1 x2 x3  post   σ _ _ ls h  hw (lv_sub hl [0, 1, 2, 3] rfl))
def wp_X9_least_44 (x1 : Int32) (post : Int32 → St → Prop) (x2 : Int32) (σ : St) : Prop := post x2 σ
set_option maxHeartbeats 4000000 in
set_option maxRecDepth 100000 in
theorem wk_X9_least_44 {p : Program} {l : Launch} {e : Env} {s : State} {m : MethodId} {below : List Frame} {meth : Method} {c : Code} {D : va_G} {q : ClassId × ClassId × ClassId × ClassId} {ad : Nat → Nat → Nat} {args : Array Value} (S : CallFix p m c cX9_least 5 s args GW "OnChinModel") (V : EvM D q ad s) (hr : meth.sig.returnType = (some .int)) (hlocks : meth.locks = false) (x1 : Int32) (post : Int32 → St → Prop)  : ∀ (x2 : Int32) (σ : St) (H : Heap) (locs : List Loc) (ls : Array Slot), wp_X9_least_44 x1 post x2 σ → wo D clA LM ad s.heap H locs (EM q ad σ) → lv_has ls 5 [(0, .ref (ad 0 0)), (1, .int x1), (2, .int x2)] → W p l e { frames := 4, cells := 0, slots := 0, locals := 101 } s m args below meth c H locs 0 0 (MQ below (zQi D clA LM ad (EM q ad) post) args s 0 0 (zA LM ad)) (F0 m 44 ls []) := by
  have hx := S.1
  have hb := S.2.1
  intro x2 σ H locs ls h  hw hl
  refine lv_iload_n hx hb dX9_least_44 rfl (lv_at hl 2 rfl) ?_
  exact ret_i S hr hlocks hw h dX9_least_45
def wp_X9_least_37 (x1 : Int32) (K7 : Int32 → Int32 → St → Prop) (post : Int32 → St → Prop) (x3 : Int32) (xs0 : Int32) (σ : St) : Prop := K7 xs0 (x3 + 1) σ
set_option maxHeartbeats 4000000 in
set_option maxRecDepth 100000 in
theorem wk_X9_least_37 {p : Program} {l : Launch} {e : Env} {s : State} {m : MethodId} {below : List Frame} {meth : Method} {c : Code} {D : va_G} {q : ClassId × ClassId × ClassId × ClassId} {ad : Nat → Nat → Nat} {args : Array Value} (S : CallFix p m c cX9_least 5 s args GW "OnChinModel") (V : EvM D q ad s) (hr : meth.sig.returnType = (some .int)) (hlocks : meth.locks = false) (x1 : Int32) (K7 : Int32 → Int32 → St → Prop) (post : Int32 → St → Prop) (hK7 : ∀ (x2 : Int32) (x3 : Int32) (σ : St) (H : Heap) (locs : List Loc) (ls : Array Slot), K7 x2 x3 σ → wo D clA LM ad s.heap H locs (EM q ad σ) → lv_has ls 5 [(0, .ref (ad 0 0)), (1, .int x1), (2, .int x2), (3, .int x3)] → W p l e { frames := 4, cells := 0, slots := 0, locals := 101 } s m args below meth c H locs 0 0 (MQ below (zQi D clA LM ad (EM q ad) post) args s 0 0 (zA LM ad)) (F0 m 7 ls [])) : ∀ (x3 : Int32) (xs0 : Int32) (σ : St) (H : Heap) (locs : List Loc) (ls : Array Slot), wp_X9_least_37 x1 K7 post x3 xs0 σ → wo D clA LM ad s.heap H locs (EM q ad σ) → lv_has ls 5 [(0, .ref (ad 0 0)), (1, .int x1), (3, .int x3)] → W p l e { frames := 4, cells := 0, slots := 0, locals := 101 } s m args below meth c H locs 0 0 (MQ below (zQi D clA LM ad (EM q ad) post) args s 0 0 (zA LM ad)) (F0 m 37 ls [.int xs0]) := by
  have hx := S.1
  have hb := S.2.1
  intro x3 xs0 σ H locs ls h  hw hl
  refine lv_istore_n (lv' := [(2, .int xs0), (0, .ref (ad 0 0)), (1, .int x1), (3, .int x3)]) hx hb dX9_least_37 rfl hl (by decide) rfl (fun ls hl => ?_)
  refine lv_iinc (v := (x3 + 1)) (lv' := [(3, .int (x3 + 1)), (2, .int xs0), (0, .ref (ad 0 0)), (1, .int x1)]) hx hb dX9_least_38 hl (k := 3) rfl rfl (by decide) rfl (fun ls hl => ?_)
  refine lv_goto (tgt := 7) hx hb dX9_least_41 (by decide) ?_
  exact hK7 xs0 (x3 + 1) _ _ _ _ h  hw (lv_sub hl [2, 3, 1, 0] rfl)
def wp_X9_least_7 (x1 : Int32) (post : Int32 → St → Prop) : Nat → Int32 → Int32 → St → Prop
  | 0 => fun _ _ _ => False
  | n + 1 => fun x2 x3 σ => ((x1 < x3 → wp_X9_least_44 x1 post x2 σ) ∧ (¬ x1 < x3 → ((x2 ≤ 0 → wp_X9_least_44 x1 post x2 σ) ∧ (¬ x2 ≤ 0 → wp_X9_lasts x3 0 1 (fun r1 σ1 => ((x2 ≤ r1 → wp_X9_least_37 x1 (fun y0 y1 τ => wp_X9_least_7 x1 post n y0 y1 τ) post x3 x2 σ1) ∧ (¬ x2 ≤ r1 → wp_X9_least_37 x1 (fun y0 y1 τ => wp_X9_least_7 x1 post n y0 y1 τ) post x3 r1 σ1))) σ))))
set_option maxHeartbeats 4000000 in
set_option maxRecDepth 100000 in
theorem wk_X9_least_7 {p : Program} {l : Launch} {e : Env} {s : State} {m : MethodId} {below : List Frame} {meth : Method} {c : Code} {D : va_G} {q : ClassId × ClassId × ClassId × ClassId} {ad : Nat → Nat → Nat} {args : Array Value} (S : CallFix p m c cX9_least 5 s args GW "OnChinModel") (V : EvM D q ad s) (hr : meth.sig.returnType = (some .int)) (hlocks : meth.locks = false) (x1 : Int32) (post : Int32 → St → Prop)  : ∀ (n : Nat) (x2 : Int32) (x3 : Int32) (σ : St) (H : Heap) (locs : List Loc) (ls : Array Slot), wp_X9_least_7 x1 post n x2 x3 σ → wo D clA LM ad s.heap H locs (EM q ad σ) → lv_has ls 5 [(0, .ref (ad 0 0)), (1, .int x1), (2, .int x2), (3, .int x3)] → W p l e { frames := 4, cells := 0, slots := 0, locals := 101 } s m args below meth c H locs 0 0 (MQ below (zQi D clA LM ad (EM q ad) post) args s 0 0 (zA LM ad)) (F0 m 7 ls []) := by
  have hx := S.1
  have hb := S.2.1
  intro n
  induction n with
  | zero => intro x2 x3 σ H locs ls h; exact False.elim h
  | succ n ih =>
    intro x2 x3 σ H locs ls h  hw hl
    refine lv_iload_n hx hb dX9_least_7 rfl (lv_at hl 3 rfl) ?_
    refine lv_iload_n hx hb dX9_least_8 rfl (lv_at hl 1 rfl) ?_
    refine lv_icmp_gt (tgt := 44) hx hb dX9_least_9 (by decide) (fun hc => ?_) (fun hc => ?_)
    · have h := h.1 hc
      exact wk_X9_least_44 S V hr hlocks x1   post  x2 _ _ _ _ h  hw (lv_sub hl [0, 1, 2] rfl)
    · have h := h.2 hc
      refine lv_iload_n hx hb dX9_least_12 rfl (lv_at hl 2 rfl) ?_
      refine lv_if_le (tgt := 44) hx hb dX9_least_13 (by decide) (fun hc => ?_) (fun hc => ?_)
      · have h := h.1 hc
        exact wk_X9_least_44 S V hr hlocks x1   post  x2 _ _ _ _ h  hw (lv_sub hl [0, 1, 2] rfl)
      · have h := h.2 hc
        refine lv_aload_n hx hb dX9_least_16 rfl (lv_at hl 0 rfl) ?_
        refine lv_iload_n hx hb dX9_least_17 rfl (lv_at hl 3 rfl) ?_
        refine lv_iconst (v := 0) hx hb dX9_least_18 (by decide) ?_
        refine lv_iconst (v := 1) hx hb dX9_least_19 (by decide) ?_
        refine call_Vi (As := [.int x3, .int 0, .int 1]) (rest := []) EvM_ok S V hw (mt_X9_lasts l D q ad x3 0 1  σ _ h) ok_X9_lasts ml_X9_272 (rM_0 S V hw (Nat.le_of_ble_eq_true rfl)) ⟨(Nat.le_of_ble_eq_true rfl), (Nat.le_of_ble_eq_true rfl)⟩ ⟨rfl, rfl⟩ rfl hl.1 rfl (Nat.le_of_ble_eq_true rfl) dX9_least_20 (fun r1 σ1 H locs h hw => ?_)
        refine lv_istore (lv' := [(4, .int r1), (0, .ref (ad 0 0)), (1, .int x1), (2, .int x2), (3, .int x3)]) hx hb dX9_least_23 hl (by decide) rfl (fun ls hl => ?_)
        refine lv_iload hx hb dX9_least_25 (lv_at hl 0 rfl) ?_
        refine lv_iload_n hx hb dX9_least_27 rfl (lv_at hl 3 rfl) ?_
        refine lv_icmp_ge (tgt := 36) hx hb dX9_least_28 (by decide) (fun hc => ?_) (fun hc => ?_)
        · have h := h.1 hc
          refine lv_iload_n hx hb dX9_least_36 rfl (lv_at hl 3 rfl) ?_
          exact wk_X9_least_37 S V hr hlocks x1  (fun y0 y1 τ => wp_X9_least_7 x1 post n y0 y1 τ) post ih x3 x2 _ _ _ _ h  hw (lv_sub hl [1, 2, 4] rfl)
        · have h := h.2 hc
          refine lv_iload hx hb dX9_least_31 (lv_at hl 0 rfl) ?_
          refine lv_goto (tgt := 37) hx hb dX9_least_33 (by decide) ?_
          exact wk_X9_least_37 S V hr hlocks x1  (fun y0 y1 τ => wp_X9_least_7 x1 post n y0 y1 τ) post ih x3 r1 _ _ _ _ h  hw (lv_sub hl [1, 2, 4] rfl)
def wp_X9_least (x1 : Int32) (post : Int32 → St → Prop)  (σ : St) : Prop := ∃ nn, wp_X9_least_7 x1 post nn 400 (-x1) σ
set_option maxHeartbeats 4000000 in
set_option maxRecDepth 100000 in
theorem wk_X9_least_0 {p : Program} {l : Launch} {e : Env} {s : State} {m : MethodId} {below : List Frame} {meth : Method} {c : Code} {D : va_G} {q : ClassId × ClassId × ClassId × ClassId} {ad : Nat → Nat → Nat} {args : Array Value} (S : CallFix p m c cX9_least 5 s args GW "OnChinModel") (V : EvM D q ad s) (hr : meth.sig.returnType = (some .int)) (hlocks : meth.locks = false) (x1 : Int32) (post : Int32 → St → Prop)  : ∀ (σ : St) (H : Heap) (locs : List Loc) (ls : Array Slot), wp_X9_least x1 post  σ → wo D clA LM ad s.heap H locs (EM q ad σ) → lv_has ls 5 [(0, .ref (ad 0 0)), (1, .int x1)] → W p l e { frames := 4, cells := 0, slots := 0, locals := 101 } s m args below meth c H locs 0 0 (MQ below (zQi D clA LM ad (EM q ad) post) args s 0 0 (zA LM ad)) (F0 m 0 ls []) := by
  have hx := S.1
  have hb := S.2.1
  intro  σ H locs ls h  hw hl
  refine lv_sipush (v := 400) hx hb dX9_least_0 (by decide) ?_
  refine lv_istore_n (lv' := [(2, .int 400), (0, .ref (ad 0 0)), (1, .int x1)]) hx hb dX9_least_3 rfl hl (by decide) rfl (fun ls hl => ?_)
  refine lv_iload_n hx hb dX9_least_4 rfl (lv_at hl 2 rfl) ?_
  refine lv_ineg hx hb dX9_least_5 ?_
  refine lv_istore_n (lv' := [(3, .int (-x1)), (2, .int 400), (0, .ref (ad 0 0)), (1, .int x1)]) hx hb dX9_least_6 rfl hl (by decide) rfl (fun ls hl => ?_)
  obtain ⟨n9, h⟩ := h
  exact wk_X9_least_7 S V hr hlocks x1   post  n9 400 (-x1) _ _ _ _ h  hw (lv_sub hl [2, 3, 1, 0] rfl)
theorem mt_X9_least (l : Launch) (D : va_G) (q : ClassId × ClassId × ClassId × ClassId) (ad : Nat → Nat → Nat) (x1 : Int32) (σ : St) (post : Int32 → St → Prop) (h : wp_X9_least x1 post σ) : cI l D clA LM ad (EM q ad) (EvM D q ad) yX9_least cX9_least 5 (some .int) { frames := 4, cells := 0, slots := 0, locals := 101 } [.ref (ad 0 0), .int x1] σ post :=
  ent_i (by decide) (Nat.le_of_ble_eq_true rfl) (fun p e s m below meth c S V hr hlocks hw ls hl => wk_X9_least_0 S V hr hlocks x1  post   σ _ _ ls h  hw (lv_sub hl [0, 1] rfl))
def wp_X9_isK (x0 : Int32) (post : Int32 → St → Prop)  (σ : St) : Prop := wp_X9_in (Int32.toInt64 x0) 0 20 (fun r1 σ1 => (narrow .boolean (.int r1) = .int r1 ∧ post r1 σ1)) σ
set_option maxHeartbeats 4000000 in
set_option maxRecDepth 100000 in
theorem wk_X9_isK_0 {p : Program} {l : Launch} {e : Env} {s : State} {m : MethodId} {below : List Frame} {meth : Method} {c : Code} {D : va_G} {q : ClassId × ClassId × ClassId × ClassId} {ad : Nat → Nat → Nat} {args : Array Value} (S : CallFix p m c cX9_isK 1 s args GW "OnChinModel") (V : EvM D q ad s) (hr : meth.sig.returnType = (some .boolean)) (hlocks : meth.locks = false) (x0 : Int32) (post : Int32 → St → Prop)  : ∀ (σ : St) (H : Heap) (locs : List Loc) (ls : Array Slot), wp_X9_isK x0 post  σ → wo D clA LM ad s.heap H locs (EM q ad σ) → lv_has ls 1 [(0, .int x0)] → W p l e { frames := 1, cells := 0, slots := 0, locals := 25 } s m args below meth c H locs 0 0 (MQ below (zQi D clA LM ad (EM q ad) post) args s 0 0 (zA LM ad)) (F0 m 0 ls []) := by
  have hx := S.1
  have hb := S.2.1
  intro  σ H locs ls h  hw hl
  have h : wp_X9_in (Int32.toInt64 x0) 0 20 (fun r1 σ1 => (narrow .boolean (.int r1) = .int r1 ∧ post r1 σ1)) σ := h
  refine lv_iload_n hx hb dX9_isK_0 rfl (lv_at hl 0 rfl) ?_
  refine lv_i2l (v := (Int32.toInt64 x0)) hx hb dX9_isK_1 rfl ?_
  refine lv_lconst (v := 0) hx hb dX9_isK_2 (by decide) ?_
  refine lv_ldc2 (v := 20) hx hb S.2.2.2.1 (gw_S S _ kc_X9_276) dX9_isK_3 ?_
  refine call_Si (As := [.long (Int32.toInt64 x0), .long 0, .long 20]) (rest := []) EvM_ok S V hw (mt_X9_in l D q ad (Int32.toInt64 x0) 0 20  σ _ h) ok_X9_in ml_X9_92 ⟨(Nat.le_of_ble_eq_true rfl), (Nat.le_of_ble_eq_true rfl)⟩ ⟨rfl, rfl⟩ rfl hl.1 rfl (Nat.le_of_ble_eq_true rfl) dX9_isK_6 (fun r1 σ1 H locs h hw => ?_)
  exact ret_z S hr hlocks hw h.1 h.2 dX9_isK_9
theorem mt_X9_isK (l : Launch) (D : va_G) (q : ClassId × ClassId × ClassId × ClassId) (ad : Nat → Nat → Nat) (x0 : Int32) (σ : St) (post : Int32 → St → Prop) (h : wp_X9_isK x0 post σ) : cI l D clA LM ad (EM q ad) (EvM D q ad) yX9_isK cX9_isK 1 (some .boolean) { frames := 1, cells := 0, slots := 0, locals := 25 } [.int x0] σ post :=
  ent_i (by decide) (Nat.le_of_ble_eq_true rfl) (fun p e s m below meth c S V hr hlocks hw ls hl => wk_X9_isK_0 S V hr hlocks x0  post   σ _ _ ls h  hw (lv_sub hl [0] rfl))
def wp_X9_steady (x1 : Int32) (x2 : Int32) (post : Int32 → St → Prop)  (σ : St) : Prop := wp_X9_isThing x1 (fun r1 σ1 => ((¬ r1 = 0 → wp_X9_isK x2 (fun r2 σ2 => ((¬ r2 = 0 → (vp_in x1 4 ∧ ((¬ (σ2 5 0 x1.toNatClampNeg) = 0 → wp_X9_asTold x1 (fun σ3 => wp_X9_least x2 (fun r4 σ4 => post r4 σ4) σ3) σ2) ∧ ((σ2 5 0 x1.toNatClampNeg) = 0 → post (-4) σ2)))) ∧ (r2 = 0 → post (-3) σ2))) σ1) ∧ (r1 = 0 → post (-2) σ1))) σ
set_option maxHeartbeats 4000000 in
set_option maxRecDepth 100000 in
theorem wk_X9_steady_0 {p : Program} {l : Launch} {e : Env} {s : State} {m : MethodId} {below : List Frame} {meth : Method} {c : Code} {D : va_G} {q : ClassId × ClassId × ClassId × ClassId} {ad : Nat → Nat → Nat} {args : Array Value} (S : CallFix p m c cX9_steady 3 s args GW "OnChinModel") (V : EvM D q ad s) (hr : meth.sig.returnType = (some .int)) (hlocks : meth.locks = false) (x1 : Int32) (x2 : Int32) (post : Int32 → St → Prop)  : ∀ (σ : St) (H : Heap) (locs : List Loc) (ls : Array Slot), wp_X9_steady x1 x2 post  σ → wo D clA LM ad s.heap H locs (EM q ad σ) → lv_has ls 3 [(0, .ref (ad 0 0)), (1, .int x1), (2, .int x2)] → W p l e { frames := 5, cells := 0, slots := 0, locals := 125 } s m args below meth c H locs 0 0 (MQ below (zQi D clA LM ad (EM q ad) post) args s 0 0 (zA LM ad)) (F0 m 0 ls []) := by
  have hx := S.1
  have hb := S.2.1
  intro  σ H locs ls h  hw hl
  have h : wp_X9_isThing x1 (fun r1 σ1 => ((¬ r1 = 0 → wp_X9_isK x2 (fun r2 σ2 => ((¬ r2 = 0 → (vp_in x1 4 ∧ ((¬ (σ2 5 0 x1.toNatClampNeg) = 0 → wp_X9_asTold x1 (fun σ3 => wp_X9_least x2 (fun r4 σ4 => post r4 σ4) σ3) σ2) ∧ ((σ2 5 0 x1.toNatClampNeg) = 0 → post (-4) σ2)))) ∧ (r2 = 0 → post (-3) σ2))) σ1) ∧ (r1 = 0 → post (-2) σ1))) σ := h
  refine lv_iload_n hx hb dX9_steady_0 rfl (lv_at hl 1 rfl) ?_
  refine call_Si (As := [.int x1]) (rest := []) EvM_ok S V hw (mt_X9_isThing l D q ad x1  σ _ h) ok_X9_isThing ml_X9_192 ⟨(Nat.le_of_ble_eq_true rfl), (Nat.le_of_ble_eq_true rfl)⟩ ⟨rfl, rfl⟩ rfl hl.1 rfl (Nat.le_of_ble_eq_true rfl) dX9_steady_1 (fun r1 σ1 H locs h hw => ?_)
  refine lv_if_ne (tgt := 10) hx hb dX9_steady_4 (by decide) (fun hc => ?_) (fun hc => ?_)
  · have h := h.1 hc
    refine lv_iload_n hx hb dX9_steady_10 rfl (lv_at hl 2 rfl) ?_
    refine call_Si (As := [.int x2]) (rest := []) EvM_ok S V hw (mt_X9_isK l D q ad x2  σ1 _ h) ok_X9_isK ml_X9_278 ⟨(Nat.le_of_ble_eq_true rfl), (Nat.le_of_ble_eq_true rfl)⟩ ⟨rfl, rfl⟩ rfl hl.1 rfl (Nat.le_of_ble_eq_true rfl) dX9_steady_11 (fun r2 σ2 H locs h hw => ?_)
    refine lv_if_ne (tgt := 20) hx hb dX9_steady_14 (by decide) (fun hc => ?_) (fun hc => ?_)
    · have h := h.1 hc
      refine lv_aload_n hx hb dX9_steady_20 rfl (lv_at hl 0 rfl) ?_
      refine gM_0_6 S V hw (Nat.le_of_ble_eq_true rfl) fl_X9_22 dX9_steady_21 ?_
      refine lv_iload_n hx hb dX9_steady_24 rfl (lv_at hl 1 rfl) ?_
      refine aM_5 S V hw (Nat.le_of_ble_eq_true rfl) h.1 (z := (σ2 5 0 x1.toNatClampNeg)) rfl dX9_steady_25 ?_
      have h := h.2
      refine lv_if_ne (tgt := 32) hx hb dX9_steady_26 (by decide) (fun hc => ?_) (fun hc => ?_)
      · have h := h.1 hc
        refine lv_aload_n hx hb dX9_steady_32 rfl (lv_at hl 0 rfl) ?_
        refine lv_iload_n hx hb dX9_steady_33 rfl (lv_at hl 1 rfl) ?_
        refine call_Vv (As := [.int x1]) (rest := []) EvM_ok S V hw (mt_X9_asTold l D q ad x1  σ2 _ h) ok_X9_asTold ml_X9_258 (rM_0 S V hw (Nat.le_of_ble_eq_true rfl)) ⟨(Nat.le_of_ble_eq_true rfl), (Nat.le_of_ble_eq_true rfl)⟩ ⟨rfl, rfl⟩ rfl hl.1 rfl (Nat.le_of_ble_eq_true rfl) dX9_steady_34 (fun σ3 H locs h hw => ?_)
        refine lv_aload_n hx hb dX9_steady_37 rfl (lv_at hl 0 rfl) ?_
        refine lv_iload_n hx hb dX9_steady_38 rfl (lv_at hl 2 rfl) ?_
        refine call_Vi (As := [.int x2]) (rest := []) EvM_ok S V hw (mt_X9_least l D q ad x2  σ3 _ h) ok_X9_least ml_X9_281 (rM_0 S V hw (Nat.le_of_ble_eq_true rfl)) ⟨(Nat.le_of_ble_eq_true rfl), (Nat.le_of_ble_eq_true rfl)⟩ ⟨rfl, rfl⟩ rfl hl.1 rfl (Nat.le_of_ble_eq_true rfl) dX9_steady_39 (fun r4 σ4 H locs h hw => ?_)
        exact ret_i S hr hlocks hw h dX9_steady_42
      · have h := h.2 hc
        refine lv_bipush (v := (-4)) hx hb dX9_steady_29 (by decide) ?_
        exact ret_i S hr hlocks hw h dX9_steady_31
    · have h := h.2 hc
      refine lv_bipush (v := (-3)) hx hb dX9_steady_17 (by decide) ?_
      exact ret_i S hr hlocks hw h dX9_steady_19
  · have h := h.2 hc
    refine lv_bipush (v := (-2)) hx hb dX9_steady_7 (by decide) ?_
    exact ret_i S hr hlocks hw h dX9_steady_9
theorem mt_X9_steady (l : Launch) (D : va_G) (q : ClassId × ClassId × ClassId × ClassId) (ad : Nat → Nat → Nat) (x1 : Int32) (x2 : Int32) (σ : St) (post : Int32 → St → Prop) (h : wp_X9_steady x1 x2 post σ) : cI l D clA LM ad (EM q ad) (EvM D q ad) yX9_steady cX9_steady 3 (some .int) { frames := 5, cells := 0, slots := 0, locals := 125 } [.ref (ad 0 0), .int x1, .int x2] σ post :=
  ent_i (by decide) (Nat.le_of_ble_eq_true rfl) (fun p e s m below meth c S V hr hlocks hw ls hl => wk_X9_steady_0 S V hr hlocks x1 x2  post   σ _ _ ls h  hw (lv_sub hl [0, 1, 2] rfl))
def wp_X9_stays_39 (x1 : Int32) (post : Int32 → St → Prop) (x2 : Int32) (σ : St) : Prop := (narrow .boolean (.int x2) = .int x2 ∧ post x2 σ)
set_option maxHeartbeats 4000000 in
set_option maxRecDepth 100000 in
theorem wk_X9_stays_39 {p : Program} {l : Launch} {e : Env} {s : State} {m : MethodId} {below : List Frame} {meth : Method} {c : Code} {D : va_G} {q : ClassId × ClassId × ClassId × ClassId} {ad : Nat → Nat → Nat} {args : Array Value} (S : CallFix p m c cX9_stays 4 s args GW "OnChinModel") (V : EvM D q ad s) (hr : meth.sig.returnType = (some .boolean)) (hlocks : meth.locks = false) (x1 : Int32) (post : Int32 → St → Prop)  : ∀ (x2 : Int32) (σ : St) (H : Heap) (locs : List Loc) (ls : Array Slot), wp_X9_stays_39 x1 post x2 σ → wo D clA LM ad s.heap H locs (EM q ad σ) → lv_has ls 4 [(0, .ref (ad 0 0)), (1, .int x1), (2, .int x2)] → W p l e { frames := 4, cells := 0, slots := 0, locals := 101 } s m args below meth c H locs 0 0 (MQ below (zQi D clA LM ad (EM q ad) post) args s 0 0 (zA LM ad)) (F0 m 39 ls []) := by
  have hx := S.1
  have hb := S.2.1
  intro x2 σ H locs ls h  hw hl
  refine lv_iload_n hx hb dX9_stays_39 rfl (lv_at hl 2 rfl) ?_
  exact ret_z S hr hlocks hw h.1 h.2 dX9_stays_40
def wp_X9_stays_32 (x1 : Int32) (K5 : Int32 → Int32 → St → Prop) (post : Int32 → St → Prop) (x3 : Int32) (xs0 : Int32) (σ : St) : Prop := K5 xs0 (x3 + 1) σ
set_option maxHeartbeats 4000000 in
set_option maxRecDepth 100000 in
theorem wk_X9_stays_32 {p : Program} {l : Launch} {e : Env} {s : State} {m : MethodId} {below : List Frame} {meth : Method} {c : Code} {D : va_G} {q : ClassId × ClassId × ClassId × ClassId} {ad : Nat → Nat → Nat} {args : Array Value} (S : CallFix p m c cX9_stays 4 s args GW "OnChinModel") (V : EvM D q ad s) (hr : meth.sig.returnType = (some .boolean)) (hlocks : meth.locks = false) (x1 : Int32) (K5 : Int32 → Int32 → St → Prop) (post : Int32 → St → Prop) (hK5 : ∀ (x2 : Int32) (x3 : Int32) (σ : St) (H : Heap) (locs : List Loc) (ls : Array Slot), K5 x2 x3 σ → wo D clA LM ad s.heap H locs (EM q ad σ) → lv_has ls 4 [(0, .ref (ad 0 0)), (1, .int x1), (2, .int x2), (3, .int x3)] → W p l e { frames := 4, cells := 0, slots := 0, locals := 101 } s m args below meth c H locs 0 0 (MQ below (zQi D clA LM ad (EM q ad) post) args s 0 0 (zA LM ad)) (F0 m 5 ls [])) : ∀ (x3 : Int32) (xs0 : Int32) (σ : St) (H : Heap) (locs : List Loc) (ls : Array Slot), wp_X9_stays_32 x1 K5 post x3 xs0 σ → wo D clA LM ad s.heap H locs (EM q ad σ) → lv_has ls 4 [(0, .ref (ad 0 0)), (1, .int x1), (3, .int x3)] → W p l e { frames := 4, cells := 0, slots := 0, locals := 101 } s m args below meth c H locs 0 0 (MQ below (zQi D clA LM ad (EM q ad) post) args s 0 0 (zA LM ad)) (F0 m 32 ls [.int xs0]) := by
  have hx := S.1
  have hb := S.2.1
  intro x3 xs0 σ H locs ls h  hw hl
  refine lv_istore_n (lv' := [(2, .int xs0), (0, .ref (ad 0 0)), (1, .int x1), (3, .int x3)]) hx hb dX9_stays_32 rfl hl (by decide) rfl (fun ls hl => ?_)
  refine lv_iinc (v := (x3 + 1)) (lv' := [(3, .int (x3 + 1)), (2, .int xs0), (0, .ref (ad 0 0)), (1, .int x1)]) hx hb dX9_stays_33 hl (k := 3) rfl rfl (by decide) rfl (fun ls hl => ?_)
  refine lv_goto (tgt := 5) hx hb dX9_stays_36 (by decide) ?_
  exact hK5 xs0 (x3 + 1) _ _ _ _ h  hw (lv_sub hl [2, 3, 1, 0] rfl)
def wp_X9_stays_5 (x1 : Int32) (post : Int32 → St → Prop) : Nat → Int32 → Int32 → St → Prop
  | 0 => fun _ _ _ => False
  | n + 1 => fun x2 x3 σ => ((x1 < x3 → wp_X9_stays_39 x1 post x2 σ) ∧ (¬ x1 < x3 → ((x2 = 0 → wp_X9_stays_39 x1 post x2 σ) ∧ (¬ x2 = 0 → wp_X9_lasts x3 0 1 (fun r1 σ1 => ((¬ r1 = 400 → wp_X9_stays_32 x1 (fun y0 y1 τ => wp_X9_stays_5 x1 post n y0 y1 τ) post x3 0 σ1) ∧ (r1 = 400 → wp_X9_stays_32 x1 (fun y0 y1 τ => wp_X9_stays_5 x1 post n y0 y1 τ) post x3 1 σ1))) σ))))
set_option maxHeartbeats 4000000 in
set_option maxRecDepth 100000 in
theorem wk_X9_stays_5 {p : Program} {l : Launch} {e : Env} {s : State} {m : MethodId} {below : List Frame} {meth : Method} {c : Code} {D : va_G} {q : ClassId × ClassId × ClassId × ClassId} {ad : Nat → Nat → Nat} {args : Array Value} (S : CallFix p m c cX9_stays 4 s args GW "OnChinModel") (V : EvM D q ad s) (hr : meth.sig.returnType = (some .boolean)) (hlocks : meth.locks = false) (x1 : Int32) (post : Int32 → St → Prop)  : ∀ (n : Nat) (x2 : Int32) (x3 : Int32) (σ : St) (H : Heap) (locs : List Loc) (ls : Array Slot), wp_X9_stays_5 x1 post n x2 x3 σ → wo D clA LM ad s.heap H locs (EM q ad σ) → lv_has ls 4 [(0, .ref (ad 0 0)), (1, .int x1), (2, .int x2), (3, .int x3)] → W p l e { frames := 4, cells := 0, slots := 0, locals := 101 } s m args below meth c H locs 0 0 (MQ below (zQi D clA LM ad (EM q ad) post) args s 0 0 (zA LM ad)) (F0 m 5 ls []) := by
  have hx := S.1
  have hb := S.2.1
  intro n
  induction n with
  | zero => intro x2 x3 σ H locs ls h; exact False.elim h
  | succ n ih =>
    intro x2 x3 σ H locs ls h  hw hl
    refine lv_iload_n hx hb dX9_stays_5 rfl (lv_at hl 3 rfl) ?_
    refine lv_iload_n hx hb dX9_stays_6 rfl (lv_at hl 1 rfl) ?_
    refine lv_icmp_gt (tgt := 39) hx hb dX9_stays_7 (by decide) (fun hc => ?_) (fun hc => ?_)
    · have h := h.1 hc
      exact wk_X9_stays_39 S V hr hlocks x1   post  x2 _ _ _ _ h  hw (lv_sub hl [0, 1, 2] rfl)
    · have h := h.2 hc
      refine lv_iload_n hx hb dX9_stays_10 rfl (lv_at hl 2 rfl) ?_
      refine lv_if_eq (tgt := 39) hx hb dX9_stays_11 (by decide) (fun hc => ?_) (fun hc => ?_)
      · have h := h.1 hc
        exact wk_X9_stays_39 S V hr hlocks x1   post  x2 _ _ _ _ h  hw (lv_sub hl [0, 1, 2] rfl)
      · have h := h.2 hc
        refine lv_aload_n hx hb dX9_stays_14 rfl (lv_at hl 0 rfl) ?_
        refine lv_iload_n hx hb dX9_stays_15 rfl (lv_at hl 3 rfl) ?_
        refine lv_iconst (v := 0) hx hb dX9_stays_16 (by decide) ?_
        refine lv_iconst (v := 1) hx hb dX9_stays_17 (by decide) ?_
        refine call_Vi (As := [.int x3, .int 0, .int 1]) (rest := []) EvM_ok S V hw (mt_X9_lasts l D q ad x3 0 1  σ _ h) ok_X9_lasts ml_X9_272 (rM_0 S V hw (Nat.le_of_ble_eq_true rfl)) ⟨(Nat.le_of_ble_eq_true rfl), (Nat.le_of_ble_eq_true rfl)⟩ ⟨rfl, rfl⟩ rfl hl.1 rfl (Nat.le_of_ble_eq_true rfl) dX9_stays_18 (fun r1 σ1 H locs h hw => ?_)
        refine lv_sipush (v := 400) hx hb dX9_stays_21 (by decide) ?_
        refine lv_icmp_ne (tgt := 31) hx hb dX9_stays_24 (by decide) (fun hc => ?_) (fun hc => ?_)
        · have h := h.1 hc
          refine lv_iconst (v := 0) hx hb dX9_stays_31 (by decide) ?_
          exact wk_X9_stays_32 S V hr hlocks x1  (fun y0 y1 τ => wp_X9_stays_5 x1 post n y0 y1 τ) post ih x3 0 _ _ _ _ h  hw (lv_sub hl [0, 1, 3] rfl)
        · have h := h.2 hc
          refine lv_iconst (v := 1) hx hb dX9_stays_27 (by decide) ?_
          refine lv_goto (tgt := 32) hx hb dX9_stays_28 (by decide) ?_
          exact wk_X9_stays_32 S V hr hlocks x1  (fun y0 y1 τ => wp_X9_stays_5 x1 post n y0 y1 τ) post ih x3 1 _ _ _ _ h  hw (lv_sub hl [0, 1, 3] rfl)
def wp_X9_stays (x1 : Int32) (post : Int32 → St → Prop)  (σ : St) : Prop := ∃ nn, wp_X9_stays_5 x1 post nn 1 (-x1) σ
set_option maxHeartbeats 4000000 in
set_option maxRecDepth 100000 in
theorem wk_X9_stays_0 {p : Program} {l : Launch} {e : Env} {s : State} {m : MethodId} {below : List Frame} {meth : Method} {c : Code} {D : va_G} {q : ClassId × ClassId × ClassId × ClassId} {ad : Nat → Nat → Nat} {args : Array Value} (S : CallFix p m c cX9_stays 4 s args GW "OnChinModel") (V : EvM D q ad s) (hr : meth.sig.returnType = (some .boolean)) (hlocks : meth.locks = false) (x1 : Int32) (post : Int32 → St → Prop)  : ∀ (σ : St) (H : Heap) (locs : List Loc) (ls : Array Slot), wp_X9_stays x1 post  σ → wo D clA LM ad s.heap H locs (EM q ad σ) → lv_has ls 4 [(0, .ref (ad 0 0)), (1, .int x1)] → W p l e { frames := 4, cells := 0, slots := 0, locals := 101 } s m args below meth c H locs 0 0 (MQ below (zQi D clA LM ad (EM q ad) post) args s 0 0 (zA LM ad)) (F0 m 0 ls []) := by
  have hx := S.1
  have hb := S.2.1
  intro  σ H locs ls h  hw hl
  refine lv_iconst (v := 1) hx hb dX9_stays_0 (by decide) ?_
  refine lv_istore_n (lv' := [(2, .int 1), (0, .ref (ad 0 0)), (1, .int x1)]) hx hb dX9_stays_1 rfl hl (by decide) rfl (fun ls hl => ?_)
  refine lv_iload_n hx hb dX9_stays_2 rfl (lv_at hl 2 rfl) ?_
  refine lv_ineg hx hb dX9_stays_3 ?_
  refine lv_istore_n (lv' := [(3, .int (-x1)), (2, .int 1), (0, .ref (ad 0 0)), (1, .int x1)]) hx hb dX9_stays_4 rfl hl (by decide) rfl (fun ls hl => ?_)
  obtain ⟨n9, h⟩ := h
  exact wk_X9_stays_5 S V hr hlocks x1   post  n9 1 (-x1) _ _ _ _ h  hw (lv_sub hl [2, 3, 1, 0] rfl)
theorem mt_X9_stays (l : Launch) (D : va_G) (q : ClassId × ClassId × ClassId × ClassId) (ad : Nat → Nat → Nat) (x1 : Int32) (σ : St) (post : Int32 → St → Prop) (h : wp_X9_stays x1 post σ) : cI l D clA LM ad (EM q ad) (EvM D q ad) yX9_stays cX9_stays 4 (some .boolean) { frames := 4, cells := 0, slots := 0, locals := 101 } [.ref (ad 0 0), .int x1] σ post :=
  ent_i (by decide) (Nat.le_of_ble_eq_true rfl) (fun p e s m below meth c S V hr hlocks hw ls hl => wk_X9_stays_0 S V hr hlocks x1  post   σ _ _ ls h  hw (lv_sub hl [0, 1] rfl))
def wp_X9_line_72 (x1 : Int32) (post : Int32 → St → Prop) (x2 : Int32) (σ : St) : Prop := post x2 σ
set_option maxHeartbeats 4000000 in
set_option maxRecDepth 100000 in
theorem wk_X9_line_72 {p : Program} {l : Launch} {e : Env} {s : State} {m : MethodId} {below : List Frame} {meth : Method} {c : Code} {D : va_G} {q : ClassId × ClassId × ClassId × ClassId} {ad : Nat → Nat → Nat} {args : Array Value} (S : CallFix p m c cX9_line 5 s args GW "OnChinModel") (V : EvM D q ad s) (hr : meth.sig.returnType = (some .int)) (hlocks : meth.locks = false) (x1 : Int32) (post : Int32 → St → Prop)  : ∀ (x2 : Int32) (σ : St) (H : Heap) (locs : List Loc) (ls : Array Slot), wp_X9_line_72 x1 post x2 σ → wo D clA LM ad s.heap H locs (EM q ad σ) → lv_has ls 5 [(0, .ref (ad 0 0)), (1, .int x1), (2, .int x2)] → W p l e { frames := 5, cells := 0, slots := 0, locals := 124 } s m args below meth c H locs 0 0 (MQ below (zQi D clA LM ad (EM q ad) post) args s 0 0 (zA LM ad)) (F0 m 72 ls []) := by
  have hx := S.1
  have hb := S.2.1
  intro x2 σ H locs ls h  hw hl
  refine lv_iload_n hx hb dX9_line_72 rfl (lv_at hl 2 rfl) ?_
  exact ret_i S hr hlocks hw h dX9_line_73
def wp_X9_line_65 (x1 : Int32) (K34 : Int32 → Int32 → Int32 → St → Prop) (post : Int32 → St → Prop) (x3 : Int32) (x4 : Int32) (xs0 : Int32) (σ : St) : Prop := K34 xs0 x3 (x4 + (-1)) σ
set_option maxHeartbeats 4000000 in
set_option maxRecDepth 100000 in
theorem wk_X9_line_65 {p : Program} {l : Launch} {e : Env} {s : State} {m : MethodId} {below : List Frame} {meth : Method} {c : Code} {D : va_G} {q : ClassId × ClassId × ClassId × ClassId} {ad : Nat → Nat → Nat} {args : Array Value} (S : CallFix p m c cX9_line 5 s args GW "OnChinModel") (V : EvM D q ad s) (hr : meth.sig.returnType = (some .int)) (hlocks : meth.locks = false) (x1 : Int32) (K34 : Int32 → Int32 → Int32 → St → Prop) (post : Int32 → St → Prop) (hK34 : ∀ (x2 : Int32) (x3 : Int32) (x4 : Int32) (σ : St) (H : Heap) (locs : List Loc) (ls : Array Slot), K34 x2 x3 x4 σ → wo D clA LM ad s.heap H locs (EM q ad σ) → lv_has ls 5 [(0, .ref (ad 0 0)), (1, .int x1), (2, .int x2), (3, .int x3), (4, .int x4)] → W p l e { frames := 5, cells := 0, slots := 0, locals := 124 } s m args below meth c H locs 0 0 (MQ below (zQi D clA LM ad (EM q ad) post) args s 0 0 (zA LM ad)) (F0 m 34 ls [])) : ∀ (x3 : Int32) (x4 : Int32) (xs0 : Int32) (σ : St) (H : Heap) (locs : List Loc) (ls : Array Slot), wp_X9_line_65 x1 K34 post x3 x4 xs0 σ → wo D clA LM ad s.heap H locs (EM q ad σ) → lv_has ls 5 [(0, .ref (ad 0 0)), (1, .int x1), (3, .int x3), (4, .int x4)] → W p l e { frames := 5, cells := 0, slots := 0, locals := 124 } s m args below meth c H locs 0 0 (MQ below (zQi D clA LM ad (EM q ad) post) args s 0 0 (zA LM ad)) (F0 m 65 ls [.int xs0]) := by
  have hx := S.1
  have hb := S.2.1
  intro x3 x4 xs0 σ H locs ls h  hw hl
  refine lv_istore_n (lv' := [(2, .int xs0), (0, .ref (ad 0 0)), (1, .int x1), (3, .int x3), (4, .int x4)]) hx hb dX9_line_65 rfl hl (by decide) rfl (fun ls hl => ?_)
  refine lv_iinc (v := (x4 + (-1))) (lv' := [(4, .int (x4 + (-1))), (2, .int xs0), (0, .ref (ad 0 0)), (1, .int x1), (3, .int x3)]) hx hb dX9_line_66 hl (k := 4) rfl rfl (by decide) rfl (fun ls hl => ?_)
  refine lv_goto (tgt := 34) hx hb dX9_line_69 (by decide) ?_
  exact hK34 xs0 x3 (x4 + (-1)) _ _ _ _ h  hw (lv_sub hl [2, 3, 1, 4, 0] rfl)
def wp_X9_line_34 (x1 : Int32) (post : Int32 → St → Prop) : Nat → Int32 → Int32 → Int32 → St → Prop
  | 0 => fun _ _ _ _ => False
  | n + 1 => fun x2 x3 x4 σ => ((x4 ≤ 0 → wp_X9_line_72 x1 post x2 σ) ∧ (¬ x4 ≤ 0 → ((x3 = 0 → wp_X9_line_72 x1 post x2 σ) ∧ (¬ x3 = 0 → wp_X9_stays x1 (fun r1 σ1 => ((r1 = 0 → wp_X9_line_65 x1 (fun y0 y1 y2 τ => wp_X9_line_34 x1 post n y0 y1 y2 τ) post r1 x4 x2 σ1) ∧ (¬ r1 = 0 → wp_X9_line_65 x1 (fun y0 y1 y2 τ => wp_X9_line_34 x1 post n y0 y1 y2 τ) post r1 x4 x4 σ1))) (su σ 0 0 34 x4)))))
set_option maxHeartbeats 4000000 in
set_option maxRecDepth 100000 in
theorem wk_X9_line_34 {p : Program} {l : Launch} {e : Env} {s : State} {m : MethodId} {below : List Frame} {meth : Method} {c : Code} {D : va_G} {q : ClassId × ClassId × ClassId × ClassId} {ad : Nat → Nat → Nat} {args : Array Value} (S : CallFix p m c cX9_line 5 s args GW "OnChinModel") (V : EvM D q ad s) (hr : meth.sig.returnType = (some .int)) (hlocks : meth.locks = false) (x1 : Int32) (post : Int32 → St → Prop)  : ∀ (n : Nat) (x2 : Int32) (x3 : Int32) (x4 : Int32) (σ : St) (H : Heap) (locs : List Loc) (ls : Array Slot), wp_X9_line_34 x1 post n x2 x3 x4 σ → wo D clA LM ad s.heap H locs (EM q ad σ) → lv_has ls 5 [(0, .ref (ad 0 0)), (1, .int x1), (2, .int x2), (3, .int x3), (4, .int x4)] → W p l e { frames := 5, cells := 0, slots := 0, locals := 124 } s m args below meth c H locs 0 0 (MQ below (zQi D clA LM ad (EM q ad) post) args s 0 0 (zA LM ad)) (F0 m 34 ls []) := by
  have hx := S.1
  have hb := S.2.1
  intro n
  induction n with
  | zero => intro x2 x3 x4 σ H locs ls h; exact False.elim h
  | succ n ih =>
    intro x2 x3 x4 σ H locs ls h  hw hl
    refine lv_iload hx hb dX9_line_34 (lv_at hl 4 rfl) ?_
    refine lv_if_le (tgt := 72) hx hb dX9_line_36 (by decide) (fun hc => ?_) (fun hc => ?_)
    · have h := h.1 hc
      exact wk_X9_line_72 S V hr hlocks x1   post  x2 _ _ _ _ h  hw (lv_sub hl [0, 1, 2] rfl)
    · have h := h.2 hc
      refine lv_iload_n hx hb dX9_line_39 rfl (lv_at hl 3 rfl) ?_
      refine lv_if_eq (tgt := 72) hx hb dX9_line_40 (by decide) (fun hc => ?_) (fun hc => ?_)
      · have h := h.1 hc
        exact wk_X9_line_72 S V hr hlocks x1   post  x2 _ _ _ _ h  hw (lv_sub hl [0, 1, 2] rfl)
      · have h := h.2 hc
        refine lv_aload_n hx hb dX9_line_43 rfl (lv_at hl 0 rfl) ?_
        refine lv_iload hx hb dX9_line_44 (lv_at hl 4 rfl) ?_
        refine pM_0_34 S V hw (Nat.le_of_ble_eq_true rfl) fl_X9_222 dX9_line_46 (fun H locs hw => ?_)
        refine lv_aload_n hx hb dX9_line_49 rfl (lv_at hl 0 rfl) ?_
        refine lv_iload_n hx hb dX9_line_50 rfl (lv_at hl 1 rfl) ?_
        refine call_Vi (As := [.int x1]) (rest := []) EvM_ok S V hw (mt_X9_stays l D q ad x1  (su σ 0 0 34 x4) _ h) ok_X9_stays ml_X9_284 (rM_0 S V hw (Nat.le_of_ble_eq_true rfl)) ⟨(Nat.le_of_ble_eq_true rfl), (Nat.le_of_ble_eq_true rfl)⟩ ⟨rfl, rfl⟩ rfl hl.1 rfl (Nat.le_of_ble_eq_true rfl) dX9_line_51 (fun r1 σ1 H locs h hw => ?_)
        refine lv_istore_n (lv' := [(3, .int r1), (0, .ref (ad 0 0)), (1, .int x1), (2, .int x2), (4, .int x4)]) hx hb dX9_line_54 rfl hl (by decide) rfl (fun ls hl => ?_)
        refine lv_iload_n hx hb dX9_line_55 rfl (lv_at hl 0 rfl) ?_
        refine lv_if_eq (tgt := 64) hx hb dX9_line_56 (by decide) (fun hc => ?_) (fun hc => ?_)
        · have h := h.1 hc
          refine lv_iload_n hx hb dX9_line_64 rfl (lv_at hl 3 rfl) ?_
          exact wk_X9_line_65 S V hr hlocks x1  (fun y0 y1 y2 τ => wp_X9_line_34 x1 post n y0 y1 y2 τ) post ih r1 x4 x2 _ _ _ _ h  hw (lv_sub hl [1, 2, 0, 4] rfl)
        · have h := h.2 hc
          refine lv_iload hx hb dX9_line_59 (lv_at hl 4 rfl) ?_
          refine lv_goto (tgt := 65) hx hb dX9_line_61 (by decide) ?_
          exact wk_X9_line_65 S V hr hlocks x1  (fun y0 y1 y2 τ => wp_X9_line_34 x1 post n y0 y1 y2 τ) post ih r1 x4 x4 _ _ _ _ h  hw (lv_sub hl [1, 2, 0, 4] rfl)
def wp_X9_line (x1 : Int32) (post : Int32 → St → Prop)  (σ : St) : Prop := wp_X9_isK x1 (fun r1 σ1 => ((¬ r1 = 0 → wp_X9_asTold 0 (fun σ2 => ∃ nn, wp_X9_line_34 x1 post nn (-1) 1 300 (su (su σ2 0 0 32 0) 0 0 33 0)) σ1) ∧ (r1 = 0 → post (-3) σ1))) σ
set_option maxHeartbeats 4000000 in
set_option maxRecDepth 100000 in
theorem wk_X9_line_0 {p : Program} {l : Launch} {e : Env} {s : State} {m : MethodId} {below : List Frame} {meth : Method} {c : Code} {D : va_G} {q : ClassId × ClassId × ClassId × ClassId} {ad : Nat → Nat → Nat} {args : Array Value} (S : CallFix p m c cX9_line 5 s args GW "OnChinModel") (V : EvM D q ad s) (hr : meth.sig.returnType = (some .int)) (hlocks : meth.locks = false) (x1 : Int32) (post : Int32 → St → Prop)  : ∀ (σ : St) (H : Heap) (locs : List Loc) (ls : Array Slot), wp_X9_line x1 post  σ → wo D clA LM ad s.heap H locs (EM q ad σ) → lv_has ls 5 [(0, .ref (ad 0 0)), (1, .int x1)] → W p l e { frames := 5, cells := 0, slots := 0, locals := 124 } s m args below meth c H locs 0 0 (MQ below (zQi D clA LM ad (EM q ad) post) args s 0 0 (zA LM ad)) (F0 m 0 ls []) := by
  have hx := S.1
  have hb := S.2.1
  intro  σ H locs ls h  hw hl
  have h : wp_X9_isK x1 (fun r1 σ1 => ((¬ r1 = 0 → wp_X9_asTold 0 (fun σ2 => ∃ nn, wp_X9_line_34 x1 post nn (-1) 1 300 (su (su σ2 0 0 32 0) 0 0 33 0)) σ1) ∧ (r1 = 0 → post (-3) σ1))) σ := h
  refine lv_iload_n hx hb dX9_line_0 rfl (lv_at hl 1 rfl) ?_
  refine call_Si (As := [.int x1]) (rest := []) EvM_ok S V hw (mt_X9_isK l D q ad x1  σ _ h) ok_X9_isK ml_X9_278 ⟨(Nat.le_of_ble_eq_true rfl), (Nat.le_of_ble_eq_true rfl)⟩ ⟨rfl, rfl⟩ rfl hl.1 rfl (Nat.le_of_ble_eq_true rfl) dX9_line_1 (fun r1 σ1 H locs h hw => ?_)
  refine lv_if_ne (tgt := 10) hx hb dX9_line_4 (by decide) (fun hc => ?_) (fun hc => ?_)
  · have h := h.1 hc
    refine lv_aload_n hx hb dX9_line_10 rfl (lv_at hl 0 rfl) ?_
    refine lv_iconst (v := 0) hx hb dX9_line_11 (by decide) ?_
    refine call_Vv (As := [.int 0]) (rest := []) EvM_ok S V hw (mt_X9_asTold l D q ad 0  σ1 _ h) ok_X9_asTold ml_X9_258 (rM_0 S V hw (Nat.le_of_ble_eq_true rfl)) ⟨(Nat.le_of_ble_eq_true rfl), (Nat.le_of_ble_eq_true rfl)⟩ ⟨rfl, rfl⟩ rfl hl.1 rfl (Nat.le_of_ble_eq_true rfl) dX9_line_12 (fun σ2 H locs h hw => ?_)
    refine lv_aload_n hx hb dX9_line_15 rfl (lv_at hl 0 rfl) ?_
    refine lv_iconst (v := 0) hx hb dX9_line_16 (by decide) ?_
    refine pM_0_32 S V hw (Nat.le_of_ble_eq_true rfl) fl_X9_216 dX9_line_17 (fun H locs hw => ?_)
    refine lv_aload_n hx hb dX9_line_20 rfl (lv_at hl 0 rfl) ?_
    refine lv_iconst (v := 0) hx hb dX9_line_21 (by decide) ?_
    refine pM_0_33 S V hw (Nat.le_of_ble_eq_true rfl) fl_X9_219 dX9_line_22 (fun H locs hw => ?_)
    refine lv_iconst (v := (-1)) hx hb dX9_line_25 (by decide) ?_
    refine lv_istore_n (lv' := [(2, .int (-1)), (0, .ref (ad 0 0)), (1, .int x1)]) hx hb dX9_line_26 rfl hl (by decide) rfl (fun ls hl => ?_)
    refine lv_iconst (v := 1) hx hb dX9_line_27 (by decide) ?_
    refine lv_istore_n (lv' := [(3, .int 1), (2, .int (-1)), (0, .ref (ad 0 0)), (1, .int x1)]) hx hb dX9_line_28 rfl hl (by decide) rfl (fun ls hl => ?_)
    refine lv_sipush (v := 300) hx hb dX9_line_29 (by decide) ?_
    refine lv_istore (lv' := [(4, .int 300), (3, .int 1), (2, .int (-1)), (0, .ref (ad 0 0)), (1, .int x1)]) hx hb dX9_line_32 hl (by decide) rfl (fun ls hl => ?_)
    obtain ⟨n9, h⟩ := h
    exact wk_X9_line_34 S V hr hlocks x1   post  n9 (-1) 1 300 _ _ _ _ h  hw (lv_sub hl [3, 4, 2, 1, 0] rfl)
  · have h := h.2 hc
    refine lv_bipush (v := (-3)) hx hb dX9_line_7 (by decide) ?_
    exact ret_i S hr hlocks hw h dX9_line_9
theorem mt_X9_line (l : Launch) (D : va_G) (q : ClassId × ClassId × ClassId × ClassId) (ad : Nat → Nat → Nat) (x1 : Int32) (σ : St) (post : Int32 → St → Prop) (h : wp_X9_line x1 post σ) : cI l D clA LM ad (EM q ad) (EvM D q ad) yX9_line cX9_line 5 (some .int) { frames := 5, cells := 0, slots := 0, locals := 124 } [.ref (ad 0 0), .int x1] σ post :=
  ent_i (by decide) (Nat.le_of_ble_eq_true rfl) (fun p e s m below meth c S V hr hlocks hw ls hl => wk_X9_line_0 S V hr hlocks x1  post   σ _ _ ls h  hw (lv_sub hl [0, 1] rfl))
def wp_X9_best_34 (x1 : Int32) (x2 : Int32) (x3 : Int32) (post : Int32 → St → Prop)  (σ : St) : Prop := post (-3) σ
set_option maxHeartbeats 4000000 in
set_option maxRecDepth 100000 in
theorem wk_X9_best_34 {p : Program} {l : Launch} {e : Env} {s : State} {m : MethodId} {below : List Frame} {meth : Method} {c : Code} {D : va_G} {q : ClassId × ClassId × ClassId × ClassId} {ad : Nat → Nat → Nat} {args : Array Value} (S : CallFix p m c cX9_best 9 s args GW "OnChinModel") (V : EvM D q ad s) (hr : meth.sig.returnType = (some .int)) (hlocks : meth.locks = false) (x1 : Int32) (x2 : Int32) (x3 : Int32) (post : Int32 → St → Prop)  : ∀ (σ : St) (H : Heap) (locs : List Loc) (ls : Array Slot), wp_X9_best_34 x1 x2 x3 post  σ → wo D clA LM ad s.heap H locs (EM q ad σ) → lv_has ls 9 [(0, .ref (ad 0 0)), (1, .int x1), (2, .int x2), (3, .int x3)] → W p l e { frames := 4, cells := 0, slots := 0, locals := 101 } s m args below meth c H locs 0 0 (MQ below (zQi D clA LM ad (EM q ad) post) args s 0 0 (zA LM ad)) (F0 m 34 ls []) := by
  have hx := S.1
  have hb := S.2.1
  intro  σ H locs ls h  hw hl
  refine lv_bipush (v := (-3)) hx hb dX9_best_34 (by decide) ?_
  exact ret_i S hr hlocks hw h dX9_best_36
def wp_X9_best_186 (x1 : Int32) (x2 : Int32) (x3 : Int32) (post : Int32 → St → Prop) (xs0 : Int32) (σ : St) : Prop := post xs0 σ
set_option maxHeartbeats 4000000 in
set_option maxRecDepth 100000 in
theorem wk_X9_best_186 {p : Program} {l : Launch} {e : Env} {s : State} {m : MethodId} {below : List Frame} {meth : Method} {c : Code} {D : va_G} {q : ClassId × ClassId × ClassId × ClassId} {ad : Nat → Nat → Nat} {args : Array Value} (S : CallFix p m c cX9_best 9 s args GW "OnChinModel") (V : EvM D q ad s) (hr : meth.sig.returnType = (some .int)) (hlocks : meth.locks = false) (x1 : Int32) (x2 : Int32) (x3 : Int32) (post : Int32 → St → Prop)  : ∀ (xs0 : Int32) (σ : St) (H : Heap) (locs : List Loc) (ls : Array Slot), wp_X9_best_186 x1 x2 x3 post xs0 σ → wo D clA LM ad s.heap H locs (EM q ad σ) → lv_has ls 9 [(0, .ref (ad 0 0)), (1, .int x1), (2, .int x2), (3, .int x3)] → W p l e { frames := 4, cells := 0, slots := 0, locals := 101 } s m args below meth c H locs 0 0 (MQ below (zQi D clA LM ad (EM q ad) post) args s 0 0 (zA LM ad)) (F0 m 186 ls [.int xs0]) := by
  have hx := S.1
  have hb := S.2.1
  intro xs0 σ H locs ls h  hw hl
  exact ret_i S hr hlocks hw h dX9_best_186
def wp_X9_best_151 (x1 : Int32) (x2 : Int32) (x3 : Int32) (K63 : Int32 → Int32 → Int32 → St → Prop) (post : Int32 → St → Prop) (x5 : Int32) (x6 : Int32) (xs0 : Int32) (σ : St) : Prop := K63 xs0 x5 (x6 + 1) σ
set_option maxHeartbeats 4000000 in
set_option maxRecDepth 100000 in
theorem wk_X9_best_151 {p : Program} {l : Launch} {e : Env} {s : State} {m : MethodId} {below : List Frame} {meth : Method} {c : Code} {D : va_G} {q : ClassId × ClassId × ClassId × ClassId} {ad : Nat → Nat → Nat} {args : Array Value} (S : CallFix p m c cX9_best 9 s args GW "OnChinModel") (V : EvM D q ad s) (hr : meth.sig.returnType = (some .int)) (hlocks : meth.locks = false) (x1 : Int32) (x2 : Int32) (x3 : Int32) (K63 : Int32 → Int32 → Int32 → St → Prop) (post : Int32 → St → Prop) (hK63 : ∀ (x4 : Int32) (x5 : Int32) (x6 : Int32) (σ : St) (H : Heap) (locs : List Loc) (ls : Array Slot), K63 x4 x5 x6 σ → wo D clA LM ad s.heap H locs (EM q ad σ) → lv_has ls 9 [(0, .ref (ad 0 0)), (1, .int x1), (2, .int x2), (3, .int x3), (4, .int x4), (5, .int x5), (6, .int x6)] → W p l e { frames := 4, cells := 0, slots := 0, locals := 101 } s m args below meth c H locs 0 0 (MQ below (zQi D clA LM ad (EM q ad) post) args s 0 0 (zA LM ad)) (F0 m 63 ls [])) : ∀ (x5 : Int32) (x6 : Int32) (xs0 : Int32) (σ : St) (H : Heap) (locs : List Loc) (ls : Array Slot), wp_X9_best_151 x1 x2 x3 K63 post x5 x6 xs0 σ → wo D clA LM ad s.heap H locs (EM q ad σ) → lv_has ls 9 [(0, .ref (ad 0 0)), (1, .int x1), (2, .int x2), (3, .int x3), (5, .int x5), (6, .int x6)] → W p l e { frames := 4, cells := 0, slots := 0, locals := 101 } s m args below meth c H locs 0 0 (MQ below (zQi D clA LM ad (EM q ad) post) args s 0 0 (zA LM ad)) (F0 m 151 ls [.int xs0]) := by
  have hx := S.1
  have hb := S.2.1
  intro x5 x6 xs0 σ H locs ls h  hw hl
  refine lv_istore (lv' := [(4, .int xs0), (0, .ref (ad 0 0)), (1, .int x1), (2, .int x2), (3, .int x3), (5, .int x5), (6, .int x6)]) hx hb dX9_best_151 hl (by decide) rfl (fun ls hl => ?_)
  refine lv_iinc (v := (x6 + 1)) (lv' := [(6, .int (x6 + 1)), (4, .int xs0), (0, .ref (ad 0 0)), (1, .int x1), (2, .int x2), (3, .int x3), (5, .int x5)]) hx hb dX9_best_153 hl (k := 6) rfl rfl (by decide) rfl (fun ls hl => ?_)
  refine lv_goto (tgt := 63) hx hb dX9_best_156 (by decide) ?_
  exact hK63 xs0 x5 (x6 + 1) _ _ _ _ h  hw (lv_sub hl [2, 3, 4, 5, 1, 6, 0] rfl)
def wp_X9_best_135 (x1 : Int32) (x2 : Int32) (x3 : Int32) (K63 : Int32 → Int32 → Int32 → St → Prop) (post : Int32 → St → Prop) (x4 : Int32) (x6 : Int32) (x7 : Int32) (xs0 : Int32) (σ : St) : Prop := ((x7 ≤ x4 → wp_X9_best_151 x1 x2 x3 K63 post xs0 x6 x4 σ) ∧ (¬ x7 ≤ x4 → wp_X9_best_151 x1 x2 x3 K63 post xs0 x6 x7 σ))
set_option maxHeartbeats 4000000 in
set_option maxRecDepth 100000 in
theorem wk_X9_best_135 {p : Program} {l : Launch} {e : Env} {s : State} {m : MethodId} {below : List Frame} {meth : Method} {c : Code} {D : va_G} {q : ClassId × ClassId × ClassId × ClassId} {ad : Nat → Nat → Nat} {args : Array Value} (S : CallFix p m c cX9_best 9 s args GW "OnChinModel") (V : EvM D q ad s) (hr : meth.sig.returnType = (some .int)) (hlocks : meth.locks = false) (x1 : Int32) (x2 : Int32) (x3 : Int32) (K63 : Int32 → Int32 → Int32 → St → Prop) (post : Int32 → St → Prop) (hK63 : ∀ (x4 : Int32) (x5 : Int32) (x6 : Int32) (σ : St) (H : Heap) (locs : List Loc) (ls : Array Slot), K63 x4 x5 x6 σ → wo D clA LM ad s.heap H locs (EM q ad σ) → lv_has ls 9 [(0, .ref (ad 0 0)), (1, .int x1), (2, .int x2), (3, .int x3), (4, .int x4), (5, .int x5), (6, .int x6)] → W p l e { frames := 4, cells := 0, slots := 0, locals := 101 } s m args below meth c H locs 0 0 (MQ below (zQi D clA LM ad (EM q ad) post) args s 0 0 (zA LM ad)) (F0 m 63 ls [])) : ∀ (x4 : Int32) (x6 : Int32) (x7 : Int32) (xs0 : Int32) (σ : St) (H : Heap) (locs : List Loc) (ls : Array Slot), wp_X9_best_135 x1 x2 x3 K63 post x4 x6 x7 xs0 σ → wo D clA LM ad s.heap H locs (EM q ad σ) → lv_has ls 9 [(0, .ref (ad 0 0)), (1, .int x1), (2, .int x2), (3, .int x3), (4, .int x4), (6, .int x6), (7, .int x7)] → W p l e { frames := 4, cells := 0, slots := 0, locals := 101 } s m args below meth c H locs 0 0 (MQ below (zQi D clA LM ad (EM q ad) post) args s 0 0 (zA LM ad)) (F0 m 135 ls [.int xs0]) := by
  have hx := S.1
  have hb := S.2.1
  intro x4 x6 x7 xs0 σ H locs ls h  hw hl
  refine lv_istore (lv' := [(5, .int xs0), (0, .ref (ad 0 0)), (1, .int x1), (2, .int x2), (3, .int x3), (4, .int x4), (6, .int x6), (7, .int x7)]) hx hb dX9_best_135 hl (by decide) rfl (fun ls hl => ?_)
  refine lv_iload hx hb dX9_best_137 (lv_at hl 7 rfl) ?_
  refine lv_iload hx hb dX9_best_139 (lv_at hl 5 rfl) ?_
  refine lv_icmp_le (tgt := 149) hx hb dX9_best_141 (by decide) (fun hc => ?_) (fun hc => ?_)
  · have h := h.1 hc
    refine lv_iload hx hb dX9_best_149 (lv_at hl 5 rfl) ?_
    exact wk_X9_best_151 S V hr hlocks x1 x2 x3  K63 post hK63 xs0 x6 x4 _ _ _ _ h  hw (lv_sub hl [1, 2, 3, 4, 0, 6] rfl)
  · have h := h.2 hc
    refine lv_iload hx hb dX9_best_144 (lv_at hl 7 rfl) ?_
    refine lv_goto (tgt := 151) hx hb dX9_best_146 (by decide) ?_
    exact wk_X9_best_151 S V hr hlocks x1 x2 x3  K63 post hK63 xs0 x6 x7 _ _ _ _ h  hw (lv_sub hl [1, 2, 3, 4, 0, 6] rfl)
def wp_X9_best_96 (x1 : Int32) (x2 : Int32) (x3 : Int32) (K63 : Int32 → Int32 → Int32 → St → Prop) (post : Int32 → St → Prop) : Nat → Int32 → Int32 → Int32 → Int32 → Int32 → St → Prop
  | 0 => fun _ _ _ _ _ _ => False
  | n + 1 => fun x4 x5 x6 x7 x8 σ => ((x2 < x8 → ((x7 ≤ x4 → wp_X9_best_135 x1 x2 x3 K63 post x4 x6 x7 x5 σ) ∧ (¬ x7 ≤ x4 → wp_X9_best_135 x1 x2 x3 K63 post x4 x6 x7 x6 σ))) ∧ (¬ x2 < x8 → wp_X9_lasts x8 0 1 (fun r1 σ1 => wp_X9_best_96 x1 x2 x3 K63 post n x4 x5 x6 (x7 + r1) (x8 + 1) σ1) σ))
set_option maxHeartbeats 4000000 in
set_option maxRecDepth 100000 in
theorem wk_X9_best_96 {p : Program} {l : Launch} {e : Env} {s : State} {m : MethodId} {below : List Frame} {meth : Method} {c : Code} {D : va_G} {q : ClassId × ClassId × ClassId × ClassId} {ad : Nat → Nat → Nat} {args : Array Value} (S : CallFix p m c cX9_best 9 s args GW "OnChinModel") (V : EvM D q ad s) (hr : meth.sig.returnType = (some .int)) (hlocks : meth.locks = false) (x1 : Int32) (x2 : Int32) (x3 : Int32) (K63 : Int32 → Int32 → Int32 → St → Prop) (post : Int32 → St → Prop) (hK63 : ∀ (x4 : Int32) (x5 : Int32) (x6 : Int32) (σ : St) (H : Heap) (locs : List Loc) (ls : Array Slot), K63 x4 x5 x6 σ → wo D clA LM ad s.heap H locs (EM q ad σ) → lv_has ls 9 [(0, .ref (ad 0 0)), (1, .int x1), (2, .int x2), (3, .int x3), (4, .int x4), (5, .int x5), (6, .int x6)] → W p l e { frames := 4, cells := 0, slots := 0, locals := 101 } s m args below meth c H locs 0 0 (MQ below (zQi D clA LM ad (EM q ad) post) args s 0 0 (zA LM ad)) (F0 m 63 ls [])) : ∀ (n : Nat) (x4 : Int32) (x5 : Int32) (x6 : Int32) (x7 : Int32) (x8 : Int32) (σ : St) (H : Heap) (locs : List Loc) (ls : Array Slot), wp_X9_best_96 x1 x2 x3 K63 post n x4 x5 x6 x7 x8 σ → wo D clA LM ad s.heap H locs (EM q ad σ) → lv_has ls 9 [(0, .ref (ad 0 0)), (1, .int x1), (2, .int x2), (3, .int x3), (4, .int x4), (5, .int x5), (6, .int x6), (7, .int x7), (8, .int x8)] → W p l e { frames := 4, cells := 0, slots := 0, locals := 101 } s m args below meth c H locs 0 0 (MQ below (zQi D clA LM ad (EM q ad) post) args s 0 0 (zA LM ad)) (F0 m 96 ls []) := by
  have hx := S.1
  have hb := S.2.1
  intro n
  induction n with
  | zero => intro x4 x5 x6 x7 x8 σ H locs ls h; exact False.elim h
  | succ n ih =>
    intro x4 x5 x6 x7 x8 σ H locs ls h  hw hl
    refine lv_iload hx hb dX9_best_96 (lv_at hl 8 rfl) ?_
    refine lv_iload_n hx hb dX9_best_98 rfl (lv_at hl 2 rfl) ?_
    refine lv_icmp_gt (tgt := 121) hx hb dX9_best_99 (by decide) (fun hc => ?_) (fun hc => ?_)
    · have h := h.1 hc
      refine lv_iload hx hb dX9_best_121 (lv_at hl 7 rfl) ?_
      refine lv_iload hx hb dX9_best_123 (lv_at hl 4 rfl) ?_
      refine lv_icmp_le (tgt := 133) hx hb dX9_best_125 (by decide) (fun hc => ?_) (fun hc => ?_)
      · have h := h.1 hc
        refine lv_iload hx hb dX9_best_133 (lv_at hl 5 rfl) ?_
        exact wk_X9_best_135 S V hr hlocks x1 x2 x3  K63 post hK63 x4 x6 x7 x5 _ _ _ _ h  hw (lv_sub hl [0, 1, 2, 3, 4, 6, 7] rfl)
      · have h := h.2 hc
        refine lv_iload hx hb dX9_best_128 (lv_at hl 6 rfl) ?_
        refine lv_goto (tgt := 135) hx hb dX9_best_130 (by decide) ?_
        exact wk_X9_best_135 S V hr hlocks x1 x2 x3  K63 post hK63 x4 x6 x7 x6 _ _ _ _ h  hw (lv_sub hl [0, 1, 2, 3, 4, 6, 7] rfl)
    · have h := h.2 hc
      refine lv_iload hx hb dX9_best_102 (lv_at hl 7 rfl) ?_
      refine lv_aload_n hx hb dX9_best_104 rfl (lv_at hl 0 rfl) ?_
      refine lv_iload hx hb dX9_best_105 (lv_at hl 8 rfl) ?_
      refine lv_iconst (v := 0) hx hb dX9_best_107 (by decide) ?_
      refine lv_iconst (v := 1) hx hb dX9_best_108 (by decide) ?_
      refine call_Vi (As := [.int x8, .int 0, .int 1]) (rest := [.int x7]) EvM_ok S V hw (mt_X9_lasts l D q ad x8 0 1  σ _ h) ok_X9_lasts ml_X9_272 (rM_0 S V hw (Nat.le_of_ble_eq_true rfl)) ⟨(Nat.le_of_ble_eq_true rfl), (Nat.le_of_ble_eq_true rfl)⟩ ⟨rfl, rfl⟩ rfl hl.1 rfl (Nat.le_of_ble_eq_true rfl) dX9_best_109 (fun r1 σ1 H locs h hw => ?_)
      refine lv_iadd hx hb dX9_best_112 ?_
      refine lv_istore (lv' := [(7, .int (x7 + r1)), (0, .ref (ad 0 0)), (1, .int x1), (2, .int x2), (3, .int x3), (4, .int x4), (5, .int x5), (6, .int x6), (8, .int x8)]) hx hb dX9_best_113 hl (by decide) rfl (fun ls hl => ?_)
      refine lv_iinc (v := (x8 + 1)) (lv' := [(8, .int (x8 + 1)), (7, .int (x7 + r1)), (0, .ref (ad 0 0)), (1, .int x1), (2, .int x2), (3, .int x3), (4, .int x4), (5, .int x5), (6, .int x6)]) hx hb dX9_best_115 hl (k := 8) rfl rfl (by decide) rfl (fun ls hl => ?_)
      refine lv_goto (tgt := 96) hx hb dX9_best_118 (by decide) ?_
      exact ih x4 x5 x6 (x7 + r1) (x8 + 1) _ _ _ _ h  hw (lv_sub hl [2, 3, 4, 5, 6, 7, 8, 1, 0] rfl)
def wp_X9_best_63 (x1 : Int32) (x2 : Int32) (x3 : Int32) (post : Int32 → St → Prop) : Nat → Int32 → Int32 → Int32 → St → Prop
  | 0 => fun _ _ _ _ => False
  | n + 1 => fun x4 x5 x6 σ => ((441 ≤ x6 → ((¬ x3 = 0 → ((¬ x3 = 1 → wp_X9_best_186 x1 x2 x3 post (x5 - x5 / 21 * 21) σ) ∧ (x3 = 1 → wp_X9_best_186 x1 x2 x3 post (x5 / 21) σ))) ∧ (x3 = 0 → wp_X9_best_186 x1 x2 x3 post x4 σ))) ∧ (¬ 441 ≤ x6 → ∃ nn, wp_X9_best_96 x1 x2 x3 (fun y0 y1 y2 τ => wp_X9_best_63 x1 x2 x3 post n y0 y1 y2 τ) post nn x4 x5 x6 0 (-x2) (su (su σ 0 0 28 (x6 / 21)) 0 0 29 (x6 - x6 / 21 * 21))))
set_option maxHeartbeats 4000000 in
set_option maxRecDepth 100000 in
theorem wk_X9_best_63 {p : Program} {l : Launch} {e : Env} {s : State} {m : MethodId} {below : List Frame} {meth : Method} {c : Code} {D : va_G} {q : ClassId × ClassId × ClassId × ClassId} {ad : Nat → Nat → Nat} {args : Array Value} (S : CallFix p m c cX9_best 9 s args GW "OnChinModel") (V : EvM D q ad s) (hr : meth.sig.returnType = (some .int)) (hlocks : meth.locks = false) (x1 : Int32) (x2 : Int32) (x3 : Int32) (post : Int32 → St → Prop)  : ∀ (n : Nat) (x4 : Int32) (x5 : Int32) (x6 : Int32) (σ : St) (H : Heap) (locs : List Loc) (ls : Array Slot), wp_X9_best_63 x1 x2 x3 post n x4 x5 x6 σ → wo D clA LM ad s.heap H locs (EM q ad σ) → lv_has ls 9 [(0, .ref (ad 0 0)), (1, .int x1), (2, .int x2), (3, .int x3), (4, .int x4), (5, .int x5), (6, .int x6)] → W p l e { frames := 4, cells := 0, slots := 0, locals := 101 } s m args below meth c H locs 0 0 (MQ below (zQi D clA LM ad (EM q ad) post) args s 0 0 (zA LM ad)) (F0 m 63 ls []) := by
  have hx := S.1
  have hb := S.2.1
  intro n
  induction n with
  | zero => intro x4 x5 x6 σ H locs ls h; exact False.elim h
  | succ n ih =>
    intro x4 x5 x6 σ H locs ls h  hw hl
    refine lv_iload hx hb dX9_best_63 (lv_at hl 6 rfl) ?_
    refine lv_sipush (v := 441) hx hb dX9_best_65 (by decide) ?_
    refine lv_icmp_ge (tgt := 159) hx hb dX9_best_68 (by decide) (fun hc => ?_) (fun hc => ?_)
    · have h := h.1 hc
      refine lv_iload_n hx hb dX9_best_159 rfl (lv_at hl 3 rfl) ?_
      refine lv_if_ne (tgt := 168) hx hb dX9_best_160 (by decide) (fun hc => ?_) (fun hc => ?_)
      · have h := h.1 hc
        refine lv_iload_n hx hb dX9_best_168 rfl (lv_at hl 3 rfl) ?_
        refine lv_iconst (v := 1) hx hb dX9_best_169 (by decide) ?_
        refine lv_icmp_ne (tgt := 181) hx hb dX9_best_170 (by decide) (fun hc => ?_) (fun hc => ?_)
        · have h := h.1 hc
          refine lv_iload hx hb dX9_best_181 (lv_at hl 5 rfl) ?_
          refine lv_bipush (v := 21) hx hb dX9_best_183 (by decide) ?_
          refine lv_irem hx hb dX9_best_185 (by decide) ?_
          exact wk_X9_best_186 S V hr hlocks x1 x2 x3   post  (x5 - x5 / 21 * 21) _ _ _ _ h  hw (lv_sub hl [0, 1, 2, 3] rfl)
        · have h := h.2 hc
          refine lv_iload hx hb dX9_best_173 (lv_at hl 5 rfl) ?_
          refine lv_bipush (v := 21) hx hb dX9_best_175 (by decide) ?_
          refine lv_idiv hx hb dX9_best_177 (by decide) ?_
          refine lv_goto (tgt := 186) hx hb dX9_best_178 (by decide) ?_
          exact wk_X9_best_186 S V hr hlocks x1 x2 x3   post  (x5 / 21) _ _ _ _ h  hw (lv_sub hl [0, 1, 2, 3] rfl)
      · have h := h.2 hc
        refine lv_iload hx hb dX9_best_163 (lv_at hl 4 rfl) ?_
        refine lv_goto (tgt := 186) hx hb dX9_best_165 (by decide) ?_
        exact wk_X9_best_186 S V hr hlocks x1 x2 x3   post  x4 _ _ _ _ h  hw (lv_sub hl [0, 1, 2, 3] rfl)
    · have h := h.2 hc
      refine lv_aload_n hx hb dX9_best_71 rfl (lv_at hl 0 rfl) ?_
      refine lv_iload hx hb dX9_best_72 (lv_at hl 6 rfl) ?_
      refine lv_bipush (v := 21) hx hb dX9_best_74 (by decide) ?_
      refine lv_idiv hx hb dX9_best_76 (by decide) ?_
      refine pM_0_28 S V hw (Nat.le_of_ble_eq_true rfl) fl_X9_201 dX9_best_77 (fun H locs hw => ?_)
      refine lv_aload_n hx hb dX9_best_80 rfl (lv_at hl 0 rfl) ?_
      refine lv_iload hx hb dX9_best_81 (lv_at hl 6 rfl) ?_
      refine lv_bipush (v := 21) hx hb dX9_best_83 (by decide) ?_
      refine lv_irem hx hb dX9_best_85 (by decide) ?_
      refine pM_0_29 S V hw (Nat.le_of_ble_eq_true rfl) fl_X9_204 dX9_best_86 (fun H locs hw => ?_)
      refine lv_iconst (v := 0) hx hb dX9_best_89 (by decide) ?_
      refine lv_istore (lv' := [(7, .int 0), (0, .ref (ad 0 0)), (1, .int x1), (2, .int x2), (3, .int x3), (4, .int x4), (5, .int x5), (6, .int x6)]) hx hb dX9_best_90 hl (by decide) rfl (fun ls hl => ?_)
      refine lv_iload_n hx hb dX9_best_92 rfl (lv_at hl 3 rfl) ?_
      refine lv_ineg hx hb dX9_best_93 ?_
      refine lv_istore (lv' := [(8, .int (-x2)), (7, .int 0), (0, .ref (ad 0 0)), (1, .int x1), (2, .int x2), (3, .int x3), (4, .int x4), (5, .int x5), (6, .int x6)]) hx hb dX9_best_94 hl (by decide) rfl (fun ls hl => ?_)
      obtain ⟨n9, h⟩ := h
      exact wk_X9_best_96 S V hr hlocks x1 x2 x3  (fun y0 y1 y2 τ => wp_X9_best_63 x1 x2 x3 post n y0 y1 y2 τ) post ih n9 x4 x5 x6 0 (-x2) _ _ _ _ h  hw (lv_sub hl [2, 3, 4, 5, 6, 7, 8, 1, 0] rfl)
def wp_X9_best (x1 : Int32) (x2 : Int32) (x3 : Int32) (post : Int32 → St → Prop)  (σ : St) : Prop := wp_X9_isThing x1 (fun r1 σ1 => ((¬ r1 = 0 → wp_X9_in (Int32.toInt64 x2) 0 4 (fun r2 σ2 => ((r2 = 0 → wp_X9_best_34 x1 x2 x3 post  σ2) ∧ (¬ r2 = 0 → wp_X9_in (Int32.toInt64 x3) 0 2 (fun r3 σ3 => ((¬ r3 = 0 → (vp_in x1 4 ∧ ((¬ (σ3 5 0 x1.toNatClampNeg) = 0 → wp_X9_asTold x1 (fun σ4 => ∃ nn, wp_X9_best_63 x1 x2 x3 post nn (-1) 0 0 σ4) σ3) ∧ ((σ3 5 0 x1.toNatClampNeg) = 0 → post (-4) σ3)))) ∧ (r3 = 0 → wp_X9_best_34 x1 x2 x3 post  σ3))) σ2))) σ1) ∧ (r1 = 0 → post (-2) σ1))) σ
set_option maxHeartbeats 4000000 in
set_option maxRecDepth 100000 in
theorem wk_X9_best_0 {p : Program} {l : Launch} {e : Env} {s : State} {m : MethodId} {below : List Frame} {meth : Method} {c : Code} {D : va_G} {q : ClassId × ClassId × ClassId × ClassId} {ad : Nat → Nat → Nat} {args : Array Value} (S : CallFix p m c cX9_best 9 s args GW "OnChinModel") (V : EvM D q ad s) (hr : meth.sig.returnType = (some .int)) (hlocks : meth.locks = false) (x1 : Int32) (x2 : Int32) (x3 : Int32) (post : Int32 → St → Prop)  : ∀ (σ : St) (H : Heap) (locs : List Loc) (ls : Array Slot), wp_X9_best x1 x2 x3 post  σ → wo D clA LM ad s.heap H locs (EM q ad σ) → lv_has ls 9 [(0, .ref (ad 0 0)), (1, .int x1), (2, .int x2), (3, .int x3)] → W p l e { frames := 4, cells := 0, slots := 0, locals := 101 } s m args below meth c H locs 0 0 (MQ below (zQi D clA LM ad (EM q ad) post) args s 0 0 (zA LM ad)) (F0 m 0 ls []) := by
  have hx := S.1
  have hb := S.2.1
  intro  σ H locs ls h  hw hl
  have h : wp_X9_isThing x1 (fun r1 σ1 => ((¬ r1 = 0 → wp_X9_in (Int32.toInt64 x2) 0 4 (fun r2 σ2 => ((r2 = 0 → wp_X9_best_34 x1 x2 x3 post  σ2) ∧ (¬ r2 = 0 → wp_X9_in (Int32.toInt64 x3) 0 2 (fun r3 σ3 => ((¬ r3 = 0 → (vp_in x1 4 ∧ ((¬ (σ3 5 0 x1.toNatClampNeg) = 0 → wp_X9_asTold x1 (fun σ4 => ∃ nn, wp_X9_best_63 x1 x2 x3 post nn (-1) 0 0 σ4) σ3) ∧ ((σ3 5 0 x1.toNatClampNeg) = 0 → post (-4) σ3)))) ∧ (r3 = 0 → wp_X9_best_34 x1 x2 x3 post  σ3))) σ2))) σ1) ∧ (r1 = 0 → post (-2) σ1))) σ := h
  refine lv_iload_n hx hb dX9_best_0 rfl (lv_at hl 1 rfl) ?_
  refine call_Si (As := [.int x1]) (rest := []) EvM_ok S V hw (mt_X9_isThing l D q ad x1  σ _ h) ok_X9_isThing ml_X9_192 ⟨(Nat.le_of_ble_eq_true rfl), (Nat.le_of_ble_eq_true rfl)⟩ ⟨rfl, rfl⟩ rfl hl.1 rfl (Nat.le_of_ble_eq_true rfl) dX9_best_1 (fun r1 σ1 H locs h hw => ?_)
  refine lv_if_ne (tgt := 10) hx hb dX9_best_4 (by decide) (fun hc => ?_) (fun hc => ?_)
  · have h := h.1 hc
    refine lv_iload_n hx hb dX9_best_10 rfl (lv_at hl 2 rfl) ?_
    refine lv_i2l (v := (Int32.toInt64 x2)) hx hb dX9_best_11 rfl ?_
    refine lv_lconst (v := 0) hx hb dX9_best_12 (by decide) ?_
    refine lv_ldc2 (v := 4) hx hb S.2.2.2.1 (gw_S S _ kc_X9_287) dX9_best_13 ?_
    refine call_Si (As := [.long (Int32.toInt64 x2), .long 0, .long 4]) (rest := []) EvM_ok S V hw (mt_X9_in l D q ad (Int32.toInt64 x2) 0 4  σ1 _ h) ok_X9_in ml_X9_92 ⟨(Nat.le_of_ble_eq_true rfl), (Nat.le_of_ble_eq_true rfl)⟩ ⟨rfl, rfl⟩ rfl hl.1 rfl (Nat.le_of_ble_eq_true rfl) dX9_best_16 (fun r2 σ2 H locs h hw => ?_)
    refine lv_if_eq (tgt := 34) hx hb dX9_best_19 (by decide) (fun hc => ?_) (fun hc => ?_)
    · have h := h.1 hc
      exact wk_X9_best_34 S V hr hlocks x1 x2 x3   post   _ _ _ _ h  hw (lv_sub hl [0, 1, 2, 3] rfl)
    · have h := h.2 hc
      refine lv_iload_n hx hb dX9_best_22 rfl (lv_at hl 3 rfl) ?_
      refine lv_i2l (v := (Int32.toInt64 x3)) hx hb dX9_best_23 rfl ?_
      refine lv_lconst (v := 0) hx hb dX9_best_24 (by decide) ?_
      refine lv_ldc2 (v := 2) hx hb S.2.2.2.1 (gw_S S _ kc_X9_289) dX9_best_25 ?_
      refine call_Si (As := [.long (Int32.toInt64 x3), .long 0, .long 2]) (rest := []) EvM_ok S V hw (mt_X9_in l D q ad (Int32.toInt64 x3) 0 2  σ2 _ h) ok_X9_in ml_X9_92 ⟨(Nat.le_of_ble_eq_true rfl), (Nat.le_of_ble_eq_true rfl)⟩ ⟨rfl, rfl⟩ rfl hl.1 rfl (Nat.le_of_ble_eq_true rfl) dX9_best_28 (fun r3 σ3 H locs h hw => ?_)
      refine lv_if_ne (tgt := 37) hx hb dX9_best_31 (by decide) (fun hc => ?_) (fun hc => ?_)
      · have h := h.1 hc
        refine lv_aload_n hx hb dX9_best_37 rfl (lv_at hl 0 rfl) ?_
        refine gM_0_6 S V hw (Nat.le_of_ble_eq_true rfl) fl_X9_22 dX9_best_38 ?_
        refine lv_iload_n hx hb dX9_best_41 rfl (lv_at hl 1 rfl) ?_
        refine aM_5 S V hw (Nat.le_of_ble_eq_true rfl) h.1 (z := (σ3 5 0 x1.toNatClampNeg)) rfl dX9_best_42 ?_
        have h := h.2
        refine lv_if_ne (tgt := 49) hx hb dX9_best_43 (by decide) (fun hc => ?_) (fun hc => ?_)
        · have h := h.1 hc
          refine lv_aload_n hx hb dX9_best_49 rfl (lv_at hl 0 rfl) ?_
          refine lv_iload_n hx hb dX9_best_50 rfl (lv_at hl 1 rfl) ?_
          refine call_Vv (As := [.int x1]) (rest := []) EvM_ok S V hw (mt_X9_asTold l D q ad x1  σ3 _ h) ok_X9_asTold ml_X9_258 (rM_0 S V hw (Nat.le_of_ble_eq_true rfl)) ⟨(Nat.le_of_ble_eq_true rfl), (Nat.le_of_ble_eq_true rfl)⟩ ⟨rfl, rfl⟩ rfl hl.1 rfl (Nat.le_of_ble_eq_true rfl) dX9_best_51 (fun σ4 H locs h hw => ?_)
          refine lv_iconst (v := (-1)) hx hb dX9_best_54 (by decide) ?_
          refine lv_istore (lv' := [(4, .int (-1)), (0, .ref (ad 0 0)), (1, .int x1), (2, .int x2), (3, .int x3)]) hx hb dX9_best_55 hl (by decide) rfl (fun ls hl => ?_)
          refine lv_iconst (v := 0) hx hb dX9_best_57 (by decide) ?_
          refine lv_istore (lv' := [(5, .int 0), (4, .int (-1)), (0, .ref (ad 0 0)), (1, .int x1), (2, .int x2), (3, .int x3)]) hx hb dX9_best_58 hl (by decide) rfl (fun ls hl => ?_)
          refine lv_iconst (v := 0) hx hb dX9_best_60 (by decide) ?_
          refine lv_istore (lv' := [(6, .int 0), (5, .int 0), (4, .int (-1)), (0, .ref (ad 0 0)), (1, .int x1), (2, .int x2), (3, .int x3)]) hx hb dX9_best_61 hl (by decide) rfl (fun ls hl => ?_)
          obtain ⟨n9, h⟩ := h
          exact wk_X9_best_63 S V hr hlocks x1 x2 x3   post  n9 (-1) 0 0 _ _ _ _ h  hw (lv_sub hl [3, 4, 5, 6, 2, 1, 0] rfl)
        · have h := h.2 hc
          refine lv_bipush (v := (-4)) hx hb dX9_best_46 (by decide) ?_
          exact ret_i S hr hlocks hw h dX9_best_48
      · have h := h.2 hc
        exact wk_X9_best_34 S V hr hlocks x1 x2 x3   post   _ _ _ _ h  hw (lv_sub hl [0, 1, 2, 3] rfl)
  · have h := h.2 hc
    refine lv_bipush (v := (-2)) hx hb dX9_best_7 (by decide) ?_
    exact ret_i S hr hlocks hw h dX9_best_9
theorem mt_X9_best (l : Launch) (D : va_G) (q : ClassId × ClassId × ClassId × ClassId) (ad : Nat → Nat → Nat) (x1 : Int32) (x2 : Int32) (x3 : Int32) (σ : St) (post : Int32 → St → Prop) (h : wp_X9_best x1 x2 x3 post σ) : cI l D clA LM ad (EM q ad) (EvM D q ad) yX9_best cX9_best 9 (some .int) { frames := 4, cells := 0, slots := 0, locals := 101 } [.ref (ad 0 0), .int x1, .int x2, .int x3] σ post :=
  ent_i (by decide) (Nat.le_of_ble_eq_true rfl) (fun p e s m below meth c S V hr hlocks hw ls hl => wk_X9_best_0 S V hr hlocks x1 x2 x3  post   σ _ _ ls h  hw (lv_sub hl [0, 1, 2, 3] rfl))
def wp_X9_divisor_4 (x0 : Int32) (x1 : Int32) (post : Int32 → St → Prop) : Nat → Int32 → Int32 → St → Prop
  | 0 => fun _ _ _ => False
  | n + 1 => fun x2 x3 σ => ((x3 = 0 → post x2 σ) ∧ (¬ x3 = 0 → (¬ x3 = 0 ∧ wp_X9_divisor_4 x0 x1 post n x3 (x2 - x2 / x3 * x3) σ)))
set_option maxHeartbeats 4000000 in
set_option maxRecDepth 100000 in
theorem wk_X9_divisor_4 {p : Program} {l : Launch} {e : Env} {s : State} {m : MethodId} {below : List Frame} {meth : Method} {c : Code} {D : va_G} {q : ClassId × ClassId × ClassId × ClassId} {ad : Nat → Nat → Nat} {args : Array Value} (S : CallFix p m c cX9_divisor 5 s args GW "OnChinModel") (V : EvM D q ad s) (hr : meth.sig.returnType = (some .int)) (hlocks : meth.locks = false) (x0 : Int32) (x1 : Int32) (post : Int32 → St → Prop)  : ∀ (n : Nat) (x2 : Int32) (x3 : Int32) (σ : St) (H : Heap) (locs : List Loc) (ls : Array Slot), wp_X9_divisor_4 x0 x1 post n x2 x3 σ → wo D clA LM ad s.heap H locs (EM q ad σ) → lv_has ls 5 [(0, .int x0), (1, .int x1), (2, .int x2), (3, .int x3)] → W p l e { frames := 0, cells := 0, slots := 0, locals := 0 } s m args below meth c H locs 0 0 (MQ below (zQi D clA LM ad (EM q ad) post) args s 0 0 (zA LM ad)) (F0 m 4 ls []) := by
  have hx := S.1
  have hb := S.2.1
  intro n
  induction n with
  | zero => intro x2 x3 σ H locs ls h; exact False.elim h
  | succ n ih =>
    intro x2 x3 σ H locs ls h  hw hl
    refine lv_iload_n hx hb dX9_divisor_4 rfl (lv_at hl 3 rfl) ?_
    refine lv_if_eq (tgt := 21) hx hb dX9_divisor_5 (by decide) (fun hc => ?_) (fun hc => ?_)
    · have h := h.1 hc
      refine lv_iload_n hx hb dX9_divisor_21 rfl (lv_at hl 2 rfl) ?_
      exact ret_i S hr hlocks hw h dX9_divisor_22
    · have h := h.2 hc
      refine lv_iload_n hx hb dX9_divisor_8 rfl (lv_at hl 2 rfl) ?_
      refine lv_iload_n hx hb dX9_divisor_9 rfl (lv_at hl 3 rfl) ?_
      refine lv_irem hx hb dX9_divisor_10 h.1 ?_
      have h := h.2
      refine lv_istore (lv' := [(4, .int (x2 - x2 / x3 * x3)), (0, .int x0), (1, .int x1), (2, .int x2), (3, .int x3)]) hx hb dX9_divisor_11 hl (by decide) rfl (fun ls hl => ?_)
      refine lv_iload_n hx hb dX9_divisor_13 rfl (lv_at hl 4 rfl) ?_
      refine lv_istore_n (lv' := [(2, .int x3), (4, .int (x2 - x2 / x3 * x3)), (0, .int x0), (1, .int x1), (3, .int x3)]) hx hb dX9_divisor_14 rfl hl (by decide) rfl (fun ls hl => ?_)
      refine lv_iload hx hb dX9_divisor_15 (lv_at hl 1 rfl) ?_
      refine lv_istore_n (lv' := [(3, .int (x2 - x2 / x3 * x3)), (2, .int x3), (4, .int (x2 - x2 / x3 * x3)), (0, .int x0), (1, .int x1)]) hx hb dX9_divisor_17 rfl hl (by decide) rfl (fun ls hl => ?_)
      refine lv_goto (tgt := 4) hx hb dX9_divisor_18 (by decide) ?_
      exact ih x3 (x2 - x2 / x3 * x3) _ _ _ _ h  hw (lv_sub hl [3, 4, 1, 0] rfl)
def wp_X9_divisor (x0 : Int32) (x1 : Int32) (post : Int32 → St → Prop)  (σ : St) : Prop := ∃ nn, wp_X9_divisor_4 x0 x1 post nn x0 x1 σ
set_option maxHeartbeats 4000000 in
set_option maxRecDepth 100000 in
theorem wk_X9_divisor_0 {p : Program} {l : Launch} {e : Env} {s : State} {m : MethodId} {below : List Frame} {meth : Method} {c : Code} {D : va_G} {q : ClassId × ClassId × ClassId × ClassId} {ad : Nat → Nat → Nat} {args : Array Value} (S : CallFix p m c cX9_divisor 5 s args GW "OnChinModel") (V : EvM D q ad s) (hr : meth.sig.returnType = (some .int)) (hlocks : meth.locks = false) (x0 : Int32) (x1 : Int32) (post : Int32 → St → Prop)  : ∀ (σ : St) (H : Heap) (locs : List Loc) (ls : Array Slot), wp_X9_divisor x0 x1 post  σ → wo D clA LM ad s.heap H locs (EM q ad σ) → lv_has ls 5 [(0, .int x0), (1, .int x1)] → W p l e { frames := 0, cells := 0, slots := 0, locals := 0 } s m args below meth c H locs 0 0 (MQ below (zQi D clA LM ad (EM q ad) post) args s 0 0 (zA LM ad)) (F0 m 0 ls []) := by
  have hx := S.1
  have hb := S.2.1
  intro  σ H locs ls h  hw hl
  refine lv_iload_n hx hb dX9_divisor_0 rfl (lv_at hl 0 rfl) ?_
  refine lv_istore_n (lv' := [(2, .int x0), (0, .int x0), (1, .int x1)]) hx hb dX9_divisor_1 rfl hl (by decide) rfl (fun ls hl => ?_)
  refine lv_iload_n hx hb dX9_divisor_2 rfl (lv_at hl 2 rfl) ?_
  refine lv_istore_n (lv' := [(3, .int x1), (2, .int x0), (0, .int x0), (1, .int x1)]) hx hb dX9_divisor_3 rfl hl (by decide) rfl (fun ls hl => ?_)
  obtain ⟨n9, h⟩ := h
  exact wk_X9_divisor_4 S V hr hlocks x0 x1   post  n9 x0 x1 _ _ _ _ h  hw (lv_sub hl [2, 3, 1, 0] rfl)
theorem mt_X9_divisor (l : Launch) (D : va_G) (q : ClassId × ClassId × ClassId × ClassId) (ad : Nat → Nat → Nat) (x0 : Int32) (x1 : Int32) (σ : St) (post : Int32 → St → Prop) (h : wp_X9_divisor x0 x1 post σ) : cI l D clA LM ad (EM q ad) (EvM D q ad) yX9_divisor cX9_divisor 5 (some .int) { frames := 0, cells := 0, slots := 0, locals := 0 } [.int x0, .int x1] σ post :=
  ent_i (by decide) (Nat.le_of_ble_eq_true rfl) (fun p e s m below meth c S V hr hlocks hw ls hl => wk_X9_divisor_0 S V hr hlocks x0 x1  post   σ _ _ ls h  hw (lv_sub hl [0, 1] rfl))
def wp_X9_weightOf_119 (x1 : Int32) (x2 : Int32) (x3 : Int32) (x4 : Int32) (x5 : Int32) (post : Int32 → St → Prop) (xs0 : Int32) (σ : St) : Prop := post xs0 σ
set_option maxHeartbeats 4000000 in
set_option maxRecDepth 100000 in
theorem wk_X9_weightOf_119 {p : Program} {l : Launch} {e : Env} {s : State} {m : MethodId} {below : List Frame} {meth : Method} {c : Code} {D : va_G} {q : ClassId × ClassId × ClassId × ClassId} {ad : Nat → Nat → Nat} {args : Array Value} (S : CallFix p m c cX9_weightOf 10 s args GW "OnChinModel") (V : EvM D q ad s) (hr : meth.sig.returnType = (some .int)) (hlocks : meth.locks = false) (x1 : Int32) (x2 : Int32) (x3 : Int32) (x4 : Int32) (x5 : Int32) (post : Int32 → St → Prop)  : ∀ (xs0 : Int32) (σ : St) (H : Heap) (locs : List Loc) (ls : Array Slot), wp_X9_weightOf_119 x1 x2 x3 x4 x5 post xs0 σ → wo D clA LM ad s.heap H locs (EM q ad σ) → lv_has ls 10 [(0, .ref (ad 0 0)), (1, .int x1), (2, .int x2), (3, .int x3), (4, .int x4), (5, .int x5)] → W p l e { frames := 3, cells := 0, slots := 0, locals := 78 } s m args below meth c H locs 0 0 (MQ below (zQi D clA LM ad (EM q ad) post) args s 0 0 (zA LM ad)) (F0 m 119 ls [.int xs0]) := by
  have hx := S.1
  have hb := S.2.1
  intro xs0 σ H locs ls h  hw hl
  exact ret_i S hr hlocks hw h dX9_weightOf_119
def wp_X9_weightOf_105 (x1 : Int32) (x2 : Int32) (x3 : Int32) (x4 : Int32) (x5 : Int32) (post : Int32 → St → Prop) (x7 : Int32) (σ : St) : Prop := wp_X9_fell 0 (fun r1 σ1 => ((r1 = 0 → wp_X9_weightOf_119 x1 x2 x3 x4 x5 post x7 σ1) ∧ (¬ r1 = 0 → wp_X9_weightOf_119 x1 x2 x3 x4 x5 post 0 σ1))) σ
set_option maxHeartbeats 4000000 in
set_option maxRecDepth 100000 in
theorem wk_X9_weightOf_105 {p : Program} {l : Launch} {e : Env} {s : State} {m : MethodId} {below : List Frame} {meth : Method} {c : Code} {D : va_G} {q : ClassId × ClassId × ClassId × ClassId} {ad : Nat → Nat → Nat} {args : Array Value} (S : CallFix p m c cX9_weightOf 10 s args GW "OnChinModel") (V : EvM D q ad s) (hr : meth.sig.returnType = (some .int)) (hlocks : meth.locks = false) (x1 : Int32) (x2 : Int32) (x3 : Int32) (x4 : Int32) (x5 : Int32) (post : Int32 → St → Prop)  : ∀ (x7 : Int32) (σ : St) (H : Heap) (locs : List Loc) (ls : Array Slot), wp_X9_weightOf_105 x1 x2 x3 x4 x5 post x7 σ → wo D clA LM ad s.heap H locs (EM q ad σ) → lv_has ls 10 [(0, .ref (ad 0 0)), (1, .int x1), (2, .int x2), (3, .int x3), (4, .int x4), (5, .int x5), (7, .int x7)] → W p l e { frames := 3, cells := 0, slots := 0, locals := 78 } s m args below meth c H locs 0 0 (MQ below (zQi D clA LM ad (EM q ad) post) args s 0 0 (zA LM ad)) (F0 m 105 ls []) := by
  have hx := S.1
  have hb := S.2.1
  intro x7 σ H locs ls h  hw hl
  have h : wp_X9_fell 0 (fun r1 σ1 => ((r1 = 0 → wp_X9_weightOf_119 x1 x2 x3 x4 x5 post x7 σ1) ∧ (¬ r1 = 0 → wp_X9_weightOf_119 x1 x2 x3 x4 x5 post 0 σ1))) σ := h
  refine lv_aload_n hx hb dX9_weightOf_105 rfl (lv_at hl 0 rfl) ?_
  refine lv_iconst (v := 0) hx hb dX9_weightOf_106 (by decide) ?_
  refine call_Vi (As := [.int 0]) (rest := []) EvM_ok S V hw (mt_X9_fell l D q ad 0  σ _ h) ok_X9_fell ml_X9_255 (rM_0 S V hw (Nat.le_of_ble_eq_true rfl)) ⟨(Nat.le_of_ble_eq_true rfl), (Nat.le_of_ble_eq_true rfl)⟩ ⟨rfl, rfl⟩ rfl hl.1 rfl (Nat.le_of_ble_eq_true rfl) dX9_weightOf_107 (fun r1 σ1 H locs h hw => ?_)
  refine lv_if_eq (tgt := 117) hx hb dX9_weightOf_110 (by decide) (fun hc => ?_) (fun hc => ?_)
  · have h := h.1 hc
    refine lv_iload hx hb dX9_weightOf_117 (lv_at hl 6 rfl) ?_
    exact wk_X9_weightOf_119 S V hr hlocks x1 x2 x3 x4 x5   post  x7 _ _ _ _ h  hw (lv_sub hl [0, 1, 2, 3, 4, 5] rfl)
  · have h := h.2 hc
    refine lv_iconst (v := 0) hx hb dX9_weightOf_113 (by decide) ?_
    refine lv_goto (tgt := 119) hx hb dX9_weightOf_114 (by decide) ?_
    exact wk_X9_weightOf_119 S V hr hlocks x1 x2 x3 x4 x5   post  0 _ _ _ _ h  hw (lv_sub hl [0, 1, 2, 3, 4, 5] rfl)
def wp_X9_weightOf_95 (x1 : Int32) (x2 : Int32) (x3 : Int32) (x4 : Int32) (x5 : Int32) (K16 : Int32 → Int32 → Int32 → St → Prop) (post : Int32 → St → Prop) (x6 : Int32) (x7 : Int32) (x8 : Int32) (xs1 : Int32) (xs2 : Int32) (xs3 : Int32) (xs4 : Int32) (σ : St) : Prop := wp_X9_tick xs1 xs2 (xs3 + xs4) (fun σ1 => K16 x6 x7 (x8 + 1) σ1) σ
set_option maxHeartbeats 4000000 in
set_option maxRecDepth 100000 in
theorem wk_X9_weightOf_95 {p : Program} {l : Launch} {e : Env} {s : State} {m : MethodId} {below : List Frame} {meth : Method} {c : Code} {D : va_G} {q : ClassId × ClassId × ClassId × ClassId} {ad : Nat → Nat → Nat} {args : Array Value} (S : CallFix p m c cX9_weightOf 10 s args GW "OnChinModel") (V : EvM D q ad s) (hr : meth.sig.returnType = (some .int)) (hlocks : meth.locks = false) (x1 : Int32) (x2 : Int32) (x3 : Int32) (x4 : Int32) (x5 : Int32) (K16 : Int32 → Int32 → Int32 → St → Prop) (post : Int32 → St → Prop) (hK16 : ∀ (x6 : Int32) (x7 : Int32) (x8 : Int32) (σ : St) (H : Heap) (locs : List Loc) (ls : Array Slot), K16 x6 x7 x8 σ → wo D clA LM ad s.heap H locs (EM q ad σ) → lv_has ls 10 [(0, .ref (ad 0 0)), (1, .int x1), (2, .int x2), (3, .int x3), (4, .int x4), (5, .int x5), (6, .int x6), (7, .int x7), (8, .int x8)] → W p l e { frames := 3, cells := 0, slots := 0, locals := 78 } s m args below meth c H locs 0 0 (MQ below (zQi D clA LM ad (EM q ad) post) args s 0 0 (zA LM ad)) (F0 m 16 ls [])) : ∀ (x6 : Int32) (x7 : Int32) (x8 : Int32) (xs1 : Int32) (xs2 : Int32) (xs3 : Int32) (xs4 : Int32) (σ : St) (H : Heap) (locs : List Loc) (ls : Array Slot), wp_X9_weightOf_95 x1 x2 x3 x4 x5 K16 post x6 x7 x8 xs1 xs2 xs3 xs4 σ → wo D clA LM ad s.heap H locs (EM q ad σ) → lv_has ls 10 [(0, .ref (ad 0 0)), (1, .int x1), (2, .int x2), (3, .int x3), (4, .int x4), (5, .int x5), (6, .int x6), (7, .int x7), (8, .int x8)] → W p l e { frames := 3, cells := 0, slots := 0, locals := 78 } s m args below meth c H locs 0 0 (MQ below (zQi D clA LM ad (EM q ad) post) args s 0 0 (zA LM ad)) (F0 m 95 ls [.int xs4, .int xs3, .int xs2, .int xs1, .ref (ad 0 0)]) := by
  have hx := S.1
  have hb := S.2.1
  intro x6 x7 x8 xs1 xs2 xs3 xs4 σ H locs ls h  hw hl
  have h : wp_X9_tick xs1 xs2 (xs3 + xs4) (fun σ1 => K16 x6 x7 (x8 + 1) σ1) σ := h
  refine lv_iadd hx hb dX9_weightOf_95 ?_
  refine call_Vv (As := [.int xs1, .int xs2, .int (xs3 + xs4)]) (rest := []) EvM_ok S V hw (mt_X9_tick l D q ad xs1 xs2 (xs3 + xs4)  σ _ h) ok_X9_tick ml_X9_261 (rM_0 S V hw (Nat.le_of_ble_eq_true rfl)) ⟨(Nat.le_of_ble_eq_true rfl), (Nat.le_of_ble_eq_true rfl)⟩ ⟨rfl, rfl⟩ rfl hl.1 rfl (Nat.le_of_ble_eq_true rfl) dX9_weightOf_96 (fun σ1 H locs h hw => ?_)
  refine lv_iinc (v := (x8 + 1)) (lv' := [(8, .int (x8 + 1)), (0, .ref (ad 0 0)), (1, .int x1), (2, .int x2), (3, .int x3), (4, .int x4), (5, .int x5), (6, .int x6), (7, .int x7)]) hx hb dX9_weightOf_99 hl (k := 8) rfl rfl (by decide) rfl (fun ls hl => ?_)
  refine lv_goto (tgt := 16) hx hb dX9_weightOf_102 (by decide) ?_
  exact hK16 x6 x7 (x8 + 1) _ _ _ _ h  hw (lv_sub hl [1, 2, 3, 4, 5, 6, 7, 8, 0] rfl)
def wp_X9_weightOf_61 (x1 : Int32) (x2 : Int32) (x3 : Int32) (x4 : Int32) (x5 : Int32) (K16 : Int32 → Int32 → Int32 → St → Prop) (post : Int32 → St → Prop) (x6 : Int32) (x8 : Int32) (x9 : Int32) (xs0 : Int32) (xs1 : Int32) (σ : St) : Prop := ((¬ x9 = 1 → ((¬ x9 = 2 → wp_X9_weightOf_95 x1 x2 x3 x4 x5 K16 post x6 (xs0 * xs1) x8 0 1 (σ 0 0 16) 0 σ) ∧ (x9 = 2 → wp_X9_weightOf_95 x1 x2 x3 x4 x5 K16 post x6 (xs0 * xs1) x8 0 1 (σ 0 0 16) (-x4) σ))) ∧ (x9 = 1 → wp_X9_weightOf_95 x1 x2 x3 x4 x5 K16 post x6 (xs0 * xs1) x8 0 1 (σ 0 0 16) x4 σ))
set_option maxHeartbeats 4000000 in
set_option maxRecDepth 100000 in
theorem wk_X9_weightOf_61 {p : Program} {l : Launch} {e : Env} {s : State} {m : MethodId} {below : List Frame} {meth : Method} {c : Code} {D : va_G} {q : ClassId × ClassId × ClassId × ClassId} {ad : Nat → Nat → Nat} {args : Array Value} (S : CallFix p m c cX9_weightOf 10 s args GW "OnChinModel") (V : EvM D q ad s) (hr : meth.sig.returnType = (some .int)) (hlocks : meth.locks = false) (x1 : Int32) (x2 : Int32) (x3 : Int32) (x4 : Int32) (x5 : Int32) (K16 : Int32 → Int32 → Int32 → St → Prop) (post : Int32 → St → Prop) (hK16 : ∀ (x6 : Int32) (x7 : Int32) (x8 : Int32) (σ : St) (H : Heap) (locs : List Loc) (ls : Array Slot), K16 x6 x7 x8 σ → wo D clA LM ad s.heap H locs (EM q ad σ) → lv_has ls 10 [(0, .ref (ad 0 0)), (1, .int x1), (2, .int x2), (3, .int x3), (4, .int x4), (5, .int x5), (6, .int x6), (7, .int x7), (8, .int x8)] → W p l e { frames := 3, cells := 0, slots := 0, locals := 78 } s m args below meth c H locs 0 0 (MQ below (zQi D clA LM ad (EM q ad) post) args s 0 0 (zA LM ad)) (F0 m 16 ls [])) : ∀ (x6 : Int32) (x8 : Int32) (x9 : Int32) (xs0 : Int32) (xs1 : Int32) (σ : St) (H : Heap) (locs : List Loc) (ls : Array Slot), wp_X9_weightOf_61 x1 x2 x3 x4 x5 K16 post x6 x8 x9 xs0 xs1 σ → wo D clA LM ad s.heap H locs (EM q ad σ) → lv_has ls 10 [(0, .ref (ad 0 0)), (1, .int x1), (2, .int x2), (3, .int x3), (4, .int x4), (5, .int x5), (6, .int x6), (8, .int x8), (9, .int x9)] → W p l e { frames := 3, cells := 0, slots := 0, locals := 78 } s m args below meth c H locs 0 0 (MQ below (zQi D clA LM ad (EM q ad) post) args s 0 0 (zA LM ad)) (F0 m 61 ls [.int xs1, .int xs0]) := by
  have hx := S.1
  have hb := S.2.1
  intro x6 x8 x9 xs0 xs1 σ H locs ls h  hw hl
  refine lv_imul hx hb dX9_weightOf_61 ?_
  refine lv_istore (lv' := [(7, .int (xs0 * xs1)), (0, .ref (ad 0 0)), (1, .int x1), (2, .int x2), (3, .int x3), (4, .int x4), (5, .int x5), (6, .int x6), (8, .int x8), (9, .int x9)]) hx hb dX9_weightOf_62 hl (by decide) rfl (fun ls hl => ?_)
  refine lv_aload_n hx hb dX9_weightOf_64 rfl (lv_at hl 1 rfl) ?_
  refine lv_iconst (v := 0) hx hb dX9_weightOf_65 (by decide) ?_
  refine lv_iconst (v := 1) hx hb dX9_weightOf_66 (by decide) ?_
  refine lv_aload_n hx hb dX9_weightOf_67 rfl (lv_at hl 1 rfl) ?_
  refine gM_0_16 S V hw (Nat.le_of_ble_eq_true rfl) fl_X9_177 rfl dX9_weightOf_68 ?_
  refine lv_iload hx hb dX9_weightOf_71 (lv_at hl 9 rfl) ?_
  refine lv_iconst (v := 1) hx hb dX9_weightOf_73 (by decide) ?_
  refine lv_icmp_ne (tgt := 82) hx hb dX9_weightOf_74 (by decide) (fun hc => ?_) (fun hc => ?_)
  · have h := h.1 hc
    refine lv_iload hx hb dX9_weightOf_82 (lv_at hl 9 rfl) ?_
    refine lv_iconst (v := 2) hx hb dX9_weightOf_84 (by decide) ?_
    refine lv_icmp_ne (tgt := 94) hx hb dX9_weightOf_85 (by decide) (fun hc => ?_) (fun hc => ?_)
    · have h := h.1 hc
      refine lv_iconst (v := 0) hx hb dX9_weightOf_94 (by decide) ?_
      exact wk_X9_weightOf_95 S V hr hlocks x1 x2 x3 x4 x5  K16 post hK16 x6 (xs0 * xs1) x8 0 1 (σ 0 0 16) 0 _ _ _ _ h  hw (lv_sub hl [1, 2, 3, 4, 5, 6, 7, 0, 8] rfl)
    · have h := h.2 hc
      refine lv_iload hx hb dX9_weightOf_88 (lv_at hl 5 rfl) ?_
      refine lv_ineg hx hb dX9_weightOf_90 ?_
      refine lv_goto (tgt := 95) hx hb dX9_weightOf_91 (by decide) ?_
      exact wk_X9_weightOf_95 S V hr hlocks x1 x2 x3 x4 x5  K16 post hK16 x6 (xs0 * xs1) x8 0 1 (σ 0 0 16) (-x4) _ _ _ _ h  hw (lv_sub hl [1, 2, 3, 4, 5, 6, 7, 0, 8] rfl)
  · have h := h.2 hc
    refine lv_iload hx hb dX9_weightOf_77 (lv_at hl 5 rfl) ?_
    refine lv_goto (tgt := 95) hx hb dX9_weightOf_79 (by decide) ?_
    exact wk_X9_weightOf_95 S V hr hlocks x1 x2 x3 x4 x5  K16 post hK16 x6 (xs0 * xs1) x8 0 1 (σ 0 0 16) x4 _ _ _ _ h  hw (lv_sub hl [1, 2, 3, 4, 5, 6, 7, 0, 8] rfl)
def wp_X9_weightOf_16 (x1 : Int32) (x2 : Int32) (x3 : Int32) (x4 : Int32) (x5 : Int32) (post : Int32 → St → Prop) : Nat → Int32 → Int32 → Int32 → St → Prop
  | 0 => fun _ _ _ _ => False
  | n + 1 => fun x6 x7 x8 σ => ((x3 ≤ x8 → wp_X9_weightOf_105 x1 x2 x3 x4 x5 post x7 σ) ∧ (¬ x3 ≤ x8 → wp_X9_fell 0 (fun r1 σ1 => ((¬ r1 = 0 → wp_X9_weightOf_105 x1 x2 x3 x4 x5 post x7 σ1) ∧ (r1 = 0 → ((¬ (x6 - x6 / 3 * 3) = 0 → wp_X9_weightOf_61 x1 x2 x3 x4 x5 (fun y0 y1 y2 τ => wp_X9_weightOf_16 x1 x2 x3 x4 x5 post n y0 y1 y2 τ) post (x6 / 3) x8 (x6 - x6 / 3 * 3) x7 x5 σ1) ∧ ((x6 - x6 / 3 * 3) = 0 → wp_X9_weightOf_61 x1 x2 x3 x4 x5 (fun y0 y1 y2 τ => wp_X9_weightOf_16 x1 x2 x3 x4 x5 post n y0 y1 y2 τ) post (x6 / 3) x8 (x6 - x6 / 3 * 3) x7 (10 - (2 * x5)) σ1))))) σ))
set_option maxHeartbeats 4000000 in
set_option maxRecDepth 100000 in
theorem wk_X9_weightOf_16 {p : Program} {l : Launch} {e : Env} {s : State} {m : MethodId} {below : List Frame} {meth : Method} {c : Code} {D : va_G} {q : ClassId × ClassId × ClassId × ClassId} {ad : Nat → Nat → Nat} {args : Array Value} (S : CallFix p m c cX9_weightOf 10 s args GW "OnChinModel") (V : EvM D q ad s) (hr : meth.sig.returnType = (some .int)) (hlocks : meth.locks = false) (x1 : Int32) (x2 : Int32) (x3 : Int32) (x4 : Int32) (x5 : Int32) (post : Int32 → St → Prop)  : ∀ (n : Nat) (x6 : Int32) (x7 : Int32) (x8 : Int32) (σ : St) (H : Heap) (locs : List Loc) (ls : Array Slot), wp_X9_weightOf_16 x1 x2 x3 x4 x5 post n x6 x7 x8 σ → wo D clA LM ad s.heap H locs (EM q ad σ) → lv_has ls 10 [(0, .ref (ad 0 0)), (1, .int x1), (2, .int x2), (3, .int x3), (4, .int x4), (5, .int x5), (6, .int x6), (7, .int x7), (8, .int x8)] → W p l e { frames := 3, cells := 0, slots := 0, locals := 78 } s m args below meth c H locs 0 0 (MQ below (zQi D clA LM ad (EM q ad) post) args s 0 0 (zA LM ad)) (F0 m 16 ls []) := by
  have hx := S.1
  have hb := S.2.1
  intro n
  induction n with
  | zero => intro x6 x7 x8 σ H locs ls h; exact False.elim h
  | succ n ih =>
    intro x6 x7 x8 σ H locs ls h  hw hl
    refine lv_iload hx hb dX9_weightOf_16 (lv_at hl 8 rfl) ?_
    refine lv_iload_n hx hb dX9_weightOf_18 rfl (lv_at hl 3 rfl) ?_
    refine lv_icmp_ge (tgt := 105) hx hb dX9_weightOf_19 (by decide) (fun hc => ?_) (fun hc => ?_)
    · have h := h.1 hc
      exact wk_X9_weightOf_105 S V hr hlocks x1 x2 x3 x4 x5   post  x7 _ _ _ _ h  hw (lv_sub hl [0, 1, 2, 3, 4, 5, 7] rfl)
    · have h := h.2 hc
      refine lv_aload_n hx hb dX9_weightOf_22 rfl (lv_at hl 0 rfl) ?_
      refine lv_iconst (v := 0) hx hb dX9_weightOf_23 (by decide) ?_
      refine call_Vi (As := [.int 0]) (rest := []) EvM_ok S V hw (mt_X9_fell l D q ad 0  σ _ h) ok_X9_fell ml_X9_255 (rM_0 S V hw (Nat.le_of_ble_eq_true rfl)) ⟨(Nat.le_of_ble_eq_true rfl), (Nat.le_of_ble_eq_true rfl)⟩ ⟨rfl, rfl⟩ rfl hl.1 rfl (Nat.le_of_ble_eq_true rfl) dX9_weightOf_24 (fun r1 σ1 H locs h hw => ?_)
      refine lv_if_ne (tgt := 105) hx hb dX9_weightOf_27 (by decide) (fun hc => ?_) (fun hc => ?_)
      · have h := h.1 hc
        exact wk_X9_weightOf_105 S V hr hlocks x1 x2 x3 x4 x5   post  x7 _ _ _ _ h  hw (lv_sub hl [0, 1, 2, 3, 4, 5, 7] rfl)
      · have h := h.2 hc
        refine lv_iload hx hb dX9_weightOf_30 (lv_at hl 6 rfl) ?_
        refine lv_iconst (v := 3) hx hb dX9_weightOf_32 (by decide) ?_
        refine lv_irem hx hb dX9_weightOf_33 (by decide) ?_
        refine lv_istore (lv' := [(9, .int (x6 - x6 / 3 * 3)), (0, .ref (ad 0 0)), (1, .int x1), (2, .int x2), (3, .int x3), (4, .int x4), (5, .int x5), (6, .int x6), (7, .int x7), (8, .int x8)]) hx hb dX9_weightOf_34 hl (by decide) rfl (fun ls hl => ?_)
        refine lv_iload hx hb dX9_weightOf_36 (lv_at hl 7 rfl) ?_
        refine lv_iconst (v := 3) hx hb dX9_weightOf_38 (by decide) ?_
        refine lv_idiv hx hb dX9_weightOf_39 (by decide) ?_
        refine lv_istore (lv' := [(6, .int (x6 / 3)), (9, .int (x6 - x6 / 3 * 3)), (0, .ref (ad 0 0)), (1, .int x1), (2, .int x2), (3, .int x3), (4, .int x4), (5, .int x5), (7, .int x7), (8, .int x8)]) hx hb dX9_weightOf_40 hl (by decide) rfl (fun ls hl => ?_)
        refine lv_iload hx hb dX9_weightOf_42 (lv_at hl 8 rfl) ?_
        refine lv_iload hx hb dX9_weightOf_44 (lv_at hl 1 rfl) ?_
        refine lv_if_ne (tgt := 59) hx hb dX9_weightOf_46 (by decide) (fun hc => ?_) (fun hc => ?_)
        · have h := h.1 hc
          refine lv_iload hx hb dX9_weightOf_59 (lv_at hl 7 rfl) ?_
          exact wk_X9_weightOf_61 S V hr hlocks x1 x2 x3 x4 x5  (fun y0 y1 y2 τ => wp_X9_weightOf_16 x1 x2 x3 x4 x5 post n y0 y1 y2 τ) post ih (x6 / 3) x8 (x6 - x6 / 3 * 3) x7 x5 _ _ _ _ h  hw (lv_sub hl [2, 3, 4, 5, 6, 7, 0, 9, 1] rfl)
        · have h := h.2 hc
          refine lv_bipush (v := 10) hx hb dX9_weightOf_49 (by decide) ?_
          refine lv_iconst (v := 2) hx hb dX9_weightOf_51 (by decide) ?_
          refine lv_iload hx hb dX9_weightOf_52 (lv_at hl 7 rfl) ?_
          refine lv_imul hx hb dX9_weightOf_54 ?_
          refine lv_isub hx hb dX9_weightOf_55 ?_
          refine lv_goto (tgt := 61) hx hb dX9_weightOf_56 (by decide) ?_
          exact wk_X9_weightOf_61 S V hr hlocks x1 x2 x3 x4 x5  (fun y0 y1 y2 τ => wp_X9_weightOf_16 x1 x2 x3 x4 x5 post n y0 y1 y2 τ) post ih (x6 / 3) x8 (x6 - x6 / 3 * 3) x7 (10 - (2 * x5)) _ _ _ _ h  hw (lv_sub hl [2, 3, 4, 5, 6, 7, 0, 9, 1] rfl)
def wp_X9_weightOf (x1 : Int32) (x2 : Int32) (x3 : Int32) (x4 : Int32) (x5 : Int32) (post : Int32 → St → Prop)  (σ : St) : Prop := wp_X9_start 0 x2 0 (fun σ1 => ∃ nn, wp_X9_weightOf_16 x1 x2 x3 x4 x5 post nn x1 1 0 σ1) σ
set_option maxHeartbeats 4000000 in
set_option maxRecDepth 100000 in
theorem wk_X9_weightOf_0 {p : Program} {l : Launch} {e : Env} {s : State} {m : MethodId} {below : List Frame} {meth : Method} {c : Code} {D : va_G} {q : ClassId × ClassId × ClassId × ClassId} {ad : Nat → Nat → Nat} {args : Array Value} (S : CallFix p m c cX9_weightOf 10 s args GW "OnChinModel") (V : EvM D q ad s) (hr : meth.sig.returnType = (some .int)) (hlocks : meth.locks = false) (x1 : Int32) (x2 : Int32) (x3 : Int32) (x4 : Int32) (x5 : Int32) (post : Int32 → St → Prop)  : ∀ (σ : St) (H : Heap) (locs : List Loc) (ls : Array Slot), wp_X9_weightOf x1 x2 x3 x4 x5 post  σ → wo D clA LM ad s.heap H locs (EM q ad σ) → lv_has ls 10 [(0, .ref (ad 0 0)), (1, .int x1), (2, .int x2), (3, .int x3), (4, .int x4), (5, .int x5)] → W p l e { frames := 3, cells := 0, slots := 0, locals := 78 } s m args below meth c H locs 0 0 (MQ below (zQi D clA LM ad (EM q ad) post) args s 0 0 (zA LM ad)) (F0 m 0 ls []) := by
  have hx := S.1
  have hb := S.2.1
  intro  σ H locs ls h  hw hl
  have h : wp_X9_start 0 x2 0 (fun σ1 => ∃ nn, wp_X9_weightOf_16 x1 x2 x3 x4 x5 post nn x1 1 0 σ1) σ := h
  refine lv_aload_n hx hb dX9_weightOf_0 rfl (lv_at hl 0 rfl) ?_
  refine lv_iconst (v := 0) hx hb dX9_weightOf_1 (by decide) ?_
  refine lv_iload_n hx hb dX9_weightOf_2 rfl (lv_at hl 2 rfl) ?_
  refine lv_iconst (v := 0) hx hb dX9_weightOf_3 (by decide) ?_
  refine call_Vv (As := [.int 0, .int x2, .int 0]) (rest := []) EvM_ok S V hw (mt_X9_start l D q ad 0 x2 0  σ _ h) ok_X9_start ml_X9_249 (rM_0 S V hw (Nat.le_of_ble_eq_true rfl)) ⟨(Nat.le_of_ble_eq_true rfl), (Nat.le_of_ble_eq_true rfl)⟩ ⟨rfl, rfl⟩ rfl hl.1 rfl (Nat.le_of_ble_eq_true rfl) dX9_weightOf_4 (fun σ1 H locs h hw => ?_)
  refine lv_iload_n hx hb dX9_weightOf_7 rfl (lv_at hl 1 rfl) ?_
  refine lv_istore (lv' := [(6, .int x1), (0, .ref (ad 0 0)), (1, .int x1), (2, .int x2), (3, .int x3), (4, .int x4), (5, .int x5)]) hx hb dX9_weightOf_8 hl (by decide) rfl (fun ls hl => ?_)
  refine lv_iconst (v := 1) hx hb dX9_weightOf_10 (by decide) ?_
  refine lv_istore (lv' := [(7, .int 1), (6, .int x1), (0, .ref (ad 0 0)), (1, .int x1), (2, .int x2), (3, .int x3), (4, .int x4), (5, .int x5)]) hx hb dX9_weightOf_11 hl (by decide) rfl (fun ls hl => ?_)
  refine lv_iconst (v := 0) hx hb dX9_weightOf_13 (by decide) ?_
  refine lv_istore (lv' := [(8, .int 0), (7, .int 1), (6, .int x1), (0, .ref (ad 0 0)), (1, .int x1), (2, .int x2), (3, .int x3), (4, .int x4), (5, .int x5)]) hx hb dX9_weightOf_14 hl (by decide) rfl (fun ls hl => ?_)
  obtain ⟨n9, h⟩ := h
  exact wk_X9_weightOf_16 S V hr hlocks x1 x2 x3 x4 x5   post  n9 x1 1 0 _ _ _ _ h  hw (lv_sub hl [3, 4, 5, 6, 7, 8, 2, 1, 0] rfl)
theorem mt_X9_weightOf (l : Launch) (D : va_G) (q : ClassId × ClassId × ClassId × ClassId) (ad : Nat → Nat → Nat) (x1 : Int32) (x2 : Int32) (x3 : Int32) (x4 : Int32) (x5 : Int32) (σ : St) (post : Int32 → St → Prop) (h : wp_X9_weightOf x1 x2 x3 x4 x5 post σ) : cI l D clA LM ad (EM q ad) (EvM D q ad) yX9_weightOf cX9_weightOf 10 (some .int) { frames := 3, cells := 0, slots := 0, locals := 78 } [.ref (ad 0 0), .int x1, .int x2, .int x3, .int x4, .int x5] σ post :=
  ent_i (by decide) (Nat.le_of_ble_eq_true rfl) (fun p e s m below meth c S V hr hlocks hw ls hl => wk_X9_weightOf_0 S V hr hlocks x1 x2 x3 x4 x5  post   σ _ _ ls h  hw (lv_sub hl [0, 1, 2, 3, 4, 5] rfl))
def wp_X9_odds_66 (x1 : Int32) (x2 : Int32) (x3 : Int32) (x4 : Int32) (x5 : Int32) (x6 : Int32) (post : Int32 → St → Prop)  (σ : St) : Prop := post (-3) σ
set_option maxHeartbeats 4000000 in
set_option maxRecDepth 100000 in
theorem wk_X9_odds_66 {p : Program} {l : Launch} {e : Env} {s : State} {m : MethodId} {below : List Frame} {meth : Method} {c : Code} {D : va_G} {q : ClassId × ClassId × ClassId × ClassId} {ad : Nat → Nat → Nat} {args : Array Value} (S : CallFix p m c cX9_odds 11 s args GW "OnChinModel") (V : EvM D q ad s) (hr : meth.sig.returnType = (some .int)) (hlocks : meth.locks = false) (x1 : Int32) (x2 : Int32) (x3 : Int32) (x4 : Int32) (x5 : Int32) (x6 : Int32) (post : Int32 → St → Prop)  : ∀ (σ : St) (H : Heap) (locs : List Loc) (ls : Array Slot), wp_X9_odds_66 x1 x2 x3 x4 x5 x6 post  σ → wo D clA LM ad s.heap H locs (EM q ad σ) → lv_has ls 11 [(0, .ref (ad 0 0)), (1, .int x1), (2, .int x2), (3, .int x3), (4, .int x4), (5, .int x5), (6, .int x6)] → W p l e { frames := 4, cells := 0, slots := 0, locals := 107 } s m args below meth c H locs 0 0 (MQ below (zQi D clA LM ad (EM q ad) post) args s 0 0 (zA LM ad)) (F0 m 66 ls []) := by
  have hx := S.1
  have hb := S.2.1
  intro  σ H locs ls h  hw hl
  refine lv_bipush (v := (-3)) hx hb dX9_odds_66 (by decide) ?_
  exact ret_i S hr hlocks hw h dX9_odds_68
def wp_X9_odds_183 (x1 : Int32) (x2 : Int32) (x3 : Int32) (x4 : Int32) (x5 : Int32) (x6 : Int32) (post : Int32 → St → Prop) (xs0 : Int32) (σ : St) : Prop := post xs0 σ
set_option maxHeartbeats 4000000 in
set_option maxRecDepth 100000 in
theorem wk_X9_odds_183 {p : Program} {l : Launch} {e : Env} {s : State} {m : MethodId} {below : List Frame} {meth : Method} {c : Code} {D : va_G} {q : ClassId × ClassId × ClassId × ClassId} {ad : Nat → Nat → Nat} {args : Array Value} (S : CallFix p m c cX9_odds 11 s args GW "OnChinModel") (V : EvM D q ad s) (hr : meth.sig.returnType = (some .int)) (hlocks : meth.locks = false) (x1 : Int32) (x2 : Int32) (x3 : Int32) (x4 : Int32) (x5 : Int32) (x6 : Int32) (post : Int32 → St → Prop)  : ∀ (xs0 : Int32) (σ : St) (H : Heap) (locs : List Loc) (ls : Array Slot), wp_X9_odds_183 x1 x2 x3 x4 x5 x6 post xs0 σ → wo D clA LM ad s.heap H locs (EM q ad σ) → lv_has ls 11 [(0, .ref (ad 0 0)), (1, .int x1), (2, .int x2), (3, .int x3), (4, .int x4), (5, .int x5), (6, .int x6)] → W p l e { frames := 4, cells := 0, slots := 0, locals := 107 } s m args below meth c H locs 0 0 (MQ below (zQi D clA LM ad (EM q ad) post) args s 0 0 (zA LM ad)) (F0 m 183 ls [.int xs0]) := by
  have hx := S.1
  have hb := S.2.1
  intro xs0 σ H locs ls h  hw hl
  exact ret_i S hr hlocks hw h dX9_odds_183
def wp_X9_odds_126 (x1 : Int32) (x2 : Int32) (x3 : Int32) (x4 : Int32) (x5 : Int32) (x6 : Int32) (post : Int32 → St → Prop) : Nat → Int32 → Int32 → Int32 → Int32 → St → Prop
  | 0 => fun _ _ _ _ _ => False
  | n + 1 => fun x7 x8 x9 x10 σ => ((x7 ≤ x10 → wp_X9_divisor x9 x8 (fun r1 σ1 => ((¬ x6 = 0 → (¬ r1 = 0 ∧ wp_X9_odds_183 x1 x2 x3 x4 x5 x6 post (x8 / r1) σ1)) ∧ (x6 = 0 → (¬ r1 = 0 ∧ wp_X9_odds_183 x1 x2 x3 x4 x5 x6 post (x9 / r1) σ1)))) σ) ∧ (¬ x7 ≤ x10 → wp_X9_weightOf x10 x2 x3 x4 x5 (fun r2 σ2 => wp_X9_odds_126 x1 x2 x3 x4 x5 x6 post n x7 x8 (x9 + r2) (x10 + 1) σ2) σ))
set_option maxHeartbeats 4000000 in
set_option maxRecDepth 100000 in
theorem wk_X9_odds_126 {p : Program} {l : Launch} {e : Env} {s : State} {m : MethodId} {below : List Frame} {meth : Method} {c : Code} {D : va_G} {q : ClassId × ClassId × ClassId × ClassId} {ad : Nat → Nat → Nat} {args : Array Value} (S : CallFix p m c cX9_odds 11 s args GW "OnChinModel") (V : EvM D q ad s) (hr : meth.sig.returnType = (some .int)) (hlocks : meth.locks = false) (x1 : Int32) (x2 : Int32) (x3 : Int32) (x4 : Int32) (x5 : Int32) (x6 : Int32) (post : Int32 → St → Prop)  : ∀ (n : Nat) (x7 : Int32) (x8 : Int32) (x9 : Int32) (x10 : Int32) (σ : St) (H : Heap) (locs : List Loc) (ls : Array Slot), wp_X9_odds_126 x1 x2 x3 x4 x5 x6 post n x7 x8 x9 x10 σ → wo D clA LM ad s.heap H locs (EM q ad σ) → lv_has ls 11 [(0, .ref (ad 0 0)), (1, .int x1), (2, .int x2), (3, .int x3), (4, .int x4), (5, .int x5), (6, .int x6), (7, .int x7), (8, .int x8), (9, .int x9), (10, .int x10)] → W p l e { frames := 4, cells := 0, slots := 0, locals := 107 } s m args below meth c H locs 0 0 (MQ below (zQi D clA LM ad (EM q ad) post) args s 0 0 (zA LM ad)) (F0 m 126 ls []) := by
  have hx := S.1
  have hb := S.2.1
  intro n
  induction n with
  | zero => intro x7 x8 x9 x10 σ H locs ls h; exact False.elim h
  | succ n ih =>
    intro x7 x8 x9 x10 σ H locs ls h  hw hl
    refine lv_iload hx hb dX9_odds_126 (lv_at hl 10 rfl) ?_
    refine lv_iload hx hb dX9_odds_128 (lv_at hl 7 rfl) ?_
    refine lv_icmp_ge (tgt := 156) hx hb dX9_odds_130 (by decide) (fun hc => ?_) (fun hc => ?_)
    · have h := h.1 hc
      refine lv_iload hx hb dX9_odds_156 (lv_at hl 9 rfl) ?_
      refine lv_iload hx hb dX9_odds_158 (lv_at hl 8 rfl) ?_
      refine call_Si (As := [.int x9, .int x8]) (rest := []) EvM_ok S V hw (mt_X9_divisor l D q ad x9 x8  σ _ h) ok_X9_divisor ml_X9_297 ⟨(Nat.le_of_ble_eq_true rfl), (Nat.le_of_ble_eq_true rfl)⟩ ⟨rfl, rfl⟩ rfl hl.1 rfl (Nat.le_of_ble_eq_true rfl) dX9_odds_160 (fun r1 σ1 H locs h hw => ?_)
      refine lv_istore (lv' := [(10, .int r1), (0, .ref (ad 0 0)), (1, .int x1), (2, .int x2), (3, .int x3), (4, .int x4), (5, .int x5), (6, .int x6), (7, .int x7), (8, .int x8), (9, .int x9)]) hx hb dX9_odds_163 hl (by decide) rfl (fun ls hl => ?_)
      refine lv_iload hx hb dX9_odds_165 (lv_at hl 7 rfl) ?_
      refine lv_if_ne (tgt := 178) hx hb dX9_odds_167 (by decide) (fun hc => ?_) (fun hc => ?_)
      · have h := h.1 hc
        refine lv_iload hx hb dX9_odds_178 (lv_at hl 9 rfl) ?_
        refine lv_iload hx hb dX9_odds_180 (lv_at hl 0 rfl) ?_
        refine lv_idiv hx hb dX9_odds_182 h.1 ?_
        have h := h.2
        exact wk_X9_odds_183 S V hr hlocks x1 x2 x3 x4 x5 x6   post  (x8 / r1) _ _ _ _ h  hw (lv_sub hl [1, 2, 3, 4, 5, 6, 7] rfl)
      · have h := h.2 hc
        refine lv_iload hx hb dX9_odds_170 (lv_at hl 10 rfl) ?_
        refine lv_iload hx hb dX9_odds_172 (lv_at hl 0 rfl) ?_
        refine lv_idiv hx hb dX9_odds_174 h.1 ?_
        have h := h.2
        refine lv_goto (tgt := 183) hx hb dX9_odds_175 (by decide) ?_
        exact wk_X9_odds_183 S V hr hlocks x1 x2 x3 x4 x5 x6   post  (x9 / r1) _ _ _ _ h  hw (lv_sub hl [1, 2, 3, 4, 5, 6, 7] rfl)
    · have h := h.2 hc
      refine lv_iload hx hb dX9_odds_133 (lv_at hl 9 rfl) ?_
      refine lv_aload_n hx hb dX9_odds_135 rfl (lv_at hl 0 rfl) ?_
      refine lv_iload hx hb dX9_odds_136 (lv_at hl 10 rfl) ?_
      refine lv_iload_n hx hb dX9_odds_138 rfl (lv_at hl 2 rfl) ?_
      refine lv_iload_n hx hb dX9_odds_139 rfl (lv_at hl 3 rfl) ?_
      refine lv_iload hx hb dX9_odds_140 (lv_at hl 4 rfl) ?_
      refine lv_iload hx hb dX9_odds_142 (lv_at hl 5 rfl) ?_
      refine call_Vi (As := [.int x10, .int x2, .int x3, .int x4, .int x5]) (rest := [.int x9]) EvM_ok S V hw (mt_X9_weightOf l D q ad x10 x2 x3 x4 x5  σ _ h) ok_X9_weightOf ml_X9_293 (rM_0 S V hw (Nat.le_of_ble_eq_true rfl)) ⟨(Nat.le_of_ble_eq_true rfl), (Nat.le_of_ble_eq_true rfl)⟩ ⟨rfl, rfl⟩ rfl hl.1 rfl (Nat.le_of_ble_eq_true rfl) dX9_odds_144 (fun r2 σ2 H locs h hw => ?_)
      refine lv_iadd hx hb dX9_odds_147 ?_
      refine lv_istore (lv' := [(9, .int (x9 + r2)), (0, .ref (ad 0 0)), (1, .int x1), (2, .int x2), (3, .int x3), (4, .int x4), (5, .int x5), (6, .int x6), (7, .int x7), (8, .int x8), (10, .int x10)]) hx hb dX9_odds_148 hl (by decide) rfl (fun ls hl => ?_)
      refine lv_iinc (v := (x10 + 1)) (lv' := [(10, .int (x10 + 1)), (9, .int (x9 + r2)), (0, .ref (ad 0 0)), (1, .int x1), (2, .int x2), (3, .int x3), (4, .int x4), (5, .int x5), (6, .int x6), (7, .int x7), (8, .int x8)]) hx hb dX9_odds_150 hl (k := 10) rfl rfl (by decide) rfl (fun ls hl => ?_)
      refine lv_goto (tgt := 126) hx hb dX9_odds_153 (by decide) ?_
      exact ih x7 x8 (x9 + r2) (x10 + 1) _ _ _ _ h  hw (lv_sub hl [2, 3, 4, 5, 6, 7, 8, 9, 10, 1, 0] rfl)
def wp_X9_odds_95 (x1 : Int32) (x2 : Int32) (x3 : Int32) (x4 : Int32) (x5 : Int32) (x6 : Int32) (post : Int32 → St → Prop) : Nat → Int32 → Int32 → Int32 → St → Prop
  | 0 => fun _ _ _ _ => False
  | n + 1 => fun x7 x8 x9 σ => ((x3 ≤ x9 → ∃ nn, wp_X9_odds_126 x1 x2 x3 x4 x5 x6 post nn x7 x8 0 0 σ) ∧ (¬ x3 ≤ x9 → wp_X9_odds_95 x1 x2 x3 x4 x5 x6 post n (x7 * 3) (x8 * 10) (x9 + 1) σ))
set_option maxHeartbeats 4000000 in
set_option maxRecDepth 100000 in
theorem wk_X9_odds_95 {p : Program} {l : Launch} {e : Env} {s : State} {m : MethodId} {below : List Frame} {meth : Method} {c : Code} {D : va_G} {q : ClassId × ClassId × ClassId × ClassId} {ad : Nat → Nat → Nat} {args : Array Value} (S : CallFix p m c cX9_odds 11 s args GW "OnChinModel") (V : EvM D q ad s) (hr : meth.sig.returnType = (some .int)) (hlocks : meth.locks = false) (x1 : Int32) (x2 : Int32) (x3 : Int32) (x4 : Int32) (x5 : Int32) (x6 : Int32) (post : Int32 → St → Prop)  : ∀ (n : Nat) (x7 : Int32) (x8 : Int32) (x9 : Int32) (σ : St) (H : Heap) (locs : List Loc) (ls : Array Slot), wp_X9_odds_95 x1 x2 x3 x4 x5 x6 post n x7 x8 x9 σ → wo D clA LM ad s.heap H locs (EM q ad σ) → lv_has ls 11 [(0, .ref (ad 0 0)), (1, .int x1), (2, .int x2), (3, .int x3), (4, .int x4), (5, .int x5), (6, .int x6), (7, .int x7), (8, .int x8), (9, .int x9)] → W p l e { frames := 4, cells := 0, slots := 0, locals := 107 } s m args below meth c H locs 0 0 (MQ below (zQi D clA LM ad (EM q ad) post) args s 0 0 (zA LM ad)) (F0 m 95 ls []) := by
  have hx := S.1
  have hb := S.2.1
  intro n
  induction n with
  | zero => intro x7 x8 x9 σ H locs ls h; exact False.elim h
  | succ n ih =>
    intro x7 x8 x9 σ H locs ls h  hw hl
    refine lv_iload hx hb dX9_odds_95 (lv_at hl 9 rfl) ?_
    refine lv_iload_n hx hb dX9_odds_97 rfl (lv_at hl 3 rfl) ?_
    refine lv_icmp_ge (tgt := 120) hx hb dX9_odds_98 (by decide) (fun hc => ?_) (fun hc => ?_)
    · have h := h.1 hc
      refine lv_iconst (v := 0) hx hb dX9_odds_120 (by decide) ?_
      refine lv_istore (lv' := [(9, .int 0), (0, .ref (ad 0 0)), (1, .int x1), (2, .int x2), (3, .int x3), (4, .int x4), (5, .int x5), (6, .int x6), (7, .int x7), (8, .int x8)]) hx hb dX9_odds_121 hl (by decide) rfl (fun ls hl => ?_)
      refine lv_iconst (v := 0) hx hb dX9_odds_123 (by decide) ?_
      refine lv_istore (lv' := [(10, .int 0), (9, .int 0), (0, .ref (ad 0 0)), (1, .int x1), (2, .int x2), (3, .int x3), (4, .int x4), (5, .int x5), (6, .int x6), (7, .int x7), (8, .int x8)]) hx hb dX9_odds_124 hl (by decide) rfl (fun ls hl => ?_)
      obtain ⟨n9, h⟩ := h
      exact wk_X9_odds_126 S V hr hlocks x1 x2 x3 x4 x5 x6   post  n9 x7 x8 0 0 _ _ _ _ h  hw (lv_sub hl [2, 3, 4, 5, 6, 7, 8, 9, 10, 1, 0] rfl)
    · have h := h.2 hc
      refine lv_iload hx hb dX9_odds_101 (lv_at hl 7 rfl) ?_
      refine lv_iconst (v := 3) hx hb dX9_odds_103 (by decide) ?_
      refine lv_imul hx hb dX9_odds_104 ?_
      refine lv_istore (lv' := [(7, .int (x7 * 3)), (0, .ref (ad 0 0)), (1, .int x1), (2, .int x2), (3, .int x3), (4, .int x4), (5, .int x5), (6, .int x6), (8, .int x8), (9, .int x9)]) hx hb dX9_odds_105 hl (by decide) rfl (fun ls hl => ?_)
      refine lv_iload hx hb dX9_odds_107 (lv_at hl 8 rfl) ?_
      refine lv_bipush (v := 10) hx hb dX9_odds_109 (by decide) ?_
      refine lv_imul hx hb dX9_odds_111 ?_
      refine lv_istore (lv' := [(8, .int (x8 * 10)), (7, .int (x7 * 3)), (0, .ref (ad 0 0)), (1, .int x1), (2, .int x2), (3, .int x3), (4, .int x4), (5, .int x5), (6, .int x6), (9, .int x9)]) hx hb dX9_odds_112 hl (by decide) rfl (fun ls hl => ?_)
      refine lv_iinc (v := (x9 + 1)) (lv' := [(9, .int (x9 + 1)), (8, .int (x8 * 10)), (7, .int (x7 * 3)), (0, .ref (ad 0 0)), (1, .int x1), (2, .int x2), (3, .int x3), (4, .int x4), (5, .int x5), (6, .int x6)]) hx hb dX9_odds_114 hl (k := 9) rfl rfl (by decide) rfl (fun ls hl => ?_)
      refine lv_goto (tgt := 95) hx hb dX9_odds_117 (by decide) ?_
      exact ih (x7 * 3) (x8 * 10) (x9 + 1) _ _ _ _ h  hw (lv_sub hl [3, 4, 5, 6, 7, 8, 9, 2, 1, 0] rfl)
def wp_X9_odds (x1 : Int32) (x2 : Int32) (x3 : Int32) (x4 : Int32) (x5 : Int32) (x6 : Int32) (post : Int32 → St → Prop)  (σ : St) : Prop := wp_X9_isThing x1 (fun r1 σ1 => ((¬ r1 = 0 → wp_X9_isX x2 (fun r2 σ2 => ((r2 = 0 → wp_X9_odds_66 x1 x2 x3 x4 x5 x6 post  σ2) ∧ (¬ r2 = 0 → wp_X9_in (Int32.toInt64 x3) 0 6 (fun r3 σ3 => ((r3 = 0 → wp_X9_odds_66 x1 x2 x3 x4 x5 x6 post  σ3) ∧ (¬ r3 = 0 → wp_X9_in (Int32.toInt64 x4) 0 99 (fun r4 σ4 => ((r4 = 0 → wp_X9_odds_66 x1 x2 x3 x4 x5 x6 post  σ4) ∧ (¬ r4 = 0 → wp_X9_in (Int32.toInt64 x5) 0 5 (fun r5 σ5 => ((r5 = 0 → wp_X9_odds_66 x1 x2 x3 x4 x5 x6 post  σ5) ∧ (¬ r5 = 0 → wp_X9_in (Int32.toInt64 x6) 0 1 (fun r6 σ6 => ((¬ r6 = 0 → (vp_in x1 4 ∧ ((¬ (σ6 5 0 x1.toNatClampNeg) = 0 → wp_X9_asTold x1 (fun σ7 => ∃ nn, wp_X9_odds_95 x1 x2 x3 x4 x5 x6 post nn 1 1 0 σ7) σ6) ∧ ((σ6 5 0 x1.toNatClampNeg) = 0 → post (-4) σ6)))) ∧ (r6 = 0 → wp_X9_odds_66 x1 x2 x3 x4 x5 x6 post  σ6))) σ5))) σ4))) σ3))) σ2))) σ1) ∧ (r1 = 0 → post (-2) σ1))) σ
set_option maxHeartbeats 4000000 in
set_option maxRecDepth 100000 in
theorem wk_X9_odds_0 {p : Program} {l : Launch} {e : Env} {s : State} {m : MethodId} {below : List Frame} {meth : Method} {c : Code} {D : va_G} {q : ClassId × ClassId × ClassId × ClassId} {ad : Nat → Nat → Nat} {args : Array Value} (S : CallFix p m c cX9_odds 11 s args GW "OnChinModel") (V : EvM D q ad s) (hr : meth.sig.returnType = (some .int)) (hlocks : meth.locks = false) (x1 : Int32) (x2 : Int32) (x3 : Int32) (x4 : Int32) (x5 : Int32) (x6 : Int32) (post : Int32 → St → Prop)  : ∀ (σ : St) (H : Heap) (locs : List Loc) (ls : Array Slot), wp_X9_odds x1 x2 x3 x4 x5 x6 post  σ → wo D clA LM ad s.heap H locs (EM q ad σ) → lv_has ls 11 [(0, .ref (ad 0 0)), (1, .int x1), (2, .int x2), (3, .int x3), (4, .int x4), (5, .int x5), (6, .int x6)] → W p l e { frames := 4, cells := 0, slots := 0, locals := 107 } s m args below meth c H locs 0 0 (MQ below (zQi D clA LM ad (EM q ad) post) args s 0 0 (zA LM ad)) (F0 m 0 ls []) := by
  have hx := S.1
  have hb := S.2.1
  intro  σ H locs ls h  hw hl
  have h : wp_X9_isThing x1 (fun r1 σ1 => ((¬ r1 = 0 → wp_X9_isX x2 (fun r2 σ2 => ((r2 = 0 → wp_X9_odds_66 x1 x2 x3 x4 x5 x6 post  σ2) ∧ (¬ r2 = 0 → wp_X9_in (Int32.toInt64 x3) 0 6 (fun r3 σ3 => ((r3 = 0 → wp_X9_odds_66 x1 x2 x3 x4 x5 x6 post  σ3) ∧ (¬ r3 = 0 → wp_X9_in (Int32.toInt64 x4) 0 99 (fun r4 σ4 => ((r4 = 0 → wp_X9_odds_66 x1 x2 x3 x4 x5 x6 post  σ4) ∧ (¬ r4 = 0 → wp_X9_in (Int32.toInt64 x5) 0 5 (fun r5 σ5 => ((r5 = 0 → wp_X9_odds_66 x1 x2 x3 x4 x5 x6 post  σ5) ∧ (¬ r5 = 0 → wp_X9_in (Int32.toInt64 x6) 0 1 (fun r6 σ6 => ((¬ r6 = 0 → (vp_in x1 4 ∧ ((¬ (σ6 5 0 x1.toNatClampNeg) = 0 → wp_X9_asTold x1 (fun σ7 => ∃ nn, wp_X9_odds_95 x1 x2 x3 x4 x5 x6 post nn 1 1 0 σ7) σ6) ∧ ((σ6 5 0 x1.toNatClampNeg) = 0 → post (-4) σ6)))) ∧ (r6 = 0 → wp_X9_odds_66 x1 x2 x3 x4 x5 x6 post  σ6))) σ5))) σ4))) σ3))) σ2))) σ1) ∧ (r1 = 0 → post (-2) σ1))) σ := h
  refine lv_iload_n hx hb dX9_odds_0 rfl (lv_at hl 1 rfl) ?_
  refine call_Si (As := [.int x1]) (rest := []) EvM_ok S V hw (mt_X9_isThing l D q ad x1  σ _ h) ok_X9_isThing ml_X9_192 ⟨(Nat.le_of_ble_eq_true rfl), (Nat.le_of_ble_eq_true rfl)⟩ ⟨rfl, rfl⟩ rfl hl.1 rfl (Nat.le_of_ble_eq_true rfl) dX9_odds_1 (fun r1 σ1 H locs h hw => ?_)
  refine lv_if_ne (tgt := 10) hx hb dX9_odds_4 (by decide) (fun hc => ?_) (fun hc => ?_)
  · have h := h.1 hc
    refine lv_iload_n hx hb dX9_odds_10 rfl (lv_at hl 2 rfl) ?_
    refine call_Si (As := [.int x2]) (rest := []) EvM_ok S V hw (mt_X9_isX l D q ad x2  σ1 _ h) ok_X9_isX ml_X9_243 ⟨(Nat.le_of_ble_eq_true rfl), (Nat.le_of_ble_eq_true rfl)⟩ ⟨rfl, rfl⟩ rfl hl.1 rfl (Nat.le_of_ble_eq_true rfl) dX9_odds_11 (fun r2 σ2 H locs h hw => ?_)
    refine lv_if_eq (tgt := 66) hx hb dX9_odds_14 (by decide) (fun hc => ?_) (fun hc => ?_)
    · have h := h.1 hc
      exact wk_X9_odds_66 S V hr hlocks x1 x2 x3 x4 x5 x6   post   _ _ _ _ h  hw (lv_sub hl [0, 1, 2, 3, 4, 5, 6] rfl)
    · have h := h.2 hc
      refine lv_iload_n hx hb dX9_odds_17 rfl (lv_at hl 3 rfl) ?_
      refine lv_i2l (v := (Int32.toInt64 x3)) hx hb dX9_odds_18 rfl ?_
      refine lv_lconst (v := 0) hx hb dX9_odds_19 (by decide) ?_
      refine lv_ldc2 (v := 6) hx hb S.2.2.2.1 (gw_S S _ kc_X9_265) dX9_odds_20 ?_
      refine call_Si (As := [.long (Int32.toInt64 x3), .long 0, .long 6]) (rest := []) EvM_ok S V hw (mt_X9_in l D q ad (Int32.toInt64 x3) 0 6  σ2 _ h) ok_X9_in ml_X9_92 ⟨(Nat.le_of_ble_eq_true rfl), (Nat.le_of_ble_eq_true rfl)⟩ ⟨rfl, rfl⟩ rfl hl.1 rfl (Nat.le_of_ble_eq_true rfl) dX9_odds_23 (fun r3 σ3 H locs h hw => ?_)
      refine lv_if_eq (tgt := 66) hx hb dX9_odds_26 (by decide) (fun hc => ?_) (fun hc => ?_)
      · have h := h.1 hc
        exact wk_X9_odds_66 S V hr hlocks x1 x2 x3 x4 x5 x6   post   _ _ _ _ h  hw (lv_sub hl [0, 1, 2, 3, 4, 5, 6] rfl)
      · have h := h.2 hc
        refine lv_iload hx hb dX9_odds_29 (lv_at hl 4 rfl) ?_
        refine lv_i2l (v := (Int32.toInt64 x4)) hx hb dX9_odds_31 rfl ?_
        refine lv_lconst (v := 0) hx hb dX9_odds_32 (by decide) ?_
        refine lv_ldc2 (v := 99) hx hb S.2.2.2.1 (gw_S S _ kc_X9_241) dX9_odds_33 ?_
        refine call_Si (As := [.long (Int32.toInt64 x4), .long 0, .long 99]) (rest := []) EvM_ok S V hw (mt_X9_in l D q ad (Int32.toInt64 x4) 0 99  σ3 _ h) ok_X9_in ml_X9_92 ⟨(Nat.le_of_ble_eq_true rfl), (Nat.le_of_ble_eq_true rfl)⟩ ⟨rfl, rfl⟩ rfl hl.1 rfl (Nat.le_of_ble_eq_true rfl) dX9_odds_36 (fun r4 σ4 H locs h hw => ?_)
        refine lv_if_eq (tgt := 66) hx hb dX9_odds_39 (by decide) (fun hc => ?_) (fun hc => ?_)
        · have h := h.1 hc
          exact wk_X9_odds_66 S V hr hlocks x1 x2 x3 x4 x5 x6   post   _ _ _ _ h  hw (lv_sub hl [0, 1, 2, 3, 4, 5, 6] rfl)
        · have h := h.2 hc
          refine lv_iload hx hb dX9_odds_42 (lv_at hl 5 rfl) ?_
          refine lv_i2l (v := (Int32.toInt64 x5)) hx hb dX9_odds_44 rfl ?_
          refine lv_lconst (v := 0) hx hb dX9_odds_45 (by decide) ?_
          refine lv_ldc2 (v := 5) hx hb S.2.2.2.1 (gw_S S _ kc_X9_291) dX9_odds_46 ?_
          refine call_Si (As := [.long (Int32.toInt64 x5), .long 0, .long 5]) (rest := []) EvM_ok S V hw (mt_X9_in l D q ad (Int32.toInt64 x5) 0 5  σ4 _ h) ok_X9_in ml_X9_92 ⟨(Nat.le_of_ble_eq_true rfl), (Nat.le_of_ble_eq_true rfl)⟩ ⟨rfl, rfl⟩ rfl hl.1 rfl (Nat.le_of_ble_eq_true rfl) dX9_odds_49 (fun r5 σ5 H locs h hw => ?_)
          refine lv_if_eq (tgt := 66) hx hb dX9_odds_52 (by decide) (fun hc => ?_) (fun hc => ?_)
          · have h := h.1 hc
            exact wk_X9_odds_66 S V hr hlocks x1 x2 x3 x4 x5 x6   post   _ _ _ _ h  hw (lv_sub hl [0, 1, 2, 3, 4, 5, 6] rfl)
          · have h := h.2 hc
            refine lv_iload hx hb dX9_odds_55 (lv_at hl 6 rfl) ?_
            refine lv_i2l (v := (Int32.toInt64 x6)) hx hb dX9_odds_57 rfl ?_
            refine lv_lconst (v := 0) hx hb dX9_odds_58 (by decide) ?_
            refine lv_lconst (v := 1) hx hb dX9_odds_59 (by decide) ?_
            refine call_Si (As := [.long (Int32.toInt64 x6), .long 0, .long 1]) (rest := []) EvM_ok S V hw (mt_X9_in l D q ad (Int32.toInt64 x6) 0 1  σ5 _ h) ok_X9_in ml_X9_92 ⟨(Nat.le_of_ble_eq_true rfl), (Nat.le_of_ble_eq_true rfl)⟩ ⟨rfl, rfl⟩ rfl hl.1 rfl (Nat.le_of_ble_eq_true rfl) dX9_odds_60 (fun r6 σ6 H locs h hw => ?_)
            refine lv_if_ne (tgt := 69) hx hb dX9_odds_63 (by decide) (fun hc => ?_) (fun hc => ?_)
            · have h := h.1 hc
              refine lv_aload_n hx hb dX9_odds_69 rfl (lv_at hl 0 rfl) ?_
              refine gM_0_6 S V hw (Nat.le_of_ble_eq_true rfl) fl_X9_22 dX9_odds_70 ?_
              refine lv_iload_n hx hb dX9_odds_73 rfl (lv_at hl 1 rfl) ?_
              refine aM_5 S V hw (Nat.le_of_ble_eq_true rfl) h.1 (z := (σ6 5 0 x1.toNatClampNeg)) rfl dX9_odds_74 ?_
              have h := h.2
              refine lv_if_ne (tgt := 81) hx hb dX9_odds_75 (by decide) (fun hc => ?_) (fun hc => ?_)
              · have h := h.1 hc
                refine lv_aload_n hx hb dX9_odds_81 rfl (lv_at hl 0 rfl) ?_
                refine lv_iload_n hx hb dX9_odds_82 rfl (lv_at hl 1 rfl) ?_
                refine call_Vv (As := [.int x1]) (rest := []) EvM_ok S V hw (mt_X9_asTold l D q ad x1  σ6 _ h) ok_X9_asTold ml_X9_258 (rM_0 S V hw (Nat.le_of_ble_eq_true rfl)) ⟨(Nat.le_of_ble_eq_true rfl), (Nat.le_of_ble_eq_true rfl)⟩ ⟨rfl, rfl⟩ rfl hl.1 rfl (Nat.le_of_ble_eq_true rfl) dX9_odds_83 (fun σ7 H locs h hw => ?_)
                refine lv_iconst (v := 1) hx hb dX9_odds_86 (by decide) ?_
                refine lv_istore (lv' := [(7, .int 1), (0, .ref (ad 0 0)), (1, .int x1), (2, .int x2), (3, .int x3), (4, .int x4), (5, .int x5), (6, .int x6)]) hx hb dX9_odds_87 hl (by decide) rfl (fun ls hl => ?_)
                refine lv_iconst (v := 1) hx hb dX9_odds_89 (by decide) ?_
                refine lv_istore (lv' := [(8, .int 1), (7, .int 1), (0, .ref (ad 0 0)), (1, .int x1), (2, .int x2), (3, .int x3), (4, .int x4), (5, .int x5), (6, .int x6)]) hx hb dX9_odds_90 hl (by decide) rfl (fun ls hl => ?_)
                refine lv_iconst (v := 0) hx hb dX9_odds_92 (by decide) ?_
                refine lv_istore (lv' := [(9, .int 0), (8, .int 1), (7, .int 1), (0, .ref (ad 0 0)), (1, .int x1), (2, .int x2), (3, .int x3), (4, .int x4), (5, .int x5), (6, .int x6)]) hx hb dX9_odds_93 hl (by decide) rfl (fun ls hl => ?_)
                obtain ⟨n9, h⟩ := h
                exact wk_X9_odds_95 S V hr hlocks x1 x2 x3 x4 x5 x6   post  n9 1 1 0 _ _ _ _ h  hw (lv_sub hl [3, 4, 5, 6, 7, 8, 9, 2, 1, 0] rfl)
              · have h := h.2 hc
                refine lv_bipush (v := (-4)) hx hb dX9_odds_78 (by decide) ?_
                exact ret_i S hr hlocks hw h dX9_odds_80
            · have h := h.2 hc
              exact wk_X9_odds_66 S V hr hlocks x1 x2 x3 x4 x5 x6   post   _ _ _ _ h  hw (lv_sub hl [0, 1, 2, 3, 4, 5, 6] rfl)
  · have h := h.2 hc
    refine lv_bipush (v := (-2)) hx hb dX9_odds_7 (by decide) ?_
    exact ret_i S hr hlocks hw h dX9_odds_9
theorem mt_X9_odds (l : Launch) (D : va_G) (q : ClassId × ClassId × ClassId × ClassId) (ad : Nat → Nat → Nat) (x1 : Int32) (x2 : Int32) (x3 : Int32) (x4 : Int32) (x5 : Int32) (x6 : Int32) (σ : St) (post : Int32 → St → Prop) (h : wp_X9_odds x1 x2 x3 x4 x5 x6 post σ) : cI l D clA LM ad (EM q ad) (EvM D q ad) yX9_odds cX9_odds 11 (some .int) { frames := 4, cells := 0, slots := 0, locals := 107 } [.ref (ad 0 0), .int x1, .int x2, .int x3, .int x4, .int x5, .int x6] σ post :=
  ent_i (by decide) (Nat.le_of_ble_eq_true rfl) (fun p e s m below meth c S V hr hlocks hw ls hl => wk_X9_odds_0 S V hr hlocks x1 x2 x3 x4 x5 x6  post   σ _ _ ls h  hw (lv_sub hl [0, 1, 2, 3, 4, 5, 6] rfl))
def wp_X9_stands_39 (x1 : Int32) (x2 : Int32) (post : Int32 → St → Prop) : Nat → Int32 → St → Prop
  | 0 => fun _ _ => False
  | n + 1 => fun x3 σ => ((100 ≤ x3 → post (-1) σ) ∧ (¬ 100 ≤ x3 → wp_X9_lasts x2 0 0 (fun r1 σ1 => ((¬ r1 = 400 → wp_X9_stands_39 x1 x2 post n (x3 + 1) σ1) ∧ (r1 = 400 → post x3 σ1))) (su σ 0 0 31 x3)))
set_option maxHeartbeats 4000000 in
set_option maxRecDepth 100000 in
theorem wk_X9_stands_39 {p : Program} {l : Launch} {e : Env} {s : State} {m : MethodId} {below : List Frame} {meth : Method} {c : Code} {D : va_G} {q : ClassId × ClassId × ClassId × ClassId} {ad : Nat → Nat → Nat} {args : Array Value} (S : CallFix p m c cX9_stands 4 s args GW "OnChinModel") (V : EvM D q ad s) (hr : meth.sig.returnType = (some .int)) (hlocks : meth.locks = false) (x1 : Int32) (x2 : Int32) (post : Int32 → St → Prop)  : ∀ (n : Nat) (x3 : Int32) (σ : St) (H : Heap) (locs : List Loc) (ls : Array Slot), wp_X9_stands_39 x1 x2 post n x3 σ → wo D clA LM ad s.heap H locs (EM q ad σ) → lv_has ls 4 [(0, .ref (ad 0 0)), (1, .int x1), (2, .int x2), (3, .int x3)] → W p l e { frames := 4, cells := 0, slots := 0, locals := 101 } s m args below meth c H locs 0 0 (MQ below (zQi D clA LM ad (EM q ad) post) args s 0 0 (zA LM ad)) (F0 m 39 ls []) := by
  have hx := S.1
  have hb := S.2.1
  intro n
  induction n with
  | zero => intro x3 σ H locs ls h; exact False.elim h
  | succ n ih =>
    intro x3 σ H locs ls h  hw hl
    refine lv_iload_n hx hb dX9_stands_39 rfl (lv_at hl 3 rfl) ?_
    refine lv_bipush (v := 100) hx hb dX9_stands_40 (by decide) ?_
    refine lv_icmp_ge (tgt := 71) hx hb dX9_stands_42 (by decide) (fun hc => ?_) (fun hc => ?_)
    · have h := h.1 hc
      refine lv_iconst (v := (-1)) hx hb dX9_stands_71 (by decide) ?_
      exact ret_i S hr hlocks hw h dX9_stands_72
    · have h := h.2 hc
      refine lv_aload_n hx hb dX9_stands_45 rfl (lv_at hl 0 rfl) ?_
      refine lv_iload_n hx hb dX9_stands_46 rfl (lv_at hl 3 rfl) ?_
      refine pM_0_31 S V hw (Nat.le_of_ble_eq_true rfl) fl_X9_210 dX9_stands_47 (fun H locs hw => ?_)
      refine lv_aload_n hx hb dX9_stands_50 rfl (lv_at hl 0 rfl) ?_
      refine lv_iload_n hx hb dX9_stands_51 rfl (lv_at hl 2 rfl) ?_
      refine lv_iconst (v := 0) hx hb dX9_stands_52 (by decide) ?_
      refine lv_iconst (v := 0) hx hb dX9_stands_53 (by decide) ?_
      refine call_Vi (As := [.int x2, .int 0, .int 0]) (rest := []) EvM_ok S V hw (mt_X9_lasts l D q ad x2 0 0  (su σ 0 0 31 x3) _ h) ok_X9_lasts ml_X9_272 (rM_0 S V hw (Nat.le_of_ble_eq_true rfl)) ⟨(Nat.le_of_ble_eq_true rfl), (Nat.le_of_ble_eq_true rfl)⟩ ⟨rfl, rfl⟩ rfl hl.1 rfl (Nat.le_of_ble_eq_true rfl) dX9_stands_54 (fun r1 σ1 H locs h hw => ?_)
      refine lv_sipush (v := 400) hx hb dX9_stands_57 (by decide) ?_
      refine lv_icmp_ne (tgt := 65) hx hb dX9_stands_60 (by decide) (fun hc => ?_) (fun hc => ?_)
      · have h := h.1 hc
        refine lv_iinc (v := (x3 + 1)) (lv' := [(3, .int (x3 + 1)), (0, .ref (ad 0 0)), (1, .int x1), (2, .int x2)]) hx hb dX9_stands_65 hl (k := 3) rfl rfl (by decide) rfl (fun ls hl => ?_)
        refine lv_goto (tgt := 39) hx hb dX9_stands_68 (by decide) ?_
        exact ih (x3 + 1) _ _ _ _ h  hw (lv_sub hl [1, 2, 3, 0] rfl)
      · have h := h.2 hc
        refine lv_iload_n hx hb dX9_stands_63 rfl (lv_at hl 3 rfl) ?_
        exact ret_i S hr hlocks hw h dX9_stands_64
def wp_X9_stands (x1 : Int32) (x2 : Int32) (post : Int32 → St → Prop)  (σ : St) : Prop := wp_X9_isThing x1 (fun r1 σ1 => ((¬ r1 = 0 → wp_X9_isX x2 (fun r2 σ2 => ((¬ r2 = 0 → (vp_in x1 4 ∧ ((¬ (σ2 5 0 x1.toNatClampNeg) = 0 → wp_X9_asTold x1 (fun σ3 => ∃ nn, wp_X9_stands_39 x1 x2 post nn 0 σ3) σ2) ∧ ((σ2 5 0 x1.toNatClampNeg) = 0 → post (-4) σ2)))) ∧ (r2 = 0 → post (-3) σ2))) σ1) ∧ (r1 = 0 → post (-2) σ1))) σ
set_option maxHeartbeats 4000000 in
set_option maxRecDepth 100000 in
theorem wk_X9_stands_0 {p : Program} {l : Launch} {e : Env} {s : State} {m : MethodId} {below : List Frame} {meth : Method} {c : Code} {D : va_G} {q : ClassId × ClassId × ClassId × ClassId} {ad : Nat → Nat → Nat} {args : Array Value} (S : CallFix p m c cX9_stands 4 s args GW "OnChinModel") (V : EvM D q ad s) (hr : meth.sig.returnType = (some .int)) (hlocks : meth.locks = false) (x1 : Int32) (x2 : Int32) (post : Int32 → St → Prop)  : ∀ (σ : St) (H : Heap) (locs : List Loc) (ls : Array Slot), wp_X9_stands x1 x2 post  σ → wo D clA LM ad s.heap H locs (EM q ad σ) → lv_has ls 4 [(0, .ref (ad 0 0)), (1, .int x1), (2, .int x2)] → W p l e { frames := 4, cells := 0, slots := 0, locals := 101 } s m args below meth c H locs 0 0 (MQ below (zQi D clA LM ad (EM q ad) post) args s 0 0 (zA LM ad)) (F0 m 0 ls []) := by
  have hx := S.1
  have hb := S.2.1
  intro  σ H locs ls h  hw hl
  have h : wp_X9_isThing x1 (fun r1 σ1 => ((¬ r1 = 0 → wp_X9_isX x2 (fun r2 σ2 => ((¬ r2 = 0 → (vp_in x1 4 ∧ ((¬ (σ2 5 0 x1.toNatClampNeg) = 0 → wp_X9_asTold x1 (fun σ3 => ∃ nn, wp_X9_stands_39 x1 x2 post nn 0 σ3) σ2) ∧ ((σ2 5 0 x1.toNatClampNeg) = 0 → post (-4) σ2)))) ∧ (r2 = 0 → post (-3) σ2))) σ1) ∧ (r1 = 0 → post (-2) σ1))) σ := h
  refine lv_iload_n hx hb dX9_stands_0 rfl (lv_at hl 1 rfl) ?_
  refine call_Si (As := [.int x1]) (rest := []) EvM_ok S V hw (mt_X9_isThing l D q ad x1  σ _ h) ok_X9_isThing ml_X9_192 ⟨(Nat.le_of_ble_eq_true rfl), (Nat.le_of_ble_eq_true rfl)⟩ ⟨rfl, rfl⟩ rfl hl.1 rfl (Nat.le_of_ble_eq_true rfl) dX9_stands_1 (fun r1 σ1 H locs h hw => ?_)
  refine lv_if_ne (tgt := 10) hx hb dX9_stands_4 (by decide) (fun hc => ?_) (fun hc => ?_)
  · have h := h.1 hc
    refine lv_iload_n hx hb dX9_stands_10 rfl (lv_at hl 2 rfl) ?_
    refine call_Si (As := [.int x2]) (rest := []) EvM_ok S V hw (mt_X9_isX l D q ad x2  σ1 _ h) ok_X9_isX ml_X9_243 ⟨(Nat.le_of_ble_eq_true rfl), (Nat.le_of_ble_eq_true rfl)⟩ ⟨rfl, rfl⟩ rfl hl.1 rfl (Nat.le_of_ble_eq_true rfl) dX9_stands_11 (fun r2 σ2 H locs h hw => ?_)
    refine lv_if_ne (tgt := 20) hx hb dX9_stands_14 (by decide) (fun hc => ?_) (fun hc => ?_)
    · have h := h.1 hc
      refine lv_aload_n hx hb dX9_stands_20 rfl (lv_at hl 0 rfl) ?_
      refine gM_0_6 S V hw (Nat.le_of_ble_eq_true rfl) fl_X9_22 dX9_stands_21 ?_
      refine lv_iload_n hx hb dX9_stands_24 rfl (lv_at hl 1 rfl) ?_
      refine aM_5 S V hw (Nat.le_of_ble_eq_true rfl) h.1 (z := (σ2 5 0 x1.toNatClampNeg)) rfl dX9_stands_25 ?_
      have h := h.2
      refine lv_if_ne (tgt := 32) hx hb dX9_stands_26 (by decide) (fun hc => ?_) (fun hc => ?_)
      · have h := h.1 hc
        refine lv_aload_n hx hb dX9_stands_32 rfl (lv_at hl 0 rfl) ?_
        refine lv_iload_n hx hb dX9_stands_33 rfl (lv_at hl 1 rfl) ?_
        refine call_Vv (As := [.int x1]) (rest := []) EvM_ok S V hw (mt_X9_asTold l D q ad x1  σ2 _ h) ok_X9_asTold ml_X9_258 (rM_0 S V hw (Nat.le_of_ble_eq_true rfl)) ⟨(Nat.le_of_ble_eq_true rfl), (Nat.le_of_ble_eq_true rfl)⟩ ⟨rfl, rfl⟩ rfl hl.1 rfl (Nat.le_of_ble_eq_true rfl) dX9_stands_34 (fun σ3 H locs h hw => ?_)
        refine lv_iconst (v := 0) hx hb dX9_stands_37 (by decide) ?_
        refine lv_istore_n (lv' := [(3, .int 0), (0, .ref (ad 0 0)), (1, .int x1), (2, .int x2)]) hx hb dX9_stands_38 rfl hl (by decide) rfl (fun ls hl => ?_)
        obtain ⟨n9, h⟩ := h
        exact wk_X9_stands_39 S V hr hlocks x1 x2   post  n9 0 _ _ _ _ h  hw (lv_sub hl [1, 2, 3, 0] rfl)
      · have h := h.2 hc
        refine lv_bipush (v := (-4)) hx hb dX9_stands_29 (by decide) ?_
        exact ret_i S hr hlocks hw h dX9_stands_31
    · have h := h.2 hc
      refine lv_bipush (v := (-3)) hx hb dX9_stands_17 (by decide) ?_
      exact ret_i S hr hlocks hw h dX9_stands_19
  · have h := h.2 hc
    refine lv_bipush (v := (-2)) hx hb dX9_stands_7 (by decide) ?_
    exact ret_i S hr hlocks hw h dX9_stands_9
theorem mt_X9_stands (l : Launch) (D : va_G) (q : ClassId × ClassId × ClassId × ClassId) (ad : Nat → Nat → Nat) (x1 : Int32) (x2 : Int32) (σ : St) (post : Int32 → St → Prop) (h : wp_X9_stands x1 x2 post σ) : cI l D clA LM ad (EM q ad) (EvM D q ad) yX9_stands cX9_stands 4 (some .int) { frames := 4, cells := 0, slots := 0, locals := 101 } [.ref (ad 0 0), .int x1, .int x2] σ post :=
  ent_i (by decide) (Nat.le_of_ble_eq_true rfl) (fun p e s m below meth c S V hr hlocks hw ls hl => wk_X9_stands_0 S V hr hlocks x1 x2  post   σ _ _ ls h  hw (lv_sub hl [0, 1, 2] rfl))
def wp_X9_two_14 (x1 : Int32) (x2 : Int32) (x3 : Int32) (x4 : Int32) (x5 : Int32) (x6 : Int32) (post : Int32 → St → Prop)  (σ : St) : Prop := post (-2) σ
set_option maxHeartbeats 4000000 in
set_option maxRecDepth 100000 in
theorem wk_X9_two_14 {p : Program} {l : Launch} {e : Env} {s : State} {m : MethodId} {below : List Frame} {meth : Method} {c : Code} {D : va_G} {q : ClassId × ClassId × ClassId × ClassId} {ad : Nat → Nat → Nat} {args : Array Value} (S : CallFix p m c cX9_two 9 s args GW "OnChinModel") (V : EvM D q ad s) (hr : meth.sig.returnType = (some .int)) (hlocks : meth.locks = false) (x1 : Int32) (x2 : Int32) (x3 : Int32) (x4 : Int32) (x5 : Int32) (x6 : Int32) (post : Int32 → St → Prop)  : ∀ (σ : St) (H : Heap) (locs : List Loc) (ls : Array Slot), wp_X9_two_14 x1 x2 x3 x4 x5 x6 post  σ → wo D clA LM ad s.heap H locs (EM q ad σ) → lv_has ls 9 [(0, .ref (ad 0 0)), (1, .int x1), (2, .int x2), (3, .int x3), (4, .int x4), (5, .int x5), (6, .int x6)] → W p l e { frames := 3, cells := 0, slots := 0, locals := 78 } s m args below meth c H locs 0 0 (MQ below (zQi D clA LM ad (EM q ad) post) args s 0 0 (zA LM ad)) (F0 m 14 ls []) := by
  have hx := S.1
  have hb := S.2.1
  intro  σ H locs ls h  hw hl
  refine lv_bipush (v := (-2)) hx hb dX9_two_14 (by decide) ?_
  exact ret_i S hr hlocks hw h dX9_two_16
def wp_X9_two_58 (x1 : Int32) (x2 : Int32) (x3 : Int32) (x4 : Int32) (x5 : Int32) (x6 : Int32) (post : Int32 → St → Prop)  (σ : St) : Prop := post (-3) σ
set_option maxHeartbeats 4000000 in
set_option maxRecDepth 100000 in
theorem wk_X9_two_58 {p : Program} {l : Launch} {e : Env} {s : State} {m : MethodId} {below : List Frame} {meth : Method} {c : Code} {D : va_G} {q : ClassId × ClassId × ClassId × ClassId} {ad : Nat → Nat → Nat} {args : Array Value} (S : CallFix p m c cX9_two 9 s args GW "OnChinModel") (V : EvM D q ad s) (hr : meth.sig.returnType = (some .int)) (hlocks : meth.locks = false) (x1 : Int32) (x2 : Int32) (x3 : Int32) (x4 : Int32) (x5 : Int32) (x6 : Int32) (post : Int32 → St → Prop)  : ∀ (σ : St) (H : Heap) (locs : List Loc) (ls : Array Slot), wp_X9_two_58 x1 x2 x3 x4 x5 x6 post  σ → wo D clA LM ad s.heap H locs (EM q ad σ) → lv_has ls 9 [(0, .ref (ad 0 0)), (1, .int x1), (2, .int x2), (3, .int x3), (4, .int x4), (5, .int x5), (6, .int x6)] → W p l e { frames := 3, cells := 0, slots := 0, locals := 78 } s m args below meth c H locs 0 0 (MQ below (zQi D clA LM ad (EM q ad) post) args s 0 0 (zA LM ad)) (F0 m 58 ls []) := by
  have hx := S.1
  have hb := S.2.1
  intro  σ H locs ls h  hw hl
  refine lv_bipush (v := (-3)) hx hb dX9_two_58 (by decide) ?_
  exact ret_i S hr hlocks hw h dX9_two_60
def wp_X9_two_79 (x1 : Int32) (x2 : Int32) (x3 : Int32) (x4 : Int32) (x5 : Int32) (x6 : Int32) (post : Int32 → St → Prop)  (σ : St) : Prop := post (-4) σ
set_option maxHeartbeats 4000000 in
set_option maxRecDepth 100000 in
theorem wk_X9_two_79 {p : Program} {l : Launch} {e : Env} {s : State} {m : MethodId} {below : List Frame} {meth : Method} {c : Code} {D : va_G} {q : ClassId × ClassId × ClassId × ClassId} {ad : Nat → Nat → Nat} {args : Array Value} (S : CallFix p m c cX9_two 9 s args GW "OnChinModel") (V : EvM D q ad s) (hr : meth.sig.returnType = (some .int)) (hlocks : meth.locks = false) (x1 : Int32) (x2 : Int32) (x3 : Int32) (x4 : Int32) (x5 : Int32) (x6 : Int32) (post : Int32 → St → Prop)  : ∀ (σ : St) (H : Heap) (locs : List Loc) (ls : Array Slot), wp_X9_two_79 x1 x2 x3 x4 x5 x6 post  σ → wo D clA LM ad s.heap H locs (EM q ad σ) → lv_has ls 9 [(0, .ref (ad 0 0)), (1, .int x1), (2, .int x2), (3, .int x3), (4, .int x4), (5, .int x5), (6, .int x6)] → W p l e { frames := 3, cells := 0, slots := 0, locals := 78 } s m args below meth c H locs 0 0 (MQ below (zQi D clA LM ad (EM q ad) post) args s 0 0 (zA LM ad)) (F0 m 79 ls []) := by
  have hx := S.1
  have hb := S.2.1
  intro  σ H locs ls h  hw hl
  refine lv_bipush (v := (-4)) hx hb dX9_two_79 (by decide) ?_
  exact ret_i S hr hlocks hw h dX9_two_81
def wp_X9_two_195 (x1 : Int32) (x2 : Int32) (x3 : Int32) (x4 : Int32) (x5 : Int32) (x6 : Int32) (post : Int32 → St → Prop) (x7 : Int32) (σ : St) : Prop := post x7 σ
set_option maxHeartbeats 4000000 in
set_option maxRecDepth 100000 in
theorem wk_X9_two_195 {p : Program} {l : Launch} {e : Env} {s : State} {m : MethodId} {below : List Frame} {meth : Method} {c : Code} {D : va_G} {q : ClassId × ClassId × ClassId × ClassId} {ad : Nat → Nat → Nat} {args : Array Value} (S : CallFix p m c cX9_two 9 s args GW "OnChinModel") (V : EvM D q ad s) (hr : meth.sig.returnType = (some .int)) (hlocks : meth.locks = false) (x1 : Int32) (x2 : Int32) (x3 : Int32) (x4 : Int32) (x5 : Int32) (x6 : Int32) (post : Int32 → St → Prop)  : ∀ (x7 : Int32) (σ : St) (H : Heap) (locs : List Loc) (ls : Array Slot), wp_X9_two_195 x1 x2 x3 x4 x5 x6 post x7 σ → wo D clA LM ad s.heap H locs (EM q ad σ) → lv_has ls 9 [(0, .ref (ad 0 0)), (1, .int x1), (2, .int x2), (3, .int x3), (4, .int x4), (5, .int x5), (6, .int x6), (7, .int x7)] → W p l e { frames := 3, cells := 0, slots := 0, locals := 78 } s m args below meth c H locs 0 0 (MQ below (zQi D clA LM ad (EM q ad) post) args s 0 0 (zA LM ad)) (F0 m 195 ls []) := by
  have hx := S.1
  have hb := S.2.1
  intro x7 σ H locs ls h  hw hl
  refine lv_iload hx hb dX9_two_195 (lv_at hl 7 rfl) ?_
  exact ret_i S hr hlocks hw h dX9_two_197
def wp_X9_two_182 (x1 : Int32) (x2 : Int32) (x3 : Int32) (x4 : Int32) (x5 : Int32) (x6 : Int32) (K105 : Int32 → St → Prop) (post : Int32 → St → Prop) (x7 : Int32) (xs1 : Int32) (xs2 : Int32) (σ : St) : Prop := wp_X9_tick xs1 xs2 (σ 0 0 16) (fun σ1 => K105 (x7 + 1) σ1) σ
set_option maxHeartbeats 4000000 in
set_option maxRecDepth 100000 in
theorem wk_X9_two_182 {p : Program} {l : Launch} {e : Env} {s : State} {m : MethodId} {below : List Frame} {meth : Method} {c : Code} {D : va_G} {q : ClassId × ClassId × ClassId × ClassId} {ad : Nat → Nat → Nat} {args : Array Value} (S : CallFix p m c cX9_two 9 s args GW "OnChinModel") (V : EvM D q ad s) (hr : meth.sig.returnType = (some .int)) (hlocks : meth.locks = false) (x1 : Int32) (x2 : Int32) (x3 : Int32) (x4 : Int32) (x5 : Int32) (x6 : Int32) (K105 : Int32 → St → Prop) (post : Int32 → St → Prop) (hK105 : ∀ (x7 : Int32) (σ : St) (H : Heap) (locs : List Loc) (ls : Array Slot), K105 x7 σ → wo D clA LM ad s.heap H locs (EM q ad σ) → lv_has ls 9 [(0, .ref (ad 0 0)), (1, .int x1), (2, .int x2), (3, .int x3), (4, .int x4), (5, .int x5), (6, .int x6), (7, .int x7)] → W p l e { frames := 3, cells := 0, slots := 0, locals := 78 } s m args below meth c H locs 0 0 (MQ below (zQi D clA LM ad (EM q ad) post) args s 0 0 (zA LM ad)) (F0 m 105 ls [])) : ∀ (x7 : Int32) (xs1 : Int32) (xs2 : Int32) (σ : St) (H : Heap) (locs : List Loc) (ls : Array Slot), wp_X9_two_182 x1 x2 x3 x4 x5 x6 K105 post x7 xs1 xs2 σ → wo D clA LM ad s.heap H locs (EM q ad σ) → lv_has ls 9 [(0, .ref (ad 0 0)), (1, .int x1), (2, .int x2), (3, .int x3), (4, .int x4), (5, .int x5), (6, .int x6), (7, .int x7)] → W p l e { frames := 3, cells := 0, slots := 0, locals := 78 } s m args below meth c H locs 0 0 (MQ below (zQi D clA LM ad (EM q ad) post) args s 0 0 (zA LM ad)) (F0 m 182 ls [.int xs2, .int xs1, .ref (ad 0 0)]) := by
  have hx := S.1
  have hb := S.2.1
  intro x7 xs1 xs2 σ H locs ls h  hw hl
  have h : wp_X9_tick xs1 xs2 (σ 0 0 16) (fun σ1 => K105 (x7 + 1) σ1) σ := h
  refine lv_aload_n hx hb dX9_two_182 rfl (lv_at hl 0 rfl) ?_
  refine gM_0_16 S V hw (Nat.le_of_ble_eq_true rfl) fl_X9_177 rfl dX9_two_183 ?_
  refine call_Vv (As := [.int xs1, .int xs2, .int (σ 0 0 16)]) (rest := []) EvM_ok S V hw (mt_X9_tick l D q ad xs1 xs2 (σ 0 0 16)  σ _ h) ok_X9_tick ml_X9_261 (rM_0 S V hw (Nat.le_of_ble_eq_true rfl)) ⟨(Nat.le_of_ble_eq_true rfl), (Nat.le_of_ble_eq_true rfl)⟩ ⟨rfl, rfl⟩ rfl hl.1 rfl (Nat.le_of_ble_eq_true rfl) dX9_two_186 (fun σ1 H locs h hw => ?_)
  refine lv_iinc (v := (x7 + 1)) (lv' := [(7, .int (x7 + 1)), (0, .ref (ad 0 0)), (1, .int x1), (2, .int x2), (3, .int x3), (4, .int x4), (5, .int x5), (6, .int x6)]) hx hb dX9_two_189 hl (k := 7) rfl rfl (by decide) rfl (fun ls hl => ?_)
  refine lv_goto (tgt := 105) hx hb dX9_two_192 (by decide) ?_
  exact hK105 (x7 + 1) _ _ _ _ h  hw (lv_sub hl [1, 2, 3, 4, 5, 6, 7, 0] rfl)
def wp_X9_two_147 (x1 : Int32) (x2 : Int32) (x3 : Int32) (x4 : Int32) (x5 : Int32) (x6 : Int32) (K105 : Int32 → St → Prop) (post : Int32 → St → Prop) (x7 : Int32) (xs0 : Int32) (σ : St) : Prop := wp_X9_look x1 (fun σ1 => wp_X9_tick 0 xs0 (σ1 0 0 16) (fun σ2 => wp_X9_look x3 (fun σ3 => ((¬ xs0 = 0 → wp_X9_two_182 x1 x2 x3 x4 x5 x6 K105 post x7 1 0 σ3) ∧ (xs0 = 0 → wp_X9_two_182 x1 x2 x3 x4 x5 x6 K105 post x7 1 1 σ3))) σ2) σ1) σ
set_option maxHeartbeats 4000000 in
set_option maxRecDepth 100000 in
theorem wk_X9_two_147 {p : Program} {l : Launch} {e : Env} {s : State} {m : MethodId} {below : List Frame} {meth : Method} {c : Code} {D : va_G} {q : ClassId × ClassId × ClassId × ClassId} {ad : Nat → Nat → Nat} {args : Array Value} (S : CallFix p m c cX9_two 9 s args GW "OnChinModel") (V : EvM D q ad s) (hr : meth.sig.returnType = (some .int)) (hlocks : meth.locks = false) (x1 : Int32) (x2 : Int32) (x3 : Int32) (x4 : Int32) (x5 : Int32) (x6 : Int32) (K105 : Int32 → St → Prop) (post : Int32 → St → Prop) (hK105 : ∀ (x7 : Int32) (σ : St) (H : Heap) (locs : List Loc) (ls : Array Slot), K105 x7 σ → wo D clA LM ad s.heap H locs (EM q ad σ) → lv_has ls 9 [(0, .ref (ad 0 0)), (1, .int x1), (2, .int x2), (3, .int x3), (4, .int x4), (5, .int x5), (6, .int x6), (7, .int x7)] → W p l e { frames := 3, cells := 0, slots := 0, locals := 78 } s m args below meth c H locs 0 0 (MQ below (zQi D clA LM ad (EM q ad) post) args s 0 0 (zA LM ad)) (F0 m 105 ls [])) : ∀ (x7 : Int32) (xs0 : Int32) (σ : St) (H : Heap) (locs : List Loc) (ls : Array Slot), wp_X9_two_147 x1 x2 x3 x4 x5 x6 K105 post x7 xs0 σ → wo D clA LM ad s.heap H locs (EM q ad σ) → lv_has ls 9 [(0, .ref (ad 0 0)), (1, .int x1), (2, .int x2), (3, .int x3), (4, .int x4), (5, .int x5), (6, .int x6), (7, .int x7)] → W p l e { frames := 3, cells := 0, slots := 0, locals := 78 } s m args below meth c H locs 0 0 (MQ below (zQi D clA LM ad (EM q ad) post) args s 0 0 (zA LM ad)) (F0 m 147 ls [.int xs0]) := by
  have hx := S.1
  have hb := S.2.1
  intro x7 xs0 σ H locs ls h  hw hl
  have h : wp_X9_look x1 (fun σ1 => wp_X9_tick 0 xs0 (σ1 0 0 16) (fun σ2 => wp_X9_look x3 (fun σ3 => ((¬ xs0 = 0 → wp_X9_two_182 x1 x2 x3 x4 x5 x6 K105 post x7 1 0 σ3) ∧ (xs0 = 0 → wp_X9_two_182 x1 x2 x3 x4 x5 x6 K105 post x7 1 1 σ3))) σ2) σ1) σ := h
  refine lv_istore (lv' := [(8, .int xs0), (0, .ref (ad 0 0)), (1, .int x1), (2, .int x2), (3, .int x3), (4, .int x4), (5, .int x5), (6, .int x6), (7, .int x7)]) hx hb dX9_two_147 hl (by decide) rfl (fun ls hl => ?_)
  refine lv_aload_n hx hb dX9_two_149 rfl (lv_at hl 1 rfl) ?_
  refine lv_iload_n hx hb dX9_two_150 rfl (lv_at hl 2 rfl) ?_
  refine call_Vv (As := [.int x1]) (rest := []) EvM_ok S V hw (mt_X9_look l D q ad x1  σ _ h) ok_X9_look ml_X9_213 (rM_0 S V hw (Nat.le_of_ble_eq_true rfl)) ⟨(Nat.le_of_ble_eq_true rfl), (Nat.le_of_ble_eq_true rfl)⟩ ⟨rfl, rfl⟩ rfl hl.1 rfl (Nat.le_of_ble_eq_true rfl) dX9_two_151 (fun σ1 H locs h hw => ?_)
  refine lv_aload_n hx hb dX9_two_154 rfl (lv_at hl 1 rfl) ?_
  refine lv_iconst (v := 0) hx hb dX9_two_155 (by decide) ?_
  refine lv_iload hx hb dX9_two_156 (lv_at hl 0 rfl) ?_
  refine lv_aload_n hx hb dX9_two_158 rfl (lv_at hl 1 rfl) ?_
  refine gM_0_16 S V hw (Nat.le_of_ble_eq_true rfl) fl_X9_177 rfl dX9_two_159 ?_
  refine call_Vv (As := [.int 0, .int xs0, .int (σ1 0 0 16)]) (rest := []) EvM_ok S V hw (mt_X9_tick l D q ad 0 xs0 (σ1 0 0 16)  σ1 _ h) ok_X9_tick ml_X9_261 (rM_0 S V hw (Nat.le_of_ble_eq_true rfl)) ⟨(Nat.le_of_ble_eq_true rfl), (Nat.le_of_ble_eq_true rfl)⟩ ⟨rfl, rfl⟩ rfl hl.1 rfl (Nat.le_of_ble_eq_true rfl) dX9_two_162 (fun σ2 H locs h hw => ?_)
  refine lv_aload_n hx hb dX9_two_165 rfl (lv_at hl 1 rfl) ?_
  refine lv_iload_n hx hb dX9_two_166 rfl (lv_at hl 4 rfl) ?_
  refine call_Vv (As := [.int x3]) (rest := []) EvM_ok S V hw (mt_X9_look l D q ad x3  σ2 _ h) ok_X9_look ml_X9_213 (rM_0 S V hw (Nat.le_of_ble_eq_true rfl)) ⟨(Nat.le_of_ble_eq_true rfl), (Nat.le_of_ble_eq_true rfl)⟩ ⟨rfl, rfl⟩ rfl hl.1 rfl (Nat.le_of_ble_eq_true rfl) dX9_two_167 (fun σ3 H locs h hw => ?_)
  refine lv_aload_n hx hb dX9_two_170 rfl (lv_at hl 1 rfl) ?_
  refine lv_iconst (v := 1) hx hb dX9_two_171 (by decide) ?_
  refine lv_iload hx hb dX9_two_172 (lv_at hl 0 rfl) ?_
  refine lv_if_ne (tgt := 181) hx hb dX9_two_174 (by decide) (fun hc => ?_) (fun hc => ?_)
  · have h := h.1 hc
    refine lv_iconst (v := 0) hx hb dX9_two_181 (by decide) ?_
    exact wk_X9_two_182 S V hr hlocks x1 x2 x3 x4 x5 x6  K105 post hK105 x7 1 0 _ _ _ _ h  hw (lv_sub hl [1, 2, 3, 4, 5, 6, 7, 8] rfl)
  · have h := h.2 hc
    refine lv_iconst (v := 1) hx hb dX9_two_177 (by decide) ?_
    refine lv_goto (tgt := 182) hx hb dX9_two_178 (by decide) ?_
    exact wk_X9_two_182 S V hr hlocks x1 x2 x3 x4 x5 x6  K105 post hK105 x7 1 1 _ _ _ _ h  hw (lv_sub hl [1, 2, 3, 4, 5, 6, 7, 8] rfl)
def wp_X9_two_105 (x1 : Int32) (x2 : Int32) (x3 : Int32) (x4 : Int32) (x5 : Int32) (x6 : Int32) (post : Int32 → St → Prop) : Nat → Int32 → St → Prop
  | 0 => fun _ _ => False
  | n + 1 => fun x7 σ => ((400 ≤ x7 → wp_X9_two_195 x1 x2 x3 x4 x5 x6 post x7 σ) ∧ (¬ 400 ≤ x7 → wp_X9_fell 0 (fun r1 σ1 => ((¬ r1 = 0 → wp_X9_two_195 x1 x2 x3 x4 x5 x6 post x7 σ1) ∧ (r1 = 0 → wp_X9_fell 1 (fun r2 σ2 => ((¬ r2 = 0 → wp_X9_two_195 x1 x2 x3 x4 x5 x6 post x7 σ2) ∧ (r2 = 0 → (¬ (x5 + x6) = 0 ∧ ((x5 ≤ (x7 - x7 / (x5 + x6) * (x5 + x6)) → wp_X9_two_147 x1 x2 x3 x4 x5 x6 (fun y0 τ => wp_X9_two_105 x1 x2 x3 x4 x5 x6 post n y0 τ) post x7 0 σ2) ∧ (¬ x5 ≤ (x7 - x7 / (x5 + x6) * (x5 + x6)) → wp_X9_two_147 x1 x2 x3 x4 x5 x6 (fun y0 τ => wp_X9_two_105 x1 x2 x3 x4 x5 x6 post n y0 τ) post x7 1 σ2)))))) σ1))) σ))
set_option maxHeartbeats 4000000 in
set_option maxRecDepth 100000 in
theorem wk_X9_two_105 {p : Program} {l : Launch} {e : Env} {s : State} {m : MethodId} {below : List Frame} {meth : Method} {c : Code} {D : va_G} {q : ClassId × ClassId × ClassId × ClassId} {ad : Nat → Nat → Nat} {args : Array Value} (S : CallFix p m c cX9_two 9 s args GW "OnChinModel") (V : EvM D q ad s) (hr : meth.sig.returnType = (some .int)) (hlocks : meth.locks = false) (x1 : Int32) (x2 : Int32) (x3 : Int32) (x4 : Int32) (x5 : Int32) (x6 : Int32) (post : Int32 → St → Prop)  : ∀ (n : Nat) (x7 : Int32) (σ : St) (H : Heap) (locs : List Loc) (ls : Array Slot), wp_X9_two_105 x1 x2 x3 x4 x5 x6 post n x7 σ → wo D clA LM ad s.heap H locs (EM q ad σ) → lv_has ls 9 [(0, .ref (ad 0 0)), (1, .int x1), (2, .int x2), (3, .int x3), (4, .int x4), (5, .int x5), (6, .int x6), (7, .int x7)] → W p l e { frames := 3, cells := 0, slots := 0, locals := 78 } s m args below meth c H locs 0 0 (MQ below (zQi D clA LM ad (EM q ad) post) args s 0 0 (zA LM ad)) (F0 m 105 ls []) := by
  have hx := S.1
  have hb := S.2.1
  intro n
  induction n with
  | zero => intro x7 σ H locs ls h; exact False.elim h
  | succ n ih =>
    intro x7 σ H locs ls h  hw hl
    refine lv_iload hx hb dX9_two_105 (lv_at hl 7 rfl) ?_
    refine lv_sipush (v := 400) hx hb dX9_two_107 (by decide) ?_
    refine lv_icmp_ge (tgt := 195) hx hb dX9_two_110 (by decide) (fun hc => ?_) (fun hc => ?_)
    · have h := h.1 hc
      exact wk_X9_two_195 S V hr hlocks x1 x2 x3 x4 x5 x6   post  x7 _ _ _ _ h  hw (lv_sub hl [0, 1, 2, 3, 4, 5, 6, 7] rfl)
    · have h := h.2 hc
      refine lv_aload_n hx hb dX9_two_113 rfl (lv_at hl 0 rfl) ?_
      refine lv_iconst (v := 0) hx hb dX9_two_114 (by decide) ?_
      refine call_Vi (As := [.int 0]) (rest := []) EvM_ok S V hw (mt_X9_fell l D q ad 0  σ _ h) ok_X9_fell ml_X9_255 (rM_0 S V hw (Nat.le_of_ble_eq_true rfl)) ⟨(Nat.le_of_ble_eq_true rfl), (Nat.le_of_ble_eq_true rfl)⟩ ⟨rfl, rfl⟩ rfl hl.1 rfl (Nat.le_of_ble_eq_true rfl) dX9_two_115 (fun r1 σ1 H locs h hw => ?_)
      refine lv_if_ne (tgt := 195) hx hb dX9_two_118 (by decide) (fun hc => ?_) (fun hc => ?_)
      · have h := h.1 hc
        exact wk_X9_two_195 S V hr hlocks x1 x2 x3 x4 x5 x6   post  x7 _ _ _ _ h  hw (lv_sub hl [0, 1, 2, 3, 4, 5, 6, 7] rfl)
      · have h := h.2 hc
        refine lv_aload_n hx hb dX9_two_121 rfl (lv_at hl 0 rfl) ?_
        refine lv_iconst (v := 1) hx hb dX9_two_122 (by decide) ?_
        refine call_Vi (As := [.int 1]) (rest := []) EvM_ok S V hw (mt_X9_fell l D q ad 1  σ1 _ h) ok_X9_fell ml_X9_255 (rM_0 S V hw (Nat.le_of_ble_eq_true rfl)) ⟨(Nat.le_of_ble_eq_true rfl), (Nat.le_of_ble_eq_true rfl)⟩ ⟨rfl, rfl⟩ rfl hl.1 rfl (Nat.le_of_ble_eq_true rfl) dX9_two_123 (fun r2 σ2 H locs h hw => ?_)
        refine lv_if_ne (tgt := 195) hx hb dX9_two_126 (by decide) (fun hc => ?_) (fun hc => ?_)
        · have h := h.1 hc
          exact wk_X9_two_195 S V hr hlocks x1 x2 x3 x4 x5 x6   post  x7 _ _ _ _ h  hw (lv_sub hl [0, 1, 2, 3, 4, 5, 6, 7] rfl)
        · have h := h.2 hc
          refine lv_iload hx hb dX9_two_129 (lv_at hl 7 rfl) ?_
          refine lv_iload hx hb dX9_two_131 (lv_at hl 5 rfl) ?_
          refine lv_iload hx hb dX9_two_133 (lv_at hl 6 rfl) ?_
          refine lv_iadd hx hb dX9_two_135 ?_
          refine lv_irem hx hb dX9_two_136 h.1 ?_
          have h := h.2
          refine lv_iload hx hb dX9_two_137 (lv_at hl 5 rfl) ?_
          refine lv_icmp_ge (tgt := 146) hx hb dX9_two_139 (by decide) (fun hc => ?_) (fun hc => ?_)
          · have h := h.1 hc
            refine lv_iconst (v := 0) hx hb dX9_two_146 (by decide) ?_
            exact wk_X9_two_147 S V hr hlocks x1 x2 x3 x4 x5 x6  (fun y0 τ => wp_X9_two_105 x1 x2 x3 x4 x5 x6 post n y0 τ) post ih x7 0 _ _ _ _ h  hw (lv_sub hl [0, 1, 2, 3, 4, 5, 6, 7] rfl)
          · have h := h.2 hc
            refine lv_iconst (v := 1) hx hb dX9_two_142 (by decide) ?_
            refine lv_goto (tgt := 147) hx hb dX9_two_143 (by decide) ?_
            exact wk_X9_two_147 S V hr hlocks x1 x2 x3 x4 x5 x6  (fun y0 τ => wp_X9_two_105 x1 x2 x3 x4 x5 x6 post n y0 τ) post ih x7 1 _ _ _ _ h  hw (lv_sub hl [0, 1, 2, 3, 4, 5, 6, 7] rfl)
def wp_X9_two (x1 : Int32) (x2 : Int32) (x3 : Int32) (x4 : Int32) (x5 : Int32) (x6 : Int32) (post : Int32 → St → Prop)  (σ : St) : Prop := wp_X9_isThing x1 (fun r1 σ1 => ((r1 = 0 → wp_X9_two_14 x1 x2 x3 x4 x5 x6 post  σ1) ∧ (¬ r1 = 0 → wp_X9_isThing x3 (fun r2 σ2 => ((¬ r2 = 0 → wp_X9_isX x2 (fun r3 σ3 => ((r3 = 0 → wp_X9_two_58 x1 x2 x3 x4 x5 x6 post  σ3) ∧ (¬ r3 = 0 → wp_X9_isX x4 (fun r4 σ4 => ((r4 = 0 → wp_X9_two_58 x1 x2 x3 x4 x5 x6 post  σ4) ∧ (¬ r4 = 0 → wp_X9_in (Int32.toInt64 x5) 1 9 (fun r5 σ5 => ((r5 = 0 → wp_X9_two_58 x1 x2 x3 x4 x5 x6 post  σ5) ∧ (¬ r5 = 0 → wp_X9_in (Int32.toInt64 x6) 1 9 (fun r6 σ6 => ((¬ r6 = 0 → (vp_in x1 4 ∧ (((σ6 5 0 x1.toNatClampNeg) = 0 → wp_X9_two_79 x1 x2 x3 x4 x5 x6 post  σ6) ∧ (¬ (σ6 5 0 x1.toNatClampNeg) = 0 → (vp_in x3 4 ∧ ((¬ (σ6 5 0 x3.toNatClampNeg) = 0 → wp_X9_asTold x1 (fun σ7 => wp_X9_start 0 x2 0 (fun σ8 => wp_X9_start 1 x4 0 (fun σ9 => ∃ nn, wp_X9_two_105 x1 x2 x3 x4 x5 x6 post nn 0 σ9) σ8) σ7) σ6) ∧ ((σ6 5 0 x3.toNatClampNeg) = 0 → wp_X9_two_79 x1 x2 x3 x4 x5 x6 post  σ6))))))) ∧ (r6 = 0 → wp_X9_two_58 x1 x2 x3 x4 x5 x6 post  σ6))) σ5))) σ4))) σ3))) σ2) ∧ (r2 = 0 → wp_X9_two_14 x1 x2 x3 x4 x5 x6 post  σ2))) σ1))) σ
set_option maxHeartbeats 4000000 in
set_option maxRecDepth 100000 in
theorem wk_X9_two_0 {p : Program} {l : Launch} {e : Env} {s : State} {m : MethodId} {below : List Frame} {meth : Method} {c : Code} {D : va_G} {q : ClassId × ClassId × ClassId × ClassId} {ad : Nat → Nat → Nat} {args : Array Value} (S : CallFix p m c cX9_two 9 s args GW "OnChinModel") (V : EvM D q ad s) (hr : meth.sig.returnType = (some .int)) (hlocks : meth.locks = false) (x1 : Int32) (x2 : Int32) (x3 : Int32) (x4 : Int32) (x5 : Int32) (x6 : Int32) (post : Int32 → St → Prop)  : ∀ (σ : St) (H : Heap) (locs : List Loc) (ls : Array Slot), wp_X9_two x1 x2 x3 x4 x5 x6 post  σ → wo D clA LM ad s.heap H locs (EM q ad σ) → lv_has ls 9 [(0, .ref (ad 0 0)), (1, .int x1), (2, .int x2), (3, .int x3), (4, .int x4), (5, .int x5), (6, .int x6)] → W p l e { frames := 3, cells := 0, slots := 0, locals := 78 } s m args below meth c H locs 0 0 (MQ below (zQi D clA LM ad (EM q ad) post) args s 0 0 (zA LM ad)) (F0 m 0 ls []) := by
  have hx := S.1
  have hb := S.2.1
  intro  σ H locs ls h  hw hl
  have h : wp_X9_isThing x1 (fun r1 σ1 => ((r1 = 0 → wp_X9_two_14 x1 x2 x3 x4 x5 x6 post  σ1) ∧ (¬ r1 = 0 → wp_X9_isThing x3 (fun r2 σ2 => ((¬ r2 = 0 → wp_X9_isX x2 (fun r3 σ3 => ((r3 = 0 → wp_X9_two_58 x1 x2 x3 x4 x5 x6 post  σ3) ∧ (¬ r3 = 0 → wp_X9_isX x4 (fun r4 σ4 => ((r4 = 0 → wp_X9_two_58 x1 x2 x3 x4 x5 x6 post  σ4) ∧ (¬ r4 = 0 → wp_X9_in (Int32.toInt64 x5) 1 9 (fun r5 σ5 => ((r5 = 0 → wp_X9_two_58 x1 x2 x3 x4 x5 x6 post  σ5) ∧ (¬ r5 = 0 → wp_X9_in (Int32.toInt64 x6) 1 9 (fun r6 σ6 => ((¬ r6 = 0 → (vp_in x1 4 ∧ (((σ6 5 0 x1.toNatClampNeg) = 0 → wp_X9_two_79 x1 x2 x3 x4 x5 x6 post  σ6) ∧ (¬ (σ6 5 0 x1.toNatClampNeg) = 0 → (vp_in x3 4 ∧ ((¬ (σ6 5 0 x3.toNatClampNeg) = 0 → wp_X9_asTold x1 (fun σ7 => wp_X9_start 0 x2 0 (fun σ8 => wp_X9_start 1 x4 0 (fun σ9 => ∃ nn, wp_X9_two_105 x1 x2 x3 x4 x5 x6 post nn 0 σ9) σ8) σ7) σ6) ∧ ((σ6 5 0 x3.toNatClampNeg) = 0 → wp_X9_two_79 x1 x2 x3 x4 x5 x6 post  σ6))))))) ∧ (r6 = 0 → wp_X9_two_58 x1 x2 x3 x4 x5 x6 post  σ6))) σ5))) σ4))) σ3))) σ2) ∧ (r2 = 0 → wp_X9_two_14 x1 x2 x3 x4 x5 x6 post  σ2))) σ1))) σ := h
  refine lv_iload_n hx hb dX9_two_0 rfl (lv_at hl 1 rfl) ?_
  refine call_Si (As := [.int x1]) (rest := []) EvM_ok S V hw (mt_X9_isThing l D q ad x1  σ _ h) ok_X9_isThing ml_X9_192 ⟨(Nat.le_of_ble_eq_true rfl), (Nat.le_of_ble_eq_true rfl)⟩ ⟨rfl, rfl⟩ rfl hl.1 rfl (Nat.le_of_ble_eq_true rfl) dX9_two_1 (fun r1 σ1 H locs h hw => ?_)
  refine lv_if_eq (tgt := 14) hx hb dX9_two_4 (by decide) (fun hc => ?_) (fun hc => ?_)
  · have h := h.1 hc
    exact wk_X9_two_14 S V hr hlocks x1 x2 x3 x4 x5 x6   post   _ _ _ _ h  hw (lv_sub hl [0, 1, 2, 3, 4, 5, 6] rfl)
  · have h := h.2 hc
    refine lv_iload_n hx hb dX9_two_7 rfl (lv_at hl 3 rfl) ?_
    refine call_Si (As := [.int x3]) (rest := []) EvM_ok S V hw (mt_X9_isThing l D q ad x3  σ1 _ h) ok_X9_isThing ml_X9_192 ⟨(Nat.le_of_ble_eq_true rfl), (Nat.le_of_ble_eq_true rfl)⟩ ⟨rfl, rfl⟩ rfl hl.1 rfl (Nat.le_of_ble_eq_true rfl) dX9_two_8 (fun r2 σ2 H locs h hw => ?_)
    refine lv_if_ne (tgt := 17) hx hb dX9_two_11 (by decide) (fun hc => ?_) (fun hc => ?_)
    · have h := h.1 hc
      refine lv_iload_n hx hb dX9_two_17 rfl (lv_at hl 2 rfl) ?_
      refine call_Si (As := [.int x2]) (rest := []) EvM_ok S V hw (mt_X9_isX l D q ad x2  σ2 _ h) ok_X9_isX ml_X9_243 ⟨(Nat.le_of_ble_eq_true rfl), (Nat.le_of_ble_eq_true rfl)⟩ ⟨rfl, rfl⟩ rfl hl.1 rfl (Nat.le_of_ble_eq_true rfl) dX9_two_18 (fun r3 σ3 H locs h hw => ?_)
      refine lv_if_eq (tgt := 58) hx hb dX9_two_21 (by decide) (fun hc => ?_) (fun hc => ?_)
      · have h := h.1 hc
        exact wk_X9_two_58 S V hr hlocks x1 x2 x3 x4 x5 x6   post   _ _ _ _ h  hw (lv_sub hl [0, 1, 2, 3, 4, 5, 6] rfl)
      · have h := h.2 hc
        refine lv_iload hx hb dX9_two_24 (lv_at hl 4 rfl) ?_
        refine call_Si (As := [.int x4]) (rest := []) EvM_ok S V hw (mt_X9_isX l D q ad x4  σ3 _ h) ok_X9_isX ml_X9_243 ⟨(Nat.le_of_ble_eq_true rfl), (Nat.le_of_ble_eq_true rfl)⟩ ⟨rfl, rfl⟩ rfl hl.1 rfl (Nat.le_of_ble_eq_true rfl) dX9_two_26 (fun r4 σ4 H locs h hw => ?_)
        refine lv_if_eq (tgt := 58) hx hb dX9_two_29 (by decide) (fun hc => ?_) (fun hc => ?_)
        · have h := h.1 hc
          exact wk_X9_two_58 S V hr hlocks x1 x2 x3 x4 x5 x6   post   _ _ _ _ h  hw (lv_sub hl [0, 1, 2, 3, 4, 5, 6] rfl)
        · have h := h.2 hc
          refine lv_iload hx hb dX9_two_32 (lv_at hl 5 rfl) ?_
          refine lv_i2l (v := (Int32.toInt64 x5)) hx hb dX9_two_34 rfl ?_
          refine lv_lconst (v := 1) hx hb dX9_two_35 (by decide) ?_
          refine lv_ldc2 (v := 9) hx hb S.2.2.2.1 (gw_S S _ kc_X9_300) dX9_two_36 ?_
          refine call_Si (As := [.long (Int32.toInt64 x5), .long 1, .long 9]) (rest := []) EvM_ok S V hw (mt_X9_in l D q ad (Int32.toInt64 x5) 1 9  σ4 _ h) ok_X9_in ml_X9_92 ⟨(Nat.le_of_ble_eq_true rfl), (Nat.le_of_ble_eq_true rfl)⟩ ⟨rfl, rfl⟩ rfl hl.1 rfl (Nat.le_of_ble_eq_true rfl) dX9_two_39 (fun r5 σ5 H locs h hw => ?_)
          refine lv_if_eq (tgt := 58) hx hb dX9_two_42 (by decide) (fun hc => ?_) (fun hc => ?_)
          · have h := h.1 hc
            exact wk_X9_two_58 S V hr hlocks x1 x2 x3 x4 x5 x6   post   _ _ _ _ h  hw (lv_sub hl [0, 1, 2, 3, 4, 5, 6] rfl)
          · have h := h.2 hc
            refine lv_iload hx hb dX9_two_45 (lv_at hl 6 rfl) ?_
            refine lv_i2l (v := (Int32.toInt64 x6)) hx hb dX9_two_47 rfl ?_
            refine lv_lconst (v := 1) hx hb dX9_two_48 (by decide) ?_
            refine lv_ldc2 (v := 9) hx hb S.2.2.2.1 (gw_S S _ kc_X9_300) dX9_two_49 ?_
            refine call_Si (As := [.long (Int32.toInt64 x6), .long 1, .long 9]) (rest := []) EvM_ok S V hw (mt_X9_in l D q ad (Int32.toInt64 x6) 1 9  σ5 _ h) ok_X9_in ml_X9_92 ⟨(Nat.le_of_ble_eq_true rfl), (Nat.le_of_ble_eq_true rfl)⟩ ⟨rfl, rfl⟩ rfl hl.1 rfl (Nat.le_of_ble_eq_true rfl) dX9_two_52 (fun r6 σ6 H locs h hw => ?_)
            refine lv_if_ne (tgt := 61) hx hb dX9_two_55 (by decide) (fun hc => ?_) (fun hc => ?_)
            · have h := h.1 hc
              refine lv_aload_n hx hb dX9_two_61 rfl (lv_at hl 0 rfl) ?_
              refine gM_0_6 S V hw (Nat.le_of_ble_eq_true rfl) fl_X9_22 dX9_two_62 ?_
              refine lv_iload_n hx hb dX9_two_65 rfl (lv_at hl 1 rfl) ?_
              refine aM_5 S V hw (Nat.le_of_ble_eq_true rfl) h.1 (z := (σ6 5 0 x1.toNatClampNeg)) rfl dX9_two_66 ?_
              have h := h.2
              refine lv_if_eq (tgt := 79) hx hb dX9_two_67 (by decide) (fun hc => ?_) (fun hc => ?_)
              · have h := h.1 hc
                exact wk_X9_two_79 S V hr hlocks x1 x2 x3 x4 x5 x6   post   _ _ _ _ h  hw (lv_sub hl [0, 1, 2, 3, 4, 5, 6] rfl)
              · have h := h.2 hc
                refine lv_aload_n hx hb dX9_two_70 rfl (lv_at hl 0 rfl) ?_
                refine gM_0_6 S V hw (Nat.le_of_ble_eq_true rfl) fl_X9_22 dX9_two_71 ?_
                refine lv_iload_n hx hb dX9_two_74 rfl (lv_at hl 3 rfl) ?_
                refine aM_5 S V hw (Nat.le_of_ble_eq_true rfl) h.1 (z := (σ6 5 0 x3.toNatClampNeg)) rfl dX9_two_75 ?_
                have h := h.2
                refine lv_if_ne (tgt := 82) hx hb dX9_two_76 (by decide) (fun hc => ?_) (fun hc => ?_)
                · have h := h.1 hc
                  refine lv_aload_n hx hb dX9_two_82 rfl (lv_at hl 0 rfl) ?_
                  refine lv_iload_n hx hb dX9_two_83 rfl (lv_at hl 1 rfl) ?_
                  refine call_Vv (As := [.int x1]) (rest := []) EvM_ok S V hw (mt_X9_asTold l D q ad x1  σ6 _ h) ok_X9_asTold ml_X9_258 (rM_0 S V hw (Nat.le_of_ble_eq_true rfl)) ⟨(Nat.le_of_ble_eq_true rfl), (Nat.le_of_ble_eq_true rfl)⟩ ⟨rfl, rfl⟩ rfl hl.1 rfl (Nat.le_of_ble_eq_true rfl) dX9_two_84 (fun σ7 H locs h hw => ?_)
                  refine lv_aload_n hx hb dX9_two_87 rfl (lv_at hl 0 rfl) ?_
                  refine lv_iconst (v := 0) hx hb dX9_two_88 (by decide) ?_
                  refine lv_iload_n hx hb dX9_two_89 rfl (lv_at hl 2 rfl) ?_
                  refine lv_iconst (v := 0) hx hb dX9_two_90 (by decide) ?_
                  refine call_Vv (As := [.int 0, .int x2, .int 0]) (rest := []) EvM_ok S V hw (mt_X9_start l D q ad 0 x2 0  σ7 _ h) ok_X9_start ml_X9_249 (rM_0 S V hw (Nat.le_of_ble_eq_true rfl)) ⟨(Nat.le_of_ble_eq_true rfl), (Nat.le_of_ble_eq_true rfl)⟩ ⟨rfl, rfl⟩ rfl hl.1 rfl (Nat.le_of_ble_eq_true rfl) dX9_two_91 (fun σ8 H locs h hw => ?_)
                  refine lv_aload_n hx hb dX9_two_94 rfl (lv_at hl 0 rfl) ?_
                  refine lv_iconst (v := 1) hx hb dX9_two_95 (by decide) ?_
                  refine lv_iload hx hb dX9_two_96 (lv_at hl 4 rfl) ?_
                  refine lv_iconst (v := 0) hx hb dX9_two_98 (by decide) ?_
                  refine call_Vv (As := [.int 1, .int x4, .int 0]) (rest := []) EvM_ok S V hw (mt_X9_start l D q ad 1 x4 0  σ8 _ h) ok_X9_start ml_X9_249 (rM_0 S V hw (Nat.le_of_ble_eq_true rfl)) ⟨(Nat.le_of_ble_eq_true rfl), (Nat.le_of_ble_eq_true rfl)⟩ ⟨rfl, rfl⟩ rfl hl.1 rfl (Nat.le_of_ble_eq_true rfl) dX9_two_99 (fun σ9 H locs h hw => ?_)
                  refine lv_iconst (v := 0) hx hb dX9_two_102 (by decide) ?_
                  refine lv_istore (lv' := [(7, .int 0), (0, .ref (ad 0 0)), (1, .int x1), (2, .int x2), (3, .int x3), (4, .int x4), (5, .int x5), (6, .int x6)]) hx hb dX9_two_103 hl (by decide) rfl (fun ls hl => ?_)
                  obtain ⟨n9, h⟩ := h
                  exact wk_X9_two_105 S V hr hlocks x1 x2 x3 x4 x5 x6   post  n9 0 _ _ _ _ h  hw (lv_sub hl [1, 2, 3, 4, 5, 6, 7, 0] rfl)
                · have h := h.2 hc
                  exact wk_X9_two_79 S V hr hlocks x1 x2 x3 x4 x5 x6   post   _ _ _ _ h  hw (lv_sub hl [0, 1, 2, 3, 4, 5, 6] rfl)
            · have h := h.2 hc
              exact wk_X9_two_58 S V hr hlocks x1 x2 x3 x4 x5 x6   post   _ _ _ _ h  hw (lv_sub hl [0, 1, 2, 3, 4, 5, 6] rfl)
    · have h := h.2 hc
      exact wk_X9_two_14 S V hr hlocks x1 x2 x3 x4 x5 x6   post   _ _ _ _ h  hw (lv_sub hl [0, 1, 2, 3, 4, 5, 6] rfl)
theorem mt_X9_two (l : Launch) (D : va_G) (q : ClassId × ClassId × ClassId × ClassId) (ad : Nat → Nat → Nat) (x1 : Int32) (x2 : Int32) (x3 : Int32) (x4 : Int32) (x5 : Int32) (x6 : Int32) (σ : St) (post : Int32 → St → Prop) (h : wp_X9_two x1 x2 x3 x4 x5 x6 post σ) : cI l D clA LM ad (EM q ad) (EvM D q ad) yX9_two cX9_two 9 (some .int) { frames := 3, cells := 0, slots := 0, locals := 78 } [.ref (ad 0 0), .int x1, .int x2, .int x3, .int x4, .int x5, .int x6] σ post :=
  ent_i (by decide) (Nat.le_of_ble_eq_true rfl) (fun p e s m below meth c S V hr hlocks hw ls hl => wk_X9_two_0 S V hr hlocks x1 x2 x3 x4 x5 x6  post   σ _ _ ls h  hw (lv_sub hl [0, 1, 2, 3, 4, 5, 6] rfl))
def wp_X9_film_14 (x1 : Int32) (x2 : Int32) (post : Int32 → St → Prop)  (σ : St) : Prop := post (-3) σ
set_option maxHeartbeats 4000000 in
set_option maxRecDepth 100000 in
theorem wk_X9_film_14 {p : Program} {l : Launch} {e : Env} {s : State} {m : MethodId} {below : List Frame} {meth : Method} {c : Code} {D : va_G} {q : ClassId × ClassId × ClassId × ClassId} {ad : Nat → Nat → Nat} {args : Array Value} (S : CallFix p m c cX9_film 3 s args GW "OnChinModel") (V : EvM D q ad s) (hr : meth.sig.returnType = (some .int)) (hlocks : meth.locks = false) (x1 : Int32) (x2 : Int32) (post : Int32 → St → Prop)  : ∀ (σ : St) (H : Heap) (locs : List Loc) (ls : Array Slot), wp_X9_film_14 x1 x2 post  σ → wo D clA LM ad s.heap H locs (EM q ad σ) → lv_has ls 3 [(0, .ref (ad 0 0)), (1, .int x1), (2, .int x2)] → W p l e { frames := 2, cells := 0, slots := 0, locals := 45 } s m args below meth c H locs 0 0 (MQ below (zQi D clA LM ad (EM q ad) post) args s 0 0 (zA LM ad)) (F0 m 14 ls []) := by
  have hx := S.1
  have hb := S.2.1
  intro  σ H locs ls h  hw hl
  refine lv_bipush (v := (-3)) hx hb dX9_film_14 (by decide) ?_
  exact ret_i S hr hlocks hw h dX9_film_16
def wp_X9_film (x1 : Int32) (x2 : Int32) (post : Int32 → St → Prop)  (σ : St) : Prop := wp_X9_isX x1 (fun r1 σ1 => ((r1 = 0 → wp_X9_film_14 x1 x2 post  σ1) ∧ (¬ r1 = 0 → wp_X9_isV x2 (fun r2 σ2 => ((¬ r2 = 0 → ((¬ (σ2 0 0 37) = 24 → (vp_in (σ2 0 0 37) 25 ∧ (vp_in (σ2 0 0 37) 25 ∧ post ((σ2 0 0 37) + 1) (su (su (su σ2 14 0 ((σ2 0 0 37).toNatClampNeg) x1) 15 0 ((σ2 0 0 37).toNatClampNeg) x2) 0 0 37 ((σ2 0 0 37) + 1))))) ∧ ((σ2 0 0 37) = 24 → post (-5) σ2))) ∧ (r2 = 0 → wp_X9_film_14 x1 x2 post  σ2))) σ1))) σ
set_option maxHeartbeats 4000000 in
set_option maxRecDepth 100000 in
theorem wk_X9_film_0 {p : Program} {l : Launch} {e : Env} {s : State} {m : MethodId} {below : List Frame} {meth : Method} {c : Code} {D : va_G} {q : ClassId × ClassId × ClassId × ClassId} {ad : Nat → Nat → Nat} {args : Array Value} (S : CallFix p m c cX9_film 3 s args GW "OnChinModel") (V : EvM D q ad s) (hr : meth.sig.returnType = (some .int)) (hlocks : meth.locks = false) (x1 : Int32) (x2 : Int32) (post : Int32 → St → Prop)  : ∀ (σ : St) (H : Heap) (locs : List Loc) (ls : Array Slot), wp_X9_film x1 x2 post  σ → wo D clA LM ad s.heap H locs (EM q ad σ) → lv_has ls 3 [(0, .ref (ad 0 0)), (1, .int x1), (2, .int x2)] → W p l e { frames := 2, cells := 0, slots := 0, locals := 45 } s m args below meth c H locs 0 0 (MQ below (zQi D clA LM ad (EM q ad) post) args s 0 0 (zA LM ad)) (F0 m 0 ls []) := by
  have hx := S.1
  have hb := S.2.1
  intro  σ H locs ls h  hw hl
  have h : wp_X9_isX x1 (fun r1 σ1 => ((r1 = 0 → wp_X9_film_14 x1 x2 post  σ1) ∧ (¬ r1 = 0 → wp_X9_isV x2 (fun r2 σ2 => ((¬ r2 = 0 → ((¬ (σ2 0 0 37) = 24 → (vp_in (σ2 0 0 37) 25 ∧ (vp_in (σ2 0 0 37) 25 ∧ post ((σ2 0 0 37) + 1) (su (su (su σ2 14 0 ((σ2 0 0 37).toNatClampNeg) x1) 15 0 ((σ2 0 0 37).toNatClampNeg) x2) 0 0 37 ((σ2 0 0 37) + 1))))) ∧ ((σ2 0 0 37) = 24 → post (-5) σ2))) ∧ (r2 = 0 → wp_X9_film_14 x1 x2 post  σ2))) σ1))) σ := h
  refine lv_iload_n hx hb dX9_film_0 rfl (lv_at hl 1 rfl) ?_
  refine call_Si (As := [.int x1]) (rest := []) EvM_ok S V hw (mt_X9_isX l D q ad x1  σ _ h) ok_X9_isX ml_X9_243 ⟨(Nat.le_of_ble_eq_true rfl), (Nat.le_of_ble_eq_true rfl)⟩ ⟨rfl, rfl⟩ rfl hl.1 rfl (Nat.le_of_ble_eq_true rfl) dX9_film_1 (fun r1 σ1 H locs h hw => ?_)
  refine lv_if_eq (tgt := 14) hx hb dX9_film_4 (by decide) (fun hc => ?_) (fun hc => ?_)
  · have h := h.1 hc
    exact wk_X9_film_14 S V hr hlocks x1 x2   post   _ _ _ _ h  hw (lv_sub hl [0, 1, 2] rfl)
  · have h := h.2 hc
    refine lv_iload_n hx hb dX9_film_7 rfl (lv_at hl 2 rfl) ?_
    refine call_Si (As := [.int x2]) (rest := []) EvM_ok S V hw (mt_X9_isV l D q ad x2  σ1 _ h) ok_X9_isV ml_X9_246 ⟨(Nat.le_of_ble_eq_true rfl), (Nat.le_of_ble_eq_true rfl)⟩ ⟨rfl, rfl⟩ rfl hl.1 rfl (Nat.le_of_ble_eq_true rfl) dX9_film_8 (fun r2 σ2 H locs h hw => ?_)
    refine lv_if_ne (tgt := 17) hx hb dX9_film_11 (by decide) (fun hc => ?_) (fun hc => ?_)
    · have h := h.1 hc
      refine lv_aload_n hx hb dX9_film_17 rfl (lv_at hl 0 rfl) ?_
      refine gM_0_37 S V hw (Nat.le_of_ble_eq_true rfl) fl_X9_302 rfl dX9_film_18 ?_
      refine lv_bipush (v := 24) hx hb dX9_film_21 (by decide) ?_
      refine lv_icmp_ne (tgt := 29) hx hb dX9_film_23 (by decide) (fun hc => ?_) (fun hc => ?_)
      · have h := h.1 hc
        refine lv_aload_n hx hb dX9_film_29 rfl (lv_at hl 0 rfl) ?_
        refine gM_0_35 S V hw (Nat.le_of_ble_eq_true rfl) fl_X9_71 dX9_film_30 ?_
        refine lv_aload_n hx hb dX9_film_33 rfl (lv_at hl 0 rfl) ?_
        refine gM_0_37 S V hw (Nat.le_of_ble_eq_true rfl) fl_X9_302 rfl dX9_film_34 ?_
        refine lv_iload_n hx hb dX9_film_37 rfl (lv_at hl 1 rfl) ?_
        refine sM_14 S V hw (Nat.le_of_ble_eq_true rfl) h.1 dX9_film_38 (fun H locs hw => ?_)
        have h := h.2
        refine lv_aload_n hx hb dX9_film_39 rfl (lv_at hl 0 rfl) ?_
        refine gM_0_36 S V hw (Nat.le_of_ble_eq_true rfl) fl_X9_74 dX9_film_40 ?_
        refine lv_aload_n hx hb dX9_film_43 rfl (lv_at hl 0 rfl) ?_
        refine gM_0_37 S V hw (Nat.le_of_ble_eq_true rfl) fl_X9_302 (su_nc rfl) dX9_film_44 ?_
        refine lv_iload_n hx hb dX9_film_47 rfl (lv_at hl 2 rfl) ?_
        refine sM_15 S V hw (Nat.le_of_ble_eq_true rfl) h.1 dX9_film_48 (fun H locs hw => ?_)
        have h := h.2
        refine lv_aload_n hx hb dX9_film_49 rfl (lv_at hl 0 rfl) ?_
        refine lv_dup hx hb dX9_film_50 rfl ?_
        refine gM_0_37 S V hw (Nat.le_of_ble_eq_true rfl) fl_X9_302 ((su_nc rfl).trans (su_nc rfl)) dX9_film_51 ?_
        refine lv_iconst (v := 1) hx hb dX9_film_54 (by decide) ?_
        refine lv_iadd hx hb dX9_film_55 ?_
        refine pM_0_37 S V hw (Nat.le_of_ble_eq_true rfl) fl_X9_302 dX9_film_56 (fun H locs hw => ?_)
        refine lv_aload_n hx hb dX9_film_59 rfl (lv_at hl 0 rfl) ?_
        refine gM_0_37 S V hw (Nat.le_of_ble_eq_true rfl) fl_X9_302 su_eq dX9_film_60 ?_
        exact ret_i S hr hlocks hw h dX9_film_63
      · have h := h.2 hc
        refine lv_bipush (v := (-5)) hx hb dX9_film_26 (by decide) ?_
        exact ret_i S hr hlocks hw h dX9_film_28
    · have h := h.2 hc
      exact wk_X9_film_14 S V hr hlocks x1 x2   post   _ _ _ _ h  hw (lv_sub hl [0, 1, 2] rfl)
theorem mt_X9_film (l : Launch) (D : va_G) (q : ClassId × ClassId × ClassId × ClassId) (ad : Nat → Nat → Nat) (x1 : Int32) (x2 : Int32) (σ : St) (post : Int32 → St → Prop) (h : wp_X9_film x1 x2 post σ) : cI l D clA LM ad (EM q ad) (EvM D q ad) yX9_film cX9_film 3 (some .int) { frames := 2, cells := 0, slots := 0, locals := 45 } [.ref (ad 0 0), .int x1, .int x2] σ post :=
  ent_i (by decide) (Nat.le_of_ble_eq_true rfl) (fun p e s m below meth c S V hr hlocks hw ls hl => wk_X9_film_0 S V hr hlocks x1 x2  post   σ _ _ ls h  hw (lv_sub hl [0, 1, 2] rfl))
def wp_X9_wind (post : Int32 → St → Prop)  (σ : St) : Prop := post (σ 0 0 37) (su σ 0 0 37 0)
set_option maxHeartbeats 4000000 in
set_option maxRecDepth 100000 in
theorem wk_X9_wind_0 {p : Program} {l : Launch} {e : Env} {s : State} {m : MethodId} {below : List Frame} {meth : Method} {c : Code} {D : va_G} {q : ClassId × ClassId × ClassId × ClassId} {ad : Nat → Nat → Nat} {args : Array Value} (S : CallFix p m c cX9_wind 2 s args GW "OnChinModel") (V : EvM D q ad s) (hr : meth.sig.returnType = (some .int)) (hlocks : meth.locks = false) (post : Int32 → St → Prop)  : ∀ (σ : St) (H : Heap) (locs : List Loc) (ls : Array Slot), wp_X9_wind post  σ → wo D clA LM ad s.heap H locs (EM q ad σ) → lv_has ls 2 [(0, .ref (ad 0 0))] → W p l e { frames := 0, cells := 0, slots := 0, locals := 0 } s m args below meth c H locs 0 0 (MQ below (zQi D clA LM ad (EM q ad) post) args s 0 0 (zA LM ad)) (F0 m 0 ls []) := by
  have hx := S.1
  have hb := S.2.1
  intro  σ H locs ls h  hw hl
  refine lv_aload_n hx hb dX9_wind_0 rfl (lv_at hl 0 rfl) ?_
  refine gM_0_37 S V hw (Nat.le_of_ble_eq_true rfl) fl_X9_302 rfl dX9_wind_1 ?_
  refine lv_istore_n (lv' := [(1, .int (σ 0 0 37)), (0, .ref (ad 0 0))]) hx hb dX9_wind_4 rfl hl (by decide) rfl (fun ls hl => ?_)
  refine lv_aload_n hx hb dX9_wind_5 rfl (lv_at hl 1 rfl) ?_
  refine lv_iconst (v := 0) hx hb dX9_wind_6 (by decide) ?_
  refine pM_0_37 S V hw (Nat.le_of_ble_eq_true rfl) fl_X9_302 dX9_wind_7 (fun H locs hw => ?_)
  refine lv_iload_n hx hb dX9_wind_10 rfl (lv_at hl 0 rfl) ?_
  exact ret_i S hr hlocks hw h dX9_wind_11
theorem mt_X9_wind (l : Launch) (D : va_G) (q : ClassId × ClassId × ClassId × ClassId) (ad : Nat → Nat → Nat)  (σ : St) (post : Int32 → St → Prop) (h : wp_X9_wind post σ) : cI l D clA LM ad (EM q ad) (EvM D q ad) yX9_wind cX9_wind 2 (some .int) { frames := 0, cells := 0, slots := 0, locals := 0 } [.ref (ad 0 0)] σ post :=
  ent_i (by decide) (Nat.le_of_ble_eq_true rfl) (fun p e s m below meth c S V hr hlocks hw ls hl => wk_X9_wind_0 S V hr hlocks   post   σ _ _ ls h  hw (lv_sub hl [0] rfl))
def wp_X9_mindsAt_39 (x1 : Int32) (post : Int32 → St → Prop) (xs1 : Int32) (xs3 : Int32) (σ : St) : Prop := (vp_in xs3 25 ∧ wp_X9_minds xs1 (σ 14 0 xs3.toNatClampNeg) (fun r1 σ1 => post r1 σ1) σ)
set_option maxHeartbeats 4000000 in
set_option maxRecDepth 100000 in
theorem wk_X9_mindsAt_39 {p : Program} {l : Launch} {e : Env} {s : State} {m : MethodId} {below : List Frame} {meth : Method} {c : Code} {D : va_G} {q : ClassId × ClassId × ClassId × ClassId} {ad : Nat → Nat → Nat} {args : Array Value} (S : CallFix p m c cX9_mindsAt 4 s args GW "OnChinModel") (V : EvM D q ad s) (hr : meth.sig.returnType = (some .int)) (hlocks : meth.locks = false) (x1 : Int32) (post : Int32 → St → Prop)  : ∀ (xs1 : Int32) (xs3 : Int32) (σ : St) (H : Heap) (locs : List Loc) (ls : Array Slot), wp_X9_mindsAt_39 x1 post xs1 xs3 σ → wo D clA LM ad s.heap H locs (EM q ad σ) → lv_has ls 4 [(0, .ref (ad 0 0)), (1, .int x1)] → W p l e { frames := 1, cells := 0, slots := 0, locals := 23 } s m args below meth c H locs 0 0 (MQ below (zQi D clA LM ad (EM q ad) post) args s 0 0 (zA LM ad)) (F0 m 39 ls [.int xs3, .ref (ad 14 0), .int xs1, .ref (ad 0 0)]) := by
  have hx := S.1
  have hb := S.2.1
  intro xs1 xs3 σ H locs ls h  hw hl
  refine aM_14 S V hw (Nat.le_of_ble_eq_true rfl) h.1 (z := (σ 14 0 xs3.toNatClampNeg)) rfl dX9_mindsAt_39 ?_
  have h := h.2
  refine call_Vi (As := [.int xs1, .int (σ 14 0 xs3.toNatClampNeg)]) (rest := []) EvM_ok S V hw (mt_X9_minds l D q ad xs1 (σ 14 0 xs3.toNatClampNeg)  σ _ h) ok_X9_minds ml_X9_228 (rM_0 S V hw (Nat.le_of_ble_eq_true rfl)) ⟨(Nat.le_of_ble_eq_true rfl), (Nat.le_of_ble_eq_true rfl)⟩ ⟨rfl, rfl⟩ rfl hl.1 rfl (Nat.le_of_ble_eq_true rfl) dX9_mindsAt_40 (fun r1 σ1 H locs h hw => ?_)
  exact ret_i S hr hlocks hw h dX9_mindsAt_43
def wp_X9_mindsAt_25 (x1 : Int32) (post : Int32 → St → Prop) (x3 : Int32) (xs2 : Int32) (σ : St) : Prop := (vp_in xs2 25 ∧ ((x3 ≤ 0 → wp_X9_mindsAt_39 x1 post (σ 14 0 xs2.toNatClampNeg) 0 σ) ∧ (¬ x3 ≤ 0 → wp_X9_mindsAt_39 x1 post (σ 14 0 xs2.toNatClampNeg) x3 σ)))
set_option maxHeartbeats 4000000 in
set_option maxRecDepth 100000 in
theorem wk_X9_mindsAt_25 {p : Program} {l : Launch} {e : Env} {s : State} {m : MethodId} {below : List Frame} {meth : Method} {c : Code} {D : va_G} {q : ClassId × ClassId × ClassId × ClassId} {ad : Nat → Nat → Nat} {args : Array Value} (S : CallFix p m c cX9_mindsAt 4 s args GW "OnChinModel") (V : EvM D q ad s) (hr : meth.sig.returnType = (some .int)) (hlocks : meth.locks = false) (x1 : Int32) (post : Int32 → St → Prop)  : ∀ (x3 : Int32) (xs2 : Int32) (σ : St) (H : Heap) (locs : List Loc) (ls : Array Slot), wp_X9_mindsAt_25 x1 post x3 xs2 σ → wo D clA LM ad s.heap H locs (EM q ad σ) → lv_has ls 4 [(0, .ref (ad 0 0)), (1, .int x1), (3, .int x3)] → W p l e { frames := 1, cells := 0, slots := 0, locals := 23 } s m args below meth c H locs 0 0 (MQ below (zQi D clA LM ad (EM q ad) post) args s 0 0 (zA LM ad)) (F0 m 25 ls [.int xs2, .ref (ad 14 0), .ref (ad 0 0)]) := by
  have hx := S.1
  have hb := S.2.1
  intro x3 xs2 σ H locs ls h  hw hl
  refine aM_14 S V hw (Nat.le_of_ble_eq_true rfl) h.1 (z := (σ 14 0 xs2.toNatClampNeg)) rfl dX9_mindsAt_25 ?_
  have h := h.2
  refine lv_aload_n hx hb dX9_mindsAt_26 rfl (lv_at hl 0 rfl) ?_
  refine gM_0_35 S V hw (Nat.le_of_ble_eq_true rfl) fl_X9_71 dX9_mindsAt_27 ?_
  refine lv_iload_n hx hb dX9_mindsAt_30 rfl (lv_at hl 2 rfl) ?_
  refine lv_if_le (tgt := 38) hx hb dX9_mindsAt_31 (by decide) (fun hc => ?_) (fun hc => ?_)
  · have h := h.1 hc
    refine lv_iconst (v := 0) hx hb dX9_mindsAt_38 (by decide) ?_
    exact wk_X9_mindsAt_39 S V hr hlocks x1   post  (σ 14 0 xs2.toNatClampNeg) 0 _ _ _ _ h  hw (lv_sub hl [0, 1] rfl)
  · have h := h.2 hc
    refine lv_iload_n hx hb dX9_mindsAt_34 rfl (lv_at hl 2 rfl) ?_
    refine lv_goto (tgt := 39) hx hb dX9_mindsAt_35 (by decide) ?_
    exact wk_X9_mindsAt_39 S V hr hlocks x1   post  (σ 14 0 xs2.toNatClampNeg) x3 _ _ _ _ h  hw (lv_sub hl [0, 1] rfl)
def wp_X9_mindsAt (x1 : Int32) (post : Int32 → St → Prop)  (σ : St) : Prop := (((x1 - (σ 0 0 30)) ≤ 0 → wp_X9_mindsAt_25 x1 post ((x1 - (σ 0 0 30)) - 1) 0 σ) ∧ (¬ (x1 - (σ 0 0 30)) ≤ 0 → wp_X9_mindsAt_25 x1 post ((x1 - (σ 0 0 30)) - 1) (x1 - (σ 0 0 30)) σ))
set_option maxHeartbeats 4000000 in
set_option maxRecDepth 100000 in
theorem wk_X9_mindsAt_0 {p : Program} {l : Launch} {e : Env} {s : State} {m : MethodId} {below : List Frame} {meth : Method} {c : Code} {D : va_G} {q : ClassId × ClassId × ClassId × ClassId} {ad : Nat → Nat → Nat} {args : Array Value} (S : CallFix p m c cX9_mindsAt 4 s args GW "OnChinModel") (V : EvM D q ad s) (hr : meth.sig.returnType = (some .int)) (hlocks : meth.locks = false) (x1 : Int32) (post : Int32 → St → Prop)  : ∀ (σ : St) (H : Heap) (locs : List Loc) (ls : Array Slot), wp_X9_mindsAt x1 post  σ → wo D clA LM ad s.heap H locs (EM q ad σ) → lv_has ls 4 [(0, .ref (ad 0 0)), (1, .int x1)] → W p l e { frames := 1, cells := 0, slots := 0, locals := 23 } s m args below meth c H locs 0 0 (MQ below (zQi D clA LM ad (EM q ad) post) args s 0 0 (zA LM ad)) (F0 m 0 ls []) := by
  have hx := S.1
  have hb := S.2.1
  intro  σ H locs ls h  hw hl
  refine lv_iload_n hx hb dX9_mindsAt_0 rfl (lv_at hl 1 rfl) ?_
  refine lv_aload_n hx hb dX9_mindsAt_1 rfl (lv_at hl 0 rfl) ?_
  refine gM_0_30 S V hw (Nat.le_of_ble_eq_true rfl) fl_X9_207 rfl dX9_mindsAt_2 ?_
  refine lv_isub hx hb dX9_mindsAt_5 ?_
  refine lv_istore_n (lv' := [(2, .int (x1 - (σ 0 0 30))), (0, .ref (ad 0 0)), (1, .int x1)]) hx hb dX9_mindsAt_6 rfl hl (by decide) rfl (fun ls hl => ?_)
  refine lv_iload_n hx hb dX9_mindsAt_7 rfl (lv_at hl 0 rfl) ?_
  refine lv_iconst (v := 1) hx hb dX9_mindsAt_8 (by decide) ?_
  refine lv_isub hx hb dX9_mindsAt_9 ?_
  refine lv_istore_n (lv' := [(3, .int ((x1 - (σ 0 0 30)) - 1)), (2, .int (x1 - (σ 0 0 30))), (0, .ref (ad 0 0)), (1, .int x1)]) hx hb dX9_mindsAt_10 rfl hl (by decide) rfl (fun ls hl => ?_)
  refine lv_aload_n hx hb dX9_mindsAt_11 rfl (lv_at hl 2 rfl) ?_
  refine lv_aload_n hx hb dX9_mindsAt_12 rfl (lv_at hl 2 rfl) ?_
  refine gM_0_35 S V hw (Nat.le_of_ble_eq_true rfl) fl_X9_71 dX9_mindsAt_13 ?_
  refine lv_iload_n hx hb dX9_mindsAt_16 rfl (lv_at hl 1 rfl) ?_
  refine lv_if_le (tgt := 24) hx hb dX9_mindsAt_17 (by decide) (fun hc => ?_) (fun hc => ?_)
  · have h := h.1 hc
    refine lv_iconst (v := 0) hx hb dX9_mindsAt_24 (by decide) ?_
    exact wk_X9_mindsAt_25 S V hr hlocks x1   post  ((x1 - (σ 0 0 30)) - 1) 0 _ _ _ _ h  hw (lv_sub hl [2, 3, 0] rfl)
  · have h := h.2 hc
    refine lv_iload_n hx hb dX9_mindsAt_20 rfl (lv_at hl 1 rfl) ?_
    refine lv_goto (tgt := 25) hx hb dX9_mindsAt_21 (by decide) ?_
    exact wk_X9_mindsAt_25 S V hr hlocks x1   post  ((x1 - (σ 0 0 30)) - 1) (x1 - (σ 0 0 30)) _ _ _ _ h  hw (lv_sub hl [2, 3, 0] rfl)
theorem mt_X9_mindsAt (l : Launch) (D : va_G) (q : ClassId × ClassId × ClassId × ClassId) (ad : Nat → Nat → Nat) (x1 : Int32) (σ : St) (post : Int32 → St → Prop) (h : wp_X9_mindsAt x1 post σ) : cI l D clA LM ad (EM q ad) (EvM D q ad) yX9_mindsAt cX9_mindsAt 4 (some .int) { frames := 1, cells := 0, slots := 0, locals := 23 } [.ref (ad 0 0), .int x1] σ post :=
  ent_i (by decide) (Nat.le_of_ble_eq_true rfl) (fun p e s m below meth c S V hr hlocks hw ls hl => wk_X9_mindsAt_0 S V hr hlocks x1  post   σ _ _ ls h  hw (lv_sub hl [0, 1] rfl))
def wp_X9_fitsBy_70 (x1 : Int32) (post : Int32 → St → Prop) (x2 : Int32) (σ : St) : Prop := (narrow .boolean (.int x2) = .int x2 ∧ post x2 σ)
set_option maxHeartbeats 4000000 in
set_option maxRecDepth 100000 in
theorem wk_X9_fitsBy_70 {p : Program} {l : Launch} {e : Env} {s : State} {m : MethodId} {below : List Frame} {meth : Method} {c : Code} {D : va_G} {q : ClassId × ClassId × ClassId × ClassId} {ad : Nat → Nat → Nat} {args : Array Value} (S : CallFix p m c cX9_fitsBy 4 s args GW "OnChinModel") (V : EvM D q ad s) (hr : meth.sig.returnType = (some .boolean)) (hlocks : meth.locks = false) (x1 : Int32) (post : Int32 → St → Prop)  : ∀ (x2 : Int32) (σ : St) (H : Heap) (locs : List Loc) (ls : Array Slot), wp_X9_fitsBy_70 x1 post x2 σ → wo D clA LM ad s.heap H locs (EM q ad σ) → lv_has ls 4 [(0, .ref (ad 0 0)), (1, .int x1), (2, .int x2)] → W p l e { frames := 2, cells := 0, slots := 0, locals := 46 } s m args below meth c H locs 0 0 (MQ below (zQi D clA LM ad (EM q ad) post) args s 0 0 (zA LM ad)) (F0 m 70 ls []) := by
  have hx := S.1
  have hb := S.2.1
  intro x2 σ H locs ls h  hw hl
  refine lv_iload_n hx hb dX9_fitsBy_70 rfl (lv_at hl 2 rfl) ?_
  exact ret_z S hr hlocks hw h.1 h.2 dX9_fitsBy_71
def wp_X9_fitsBy_63 (x1 : Int32) (K32 : Int32 → Int32 → St → Prop) (post : Int32 → St → Prop) (x3 : Int32) (xs0 : Int32) (σ : St) : Prop := K32 xs0 (x3 + 1) σ
set_option maxHeartbeats 4000000 in
set_option maxRecDepth 100000 in
theorem wk_X9_fitsBy_63 {p : Program} {l : Launch} {e : Env} {s : State} {m : MethodId} {below : List Frame} {meth : Method} {c : Code} {D : va_G} {q : ClassId × ClassId × ClassId × ClassId} {ad : Nat → Nat → Nat} {args : Array Value} (S : CallFix p m c cX9_fitsBy 4 s args GW "OnChinModel") (V : EvM D q ad s) (hr : meth.sig.returnType = (some .boolean)) (hlocks : meth.locks = false) (x1 : Int32) (K32 : Int32 → Int32 → St → Prop) (post : Int32 → St → Prop) (hK32 : ∀ (x2 : Int32) (x3 : Int32) (σ : St) (H : Heap) (locs : List Loc) (ls : Array Slot), K32 x2 x3 σ → wo D clA LM ad s.heap H locs (EM q ad σ) → lv_has ls 4 [(0, .ref (ad 0 0)), (1, .int x1), (2, .int x2), (3, .int x3)] → W p l e { frames := 2, cells := 0, slots := 0, locals := 46 } s m args below meth c H locs 0 0 (MQ below (zQi D clA LM ad (EM q ad) post) args s 0 0 (zA LM ad)) (F0 m 32 ls [])) : ∀ (x3 : Int32) (xs0 : Int32) (σ : St) (H : Heap) (locs : List Loc) (ls : Array Slot), wp_X9_fitsBy_63 x1 K32 post x3 xs0 σ → wo D clA LM ad s.heap H locs (EM q ad σ) → lv_has ls 4 [(0, .ref (ad 0 0)), (1, .int x1), (3, .int x3)] → W p l e { frames := 2, cells := 0, slots := 0, locals := 46 } s m args below meth c H locs 0 0 (MQ below (zQi D clA LM ad (EM q ad) post) args s 0 0 (zA LM ad)) (F0 m 63 ls [.int xs0]) := by
  have hx := S.1
  have hb := S.2.1
  intro x3 xs0 σ H locs ls h  hw hl
  refine lv_istore_n (lv' := [(2, .int xs0), (0, .ref (ad 0 0)), (1, .int x1), (3, .int x3)]) hx hb dX9_fitsBy_63 rfl hl (by decide) rfl (fun ls hl => ?_)
  refine lv_iinc (v := (x3 + 1)) (lv' := [(3, .int (x3 + 1)), (2, .int xs0), (0, .ref (ad 0 0)), (1, .int x1)]) hx hb dX9_fitsBy_64 hl (k := 3) rfl rfl (by decide) rfl (fun ls hl => ?_)
  refine lv_goto (tgt := 32) hx hb dX9_fitsBy_67 (by decide) ?_
  exact hK32 xs0 (x3 + 1) _ _ _ _ h  hw (lv_sub hl [2, 3, 1, 0] rfl)
def wp_X9_fitsBy_32 (x1 : Int32) (post : Int32 → St → Prop) : Nat → Int32 → Int32 → St → Prop
  | 0 => fun _ _ _ => False
  | n + 1 => fun x2 x3 σ => (((σ 0 0 37) ≤ x3 → wp_X9_fitsBy_70 x1 post x2 σ) ∧ (¬ (σ 0 0 37) ≤ x3 → ((x2 = 0 → wp_X9_fitsBy_70 x1 post x2 σ) ∧ (¬ x2 = 0 → wp_X9_mindsAt x3 (fun r1 σ1 => (vp_in x3 25 ∧ ((¬ r1 = (σ1 15 0 x3.toNatClampNeg) → wp_X9_fitsBy_63 x1 (fun y0 y1 τ => wp_X9_fitsBy_32 x1 post n y0 y1 τ) post x3 0 σ1) ∧ (r1 = (σ1 15 0 x3.toNatClampNeg) → wp_X9_fitsBy_63 x1 (fun y0 y1 τ => wp_X9_fitsBy_32 x1 post n y0 y1 τ) post x3 1 σ1)))) σ))))
set_option maxHeartbeats 4000000 in
set_option maxRecDepth 100000 in
theorem wk_X9_fitsBy_32 {p : Program} {l : Launch} {e : Env} {s : State} {m : MethodId} {below : List Frame} {meth : Method} {c : Code} {D : va_G} {q : ClassId × ClassId × ClassId × ClassId} {ad : Nat → Nat → Nat} {args : Array Value} (S : CallFix p m c cX9_fitsBy 4 s args GW "OnChinModel") (V : EvM D q ad s) (hr : meth.sig.returnType = (some .boolean)) (hlocks : meth.locks = false) (x1 : Int32) (post : Int32 → St → Prop)  : ∀ (n : Nat) (x2 : Int32) (x3 : Int32) (σ : St) (H : Heap) (locs : List Loc) (ls : Array Slot), wp_X9_fitsBy_32 x1 post n x2 x3 σ → wo D clA LM ad s.heap H locs (EM q ad σ) → lv_has ls 4 [(0, .ref (ad 0 0)), (1, .int x1), (2, .int x2), (3, .int x3)] → W p l e { frames := 2, cells := 0, slots := 0, locals := 46 } s m args below meth c H locs 0 0 (MQ below (zQi D clA LM ad (EM q ad) post) args s 0 0 (zA LM ad)) (F0 m 32 ls []) := by
  have hx := S.1
  have hb := S.2.1
  intro n
  induction n with
  | zero => intro x2 x3 σ H locs ls h; exact False.elim h
  | succ n ih =>
    intro x2 x3 σ H locs ls h  hw hl
    refine lv_iload_n hx hb dX9_fitsBy_32 rfl (lv_at hl 3 rfl) ?_
    refine lv_aload_n hx hb dX9_fitsBy_33 rfl (lv_at hl 0 rfl) ?_
    refine gM_0_37 S V hw (Nat.le_of_ble_eq_true rfl) fl_X9_302 rfl dX9_fitsBy_34 ?_
    refine lv_icmp_ge (tgt := 70) hx hb dX9_fitsBy_37 (by decide) (fun hc => ?_) (fun hc => ?_)
    · have h := h.1 hc
      exact wk_X9_fitsBy_70 S V hr hlocks x1   post  x2 _ _ _ _ h  hw (lv_sub hl [0, 1, 2] rfl)
    · have h := h.2 hc
      refine lv_iload_n hx hb dX9_fitsBy_40 rfl (lv_at hl 2 rfl) ?_
      refine lv_if_eq (tgt := 70) hx hb dX9_fitsBy_41 (by decide) (fun hc => ?_) (fun hc => ?_)
      · have h := h.1 hc
        exact wk_X9_fitsBy_70 S V hr hlocks x1   post  x2 _ _ _ _ h  hw (lv_sub hl [0, 1, 2] rfl)
      · have h := h.2 hc
        refine lv_aload_n hx hb dX9_fitsBy_44 rfl (lv_at hl 0 rfl) ?_
        refine lv_iload_n hx hb dX9_fitsBy_45 rfl (lv_at hl 3 rfl) ?_
        refine call_Vi (As := [.int x3]) (rest := []) EvM_ok S V hw (mt_X9_mindsAt l D q ad x3  σ _ h) ok_X9_mindsAt ml_X9_305 (rM_0 S V hw (Nat.le_of_ble_eq_true rfl)) ⟨(Nat.le_of_ble_eq_true rfl), (Nat.le_of_ble_eq_true rfl)⟩ ⟨rfl, rfl⟩ rfl hl.1 rfl (Nat.le_of_ble_eq_true rfl) dX9_fitsBy_46 (fun r1 σ1 H locs h hw => ?_)
        refine lv_aload_n hx hb dX9_fitsBy_49 rfl (lv_at hl 0 rfl) ?_
        refine gM_0_36 S V hw (Nat.le_of_ble_eq_true rfl) fl_X9_74 dX9_fitsBy_50 ?_
        refine lv_iload_n hx hb dX9_fitsBy_53 rfl (lv_at hl 3 rfl) ?_
        refine aM_15 S V hw (Nat.le_of_ble_eq_true rfl) h.1 (z := (σ1 15 0 x3.toNatClampNeg)) rfl dX9_fitsBy_54 ?_
        have h := h.2
        refine lv_icmp_ne (tgt := 62) hx hb dX9_fitsBy_55 (by decide) (fun hc => ?_) (fun hc => ?_)
        · have h := h.1 hc
          refine lv_iconst (v := 0) hx hb dX9_fitsBy_62 (by decide) ?_
          exact wk_X9_fitsBy_63 S V hr hlocks x1  (fun y0 y1 τ => wp_X9_fitsBy_32 x1 post n y0 y1 τ) post ih x3 0 _ _ _ _ h  hw (lv_sub hl [0, 1, 3] rfl)
        · have h := h.2 hc
          refine lv_iconst (v := 1) hx hb dX9_fitsBy_58 (by decide) ?_
          refine lv_goto (tgt := 63) hx hb dX9_fitsBy_59 (by decide) ?_
          exact wk_X9_fitsBy_63 S V hr hlocks x1  (fun y0 y1 τ => wp_X9_fitsBy_32 x1 post n y0 y1 τ) post ih x3 1 _ _ _ _ h  hw (lv_sub hl [0, 1, 3] rfl)
def wp_X9_fitsBy (x1 : Int32) (post : Int32 → St → Prop)  (σ : St) : Prop := ∃ nn, wp_X9_fitsBy_32 x1 post nn 1 0 (su (su (su σ 0 0 30 (x1 / 441)) 0 0 28 ((x1 / 21) - (x1 / 21) / 21 * 21)) 0 0 29 (x1 - x1 / 21 * 21))
set_option maxHeartbeats 4000000 in
set_option maxRecDepth 100000 in
theorem wk_X9_fitsBy_0 {p : Program} {l : Launch} {e : Env} {s : State} {m : MethodId} {below : List Frame} {meth : Method} {c : Code} {D : va_G} {q : ClassId × ClassId × ClassId × ClassId} {ad : Nat → Nat → Nat} {args : Array Value} (S : CallFix p m c cX9_fitsBy 4 s args GW "OnChinModel") (V : EvM D q ad s) (hr : meth.sig.returnType = (some .boolean)) (hlocks : meth.locks = false) (x1 : Int32) (post : Int32 → St → Prop)  : ∀ (σ : St) (H : Heap) (locs : List Loc) (ls : Array Slot), wp_X9_fitsBy x1 post  σ → wo D clA LM ad s.heap H locs (EM q ad σ) → lv_has ls 4 [(0, .ref (ad 0 0)), (1, .int x1)] → W p l e { frames := 2, cells := 0, slots := 0, locals := 46 } s m args below meth c H locs 0 0 (MQ below (zQi D clA LM ad (EM q ad) post) args s 0 0 (zA LM ad)) (F0 m 0 ls []) := by
  have hx := S.1
  have hb := S.2.1
  intro  σ H locs ls h  hw hl
  refine lv_aload_n hx hb dX9_fitsBy_0 rfl (lv_at hl 0 rfl) ?_
  refine lv_iload_n hx hb dX9_fitsBy_1 rfl (lv_at hl 1 rfl) ?_
  refine lv_sipush (v := 441) hx hb dX9_fitsBy_2 (by decide) ?_
  refine lv_idiv hx hb dX9_fitsBy_5 (by decide) ?_
  refine pM_0_30 S V hw (Nat.le_of_ble_eq_true rfl) fl_X9_207 dX9_fitsBy_6 (fun H locs hw => ?_)
  refine lv_aload_n hx hb dX9_fitsBy_9 rfl (lv_at hl 0 rfl) ?_
  refine lv_iload_n hx hb dX9_fitsBy_10 rfl (lv_at hl 1 rfl) ?_
  refine lv_bipush (v := 21) hx hb dX9_fitsBy_11 (by decide) ?_
  refine lv_idiv hx hb dX9_fitsBy_13 (by decide) ?_
  refine lv_bipush (v := 21) hx hb dX9_fitsBy_14 (by decide) ?_
  refine lv_irem hx hb dX9_fitsBy_16 (by decide) ?_
  refine pM_0_28 S V hw (Nat.le_of_ble_eq_true rfl) fl_X9_201 dX9_fitsBy_17 (fun H locs hw => ?_)
  refine lv_aload_n hx hb dX9_fitsBy_20 rfl (lv_at hl 0 rfl) ?_
  refine lv_iload_n hx hb dX9_fitsBy_21 rfl (lv_at hl 1 rfl) ?_
  refine lv_bipush (v := 21) hx hb dX9_fitsBy_22 (by decide) ?_
  refine lv_irem hx hb dX9_fitsBy_24 (by decide) ?_
  refine pM_0_29 S V hw (Nat.le_of_ble_eq_true rfl) fl_X9_204 dX9_fitsBy_25 (fun H locs hw => ?_)
  refine lv_iconst (v := 1) hx hb dX9_fitsBy_28 (by decide) ?_
  refine lv_istore_n (lv' := [(2, .int 1), (0, .ref (ad 0 0)), (1, .int x1)]) hx hb dX9_fitsBy_29 rfl hl (by decide) rfl (fun ls hl => ?_)
  refine lv_iconst (v := 0) hx hb dX9_fitsBy_30 (by decide) ?_
  refine lv_istore_n (lv' := [(3, .int 0), (2, .int 1), (0, .ref (ad 0 0)), (1, .int x1)]) hx hb dX9_fitsBy_31 rfl hl (by decide) rfl (fun ls hl => ?_)
  obtain ⟨n9, h⟩ := h
  exact wk_X9_fitsBy_32 S V hr hlocks x1   post  n9 1 0 _ _ _ _ h  hw (lv_sub hl [2, 3, 1, 0] rfl)
theorem mt_X9_fitsBy (l : Launch) (D : va_G) (q : ClassId × ClassId × ClassId × ClassId) (ad : Nat → Nat → Nat) (x1 : Int32) (σ : St) (post : Int32 → St → Prop) (h : wp_X9_fitsBy x1 post σ) : cI l D clA LM ad (EM q ad) (EvM D q ad) yX9_fitsBy cX9_fitsBy 4 (some .boolean) { frames := 2, cells := 0, slots := 0, locals := 46 } [.ref (ad 0 0), .int x1] σ post :=
  ent_i (by decide) (Nat.le_of_ble_eq_true rfl) (fun p e s m below meth c S V hr hlocks hw ls hl => wk_X9_fitsBy_0 S V hr hlocks x1  post   σ _ _ ls h  hw (lv_sub hl [0, 1] rfl))
def wp_X9_fits_108 (x1 : Int32) (post : Int32 → St → Prop) (xs0 : Int32) (σ : St) : Prop := post xs0 σ
set_option maxHeartbeats 4000000 in
set_option maxRecDepth 100000 in
theorem wk_X9_fits_108 {p : Program} {l : Launch} {e : Env} {s : State} {m : MethodId} {below : List Frame} {meth : Method} {c : Code} {D : va_G} {q : ClassId × ClassId × ClassId × ClassId} {ad : Nat → Nat → Nat} {args : Array Value} (S : CallFix p m c cX9_fits 5 s args GW "OnChinModel") (V : EvM D q ad s) (hr : meth.sig.returnType = (some .int)) (hlocks : meth.locks = false) (x1 : Int32) (post : Int32 → St → Prop)  : ∀ (xs0 : Int32) (σ : St) (H : Heap) (locs : List Loc) (ls : Array Slot), wp_X9_fits_108 x1 post xs0 σ → wo D clA LM ad s.heap H locs (EM q ad σ) → lv_has ls 5 [(0, .ref (ad 0 0)), (1, .int x1)] → W p l e { frames := 3, cells := 0, slots := 0, locals := 69 } s m args below meth c H locs 0 0 (MQ below (zQi D clA LM ad (EM q ad) post) args s 0 0 (zA LM ad)) (F0 m 108 ls [.int xs0]) := by
  have hx := S.1
  have hb := S.2.1
  intro xs0 σ H locs ls h  hw hl
  exact ret_i S hr hlocks hw h dX9_fits_108
def wp_X9_fits_53 (x1 : Int32) (K22 : Int32 → Int32 → Int32 → St → Prop) (post : Int32 → St → Prop) (x2 : Int32) (x3 : Int32) (x4 : Int32) (σ : St) : Prop := K22 x2 x3 (x4 + 1) σ
set_option maxHeartbeats 4000000 in
set_option maxRecDepth 100000 in
theorem wk_X9_fits_53 {p : Program} {l : Launch} {e : Env} {s : State} {m : MethodId} {below : List Frame} {meth : Method} {c : Code} {D : va_G} {q : ClassId × ClassId × ClassId × ClassId} {ad : Nat → Nat → Nat} {args : Array Value} (S : CallFix p m c cX9_fits 5 s args GW "OnChinModel") (V : EvM D q ad s) (hr : meth.sig.returnType = (some .int)) (hlocks : meth.locks = false) (x1 : Int32) (K22 : Int32 → Int32 → Int32 → St → Prop) (post : Int32 → St → Prop) (hK22 : ∀ (x2 : Int32) (x3 : Int32) (x4 : Int32) (σ : St) (H : Heap) (locs : List Loc) (ls : Array Slot), K22 x2 x3 x4 σ → wo D clA LM ad s.heap H locs (EM q ad σ) → lv_has ls 5 [(0, .ref (ad 0 0)), (1, .int x1), (2, .int x2), (3, .int x3), (4, .int x4)] → W p l e { frames := 3, cells := 0, slots := 0, locals := 69 } s m args below meth c H locs 0 0 (MQ below (zQi D clA LM ad (EM q ad) post) args s 0 0 (zA LM ad)) (F0 m 22 ls [])) : ∀ (x2 : Int32) (x3 : Int32) (x4 : Int32) (σ : St) (H : Heap) (locs : List Loc) (ls : Array Slot), wp_X9_fits_53 x1 K22 post x2 x3 x4 σ → wo D clA LM ad s.heap H locs (EM q ad σ) → lv_has ls 5 [(0, .ref (ad 0 0)), (1, .int x1), (2, .int x2), (3, .int x3), (4, .int x4)] → W p l e { frames := 3, cells := 0, slots := 0, locals := 69 } s m args below meth c H locs 0 0 (MQ below (zQi D clA LM ad (EM q ad) post) args s 0 0 (zA LM ad)) (F0 m 53 ls []) := by
  have hx := S.1
  have hb := S.2.1
  intro x2 x3 x4 σ H locs ls h  hw hl
  refine lv_iinc (v := (x4 + 1)) (lv' := [(4, .int (x4 + 1)), (0, .ref (ad 0 0)), (1, .int x1), (2, .int x2), (3, .int x3)]) hx hb dX9_fits_53 hl (k := 4) rfl rfl (by decide) rfl (fun ls hl => ?_)
  refine lv_goto (tgt := 22) hx hb dX9_fits_56 (by decide) ?_
  exact hK22 x2 x3 (x4 + 1) _ _ _ _ h  hw (lv_sub hl [1, 2, 3, 4, 0] rfl)
def wp_X9_fits_49 (x1 : Int32) (K22 : Int32 → Int32 → Int32 → St → Prop) (post : Int32 → St → Prop) (x2 : Int32) (x4 : Int32) (xs0 : Int32) (σ : St) : Prop := wp_X9_fits_53 x1 K22 post (x2 + 1) xs0 x4 σ
set_option maxHeartbeats 4000000 in
set_option maxRecDepth 100000 in
theorem wk_X9_fits_49 {p : Program} {l : Launch} {e : Env} {s : State} {m : MethodId} {below : List Frame} {meth : Method} {c : Code} {D : va_G} {q : ClassId × ClassId × ClassId × ClassId} {ad : Nat → Nat → Nat} {args : Array Value} (S : CallFix p m c cX9_fits 5 s args GW "OnChinModel") (V : EvM D q ad s) (hr : meth.sig.returnType = (some .int)) (hlocks : meth.locks = false) (x1 : Int32) (K22 : Int32 → Int32 → Int32 → St → Prop) (post : Int32 → St → Prop) (hK22 : ∀ (x2 : Int32) (x3 : Int32) (x4 : Int32) (σ : St) (H : Heap) (locs : List Loc) (ls : Array Slot), K22 x2 x3 x4 σ → wo D clA LM ad s.heap H locs (EM q ad σ) → lv_has ls 5 [(0, .ref (ad 0 0)), (1, .int x1), (2, .int x2), (3, .int x3), (4, .int x4)] → W p l e { frames := 3, cells := 0, slots := 0, locals := 69 } s m args below meth c H locs 0 0 (MQ below (zQi D clA LM ad (EM q ad) post) args s 0 0 (zA LM ad)) (F0 m 22 ls [])) : ∀ (x2 : Int32) (x4 : Int32) (xs0 : Int32) (σ : St) (H : Heap) (locs : List Loc) (ls : Array Slot), wp_X9_fits_49 x1 K22 post x2 x4 xs0 σ → wo D clA LM ad s.heap H locs (EM q ad σ) → lv_has ls 5 [(0, .ref (ad 0 0)), (1, .int x1), (2, .int x2), (4, .int x4)] → W p l e { frames := 3, cells := 0, slots := 0, locals := 69 } s m args below meth c H locs 0 0 (MQ below (zQi D clA LM ad (EM q ad) post) args s 0 0 (zA LM ad)) (F0 m 49 ls [.int xs0]) := by
  have hx := S.1
  have hb := S.2.1
  intro x2 x4 xs0 σ H locs ls h  hw hl
  have h : wp_X9_fits_53 x1 K22 post (x2 + 1) xs0 x4 σ := h
  refine lv_istore_n (lv' := [(3, .int xs0), (0, .ref (ad 0 0)), (1, .int x1), (2, .int x2), (4, .int x4)]) hx hb dX9_fits_49 rfl hl (by decide) rfl (fun ls hl => ?_)
  refine lv_iinc (v := (x2 + 1)) (lv' := [(2, .int (x2 + 1)), (3, .int xs0), (0, .ref (ad 0 0)), (1, .int x1), (4, .int x4)]) hx hb dX9_fits_50 hl (k := 3) rfl rfl (by decide) rfl (fun ls hl => ?_)
  exact wk_X9_fits_53 S V hr hlocks x1  K22 post hK22 (x2 + 1) xs0 x4 _ _ _ _ h  hw (lv_sub hl [2, 3, 0, 1, 4] rfl)
def wp_X9_fits_22 (x1 : Int32) (post : Int32 → St → Prop) : Nat → Int32 → Int32 → Int32 → St → Prop
  | 0 => fun _ _ _ _ => False
  | n + 1 => fun x2 x3 x4 σ => ((3087 ≤ x4 → ((¬ x1 = 0 → ((¬ x3 = (-1) → ((¬ x1 = 1 → ((¬ x1 = 2 → wp_X9_fits_108 x1 post (x3 - x3 / 21 * 21) σ) ∧ (x1 = 2 → wp_X9_fits_108 x1 post ((x3 / 21) - (x3 / 21) / 21 * 21) σ))) ∧ (x1 = 1 → wp_X9_fits_108 x1 post (x3 / 441) σ))) ∧ (x3 = (-1) → wp_X9_fits_108 x1 post (-1) σ))) ∧ (x1 = 0 → wp_X9_fits_108 x1 post x2 σ))) ∧ (¬ 3087 ≤ x4 → wp_X9_fitsBy x4 (fun r1 σ1 => ((r1 = 0 → wp_X9_fits_53 x1 (fun y0 y1 y2 τ => wp_X9_fits_22 x1 post n y0 y1 y2 τ) post x2 x3 x4 σ1) ∧ (¬ r1 = 0 → ((¬ x2 = 0 → wp_X9_fits_49 x1 (fun y0 y1 y2 τ => wp_X9_fits_22 x1 post n y0 y1 y2 τ) post x2 x4 x3 σ1) ∧ (x2 = 0 → wp_X9_fits_49 x1 (fun y0 y1 y2 τ => wp_X9_fits_22 x1 post n y0 y1 y2 τ) post x2 x4 x4 σ1))))) σ))
set_option maxHeartbeats 4000000 in
set_option maxRecDepth 100000 in
theorem wk_X9_fits_22 {p : Program} {l : Launch} {e : Env} {s : State} {m : MethodId} {below : List Frame} {meth : Method} {c : Code} {D : va_G} {q : ClassId × ClassId × ClassId × ClassId} {ad : Nat → Nat → Nat} {args : Array Value} (S : CallFix p m c cX9_fits 5 s args GW "OnChinModel") (V : EvM D q ad s) (hr : meth.sig.returnType = (some .int)) (hlocks : meth.locks = false) (x1 : Int32) (post : Int32 → St → Prop)  : ∀ (n : Nat) (x2 : Int32) (x3 : Int32) (x4 : Int32) (σ : St) (H : Heap) (locs : List Loc) (ls : Array Slot), wp_X9_fits_22 x1 post n x2 x3 x4 σ → wo D clA LM ad s.heap H locs (EM q ad σ) → lv_has ls 5 [(0, .ref (ad 0 0)), (1, .int x1), (2, .int x2), (3, .int x3), (4, .int x4)] → W p l e { frames := 3, cells := 0, slots := 0, locals := 69 } s m args below meth c H locs 0 0 (MQ below (zQi D clA LM ad (EM q ad) post) args s 0 0 (zA LM ad)) (F0 m 22 ls []) := by
  have hx := S.1
  have hb := S.2.1
  intro n
  induction n with
  | zero => intro x2 x3 x4 σ H locs ls h; exact False.elim h
  | succ n ih =>
    intro x2 x3 x4 σ H locs ls h  hw hl
    refine lv_iload hx hb dX9_fits_22 (lv_at hl 4 rfl) ?_
    refine lv_sipush (v := 3087) hx hb dX9_fits_24 (by decide) ?_
    refine lv_icmp_ge (tgt := 59) hx hb dX9_fits_27 (by decide) (fun hc => ?_) (fun hc => ?_)
    · have h := h.1 hc
      refine lv_iload_n hx hb dX9_fits_59 rfl (lv_at hl 1 rfl) ?_
      refine lv_if_ne (tgt := 67) hx hb dX9_fits_60 (by decide) (fun hc => ?_) (fun hc => ?_)
      · have h := h.1 hc
        refine lv_iload_n hx hb dX9_fits_67 rfl (lv_at hl 3 rfl) ?_
        refine lv_iconst (v := (-1)) hx hb dX9_fits_68 (by decide) ?_
        refine lv_icmp_ne (tgt := 76) hx hb dX9_fits_69 (by decide) (fun hc => ?_) (fun hc => ?_)
        · have h := h.1 hc
          refine lv_iload_n hx hb dX9_fits_76 rfl (lv_at hl 1 rfl) ?_
          refine lv_iconst (v := 1) hx hb dX9_fits_77 (by decide) ?_
          refine lv_icmp_ne (tgt := 89) hx hb dX9_fits_78 (by decide) (fun hc => ?_) (fun hc => ?_)
          · have h := h.1 hc
            refine lv_iload_n hx hb dX9_fits_89 rfl (lv_at hl 1 rfl) ?_
            refine lv_iconst (v := 2) hx hb dX9_fits_90 (by decide) ?_
            refine lv_icmp_ne (tgt := 104) hx hb dX9_fits_91 (by decide) (fun hc => ?_) (fun hc => ?_)
            · have h := h.1 hc
              refine lv_iload_n hx hb dX9_fits_104 rfl (lv_at hl 3 rfl) ?_
              refine lv_bipush (v := 21) hx hb dX9_fits_105 (by decide) ?_
              refine lv_irem hx hb dX9_fits_107 (by decide) ?_
              exact wk_X9_fits_108 S V hr hlocks x1   post  (x3 - x3 / 21 * 21) _ _ _ _ h  hw (lv_sub hl [0, 1] rfl)
            · have h := h.2 hc
              refine lv_iload_n hx hb dX9_fits_94 rfl (lv_at hl 3 rfl) ?_
              refine lv_bipush (v := 21) hx hb dX9_fits_95 (by decide) ?_
              refine lv_idiv hx hb dX9_fits_97 (by decide) ?_
              refine lv_bipush (v := 21) hx hb dX9_fits_98 (by decide) ?_
              refine lv_irem hx hb dX9_fits_100 (by decide) ?_
              refine lv_goto (tgt := 108) hx hb dX9_fits_101 (by decide) ?_
              exact wk_X9_fits_108 S V hr hlocks x1   post  ((x3 / 21) - (x3 / 21) / 21 * 21) _ _ _ _ h  hw (lv_sub hl [0, 1] rfl)
          · have h := h.2 hc
            refine lv_iload_n hx hb dX9_fits_81 rfl (lv_at hl 3 rfl) ?_
            refine lv_sipush (v := 441) hx hb dX9_fits_82 (by decide) ?_
            refine lv_idiv hx hb dX9_fits_85 (by decide) ?_
            refine lv_goto (tgt := 108) hx hb dX9_fits_86 (by decide) ?_
            exact wk_X9_fits_108 S V hr hlocks x1   post  (x3 / 441) _ _ _ _ h  hw (lv_sub hl [0, 1] rfl)
        · have h := h.2 hc
          refine lv_iconst (v := (-1)) hx hb dX9_fits_72 (by decide) ?_
          refine lv_goto (tgt := 108) hx hb dX9_fits_73 (by decide) ?_
          exact wk_X9_fits_108 S V hr hlocks x1   post  (-1) _ _ _ _ h  hw (lv_sub hl [0, 1] rfl)
      · have h := h.2 hc
        refine lv_iload_n hx hb dX9_fits_63 rfl (lv_at hl 2 rfl) ?_
        refine lv_goto (tgt := 108) hx hb dX9_fits_64 (by decide) ?_
        exact wk_X9_fits_108 S V hr hlocks x1   post  x2 _ _ _ _ h  hw (lv_sub hl [0, 1] rfl)
    · have h := h.2 hc
      refine lv_aload_n hx hb dX9_fits_30 rfl (lv_at hl 0 rfl) ?_
      refine lv_iload hx hb dX9_fits_31 (lv_at hl 4 rfl) ?_
      refine call_Vi (As := [.int x4]) (rest := []) EvM_ok S V hw (mt_X9_fitsBy l D q ad x4  σ _ h) ok_X9_fitsBy ml_X9_308 (rM_0 S V hw (Nat.le_of_ble_eq_true rfl)) ⟨(Nat.le_of_ble_eq_true rfl), (Nat.le_of_ble_eq_true rfl)⟩ ⟨rfl, rfl⟩ rfl hl.1 rfl (Nat.le_of_ble_eq_true rfl) dX9_fits_33 (fun r1 σ1 H locs h hw => ?_)
      refine lv_if_eq (tgt := 53) hx hb dX9_fits_36 (by decide) (fun hc => ?_) (fun hc => ?_)
      · have h := h.1 hc
        exact wk_X9_fits_53 S V hr hlocks x1  (fun y0 y1 y2 τ => wp_X9_fits_22 x1 post n y0 y1 y2 τ) post ih x2 x3 x4 _ _ _ _ h  hw (lv_sub hl [0, 1, 2, 3, 4] rfl)
      · have h := h.2 hc
        refine lv_iload_n hx hb dX9_fits_39 rfl (lv_at hl 2 rfl) ?_
        refine lv_if_ne (tgt := 48) hx hb dX9_fits_40 (by decide) (fun hc => ?_) (fun hc => ?_)
        · have h := h.1 hc
          refine lv_iload_n hx hb dX9_fits_48 rfl (lv_at hl 3 rfl) ?_
          exact wk_X9_fits_49 S V hr hlocks x1  (fun y0 y1 y2 τ => wp_X9_fits_22 x1 post n y0 y1 y2 τ) post ih x2 x4 x3 _ _ _ _ h  hw (lv_sub hl [0, 1, 2, 4] rfl)
        · have h := h.2 hc
          refine lv_iload hx hb dX9_fits_43 (lv_at hl 4 rfl) ?_
          refine lv_goto (tgt := 49) hx hb dX9_fits_45 (by decide) ?_
          exact wk_X9_fits_49 S V hr hlocks x1  (fun y0 y1 y2 τ => wp_X9_fits_22 x1 post n y0 y1 y2 τ) post ih x2 x4 x4 _ _ _ _ h  hw (lv_sub hl [0, 1, 2, 4] rfl)
def wp_X9_fits (x1 : Int32) (post : Int32 → St → Prop)  (σ : St) : Prop := wp_X9_in (Int32.toInt64 x1) 0 3 (fun r1 σ1 => ((¬ r1 = 0 → ∃ nn, wp_X9_fits_22 x1 post nn 0 (-1) 0 σ1) ∧ (r1 = 0 → post (-3) σ1))) σ
set_option maxHeartbeats 4000000 in
set_option maxRecDepth 100000 in
theorem wk_X9_fits_0 {p : Program} {l : Launch} {e : Env} {s : State} {m : MethodId} {below : List Frame} {meth : Method} {c : Code} {D : va_G} {q : ClassId × ClassId × ClassId × ClassId} {ad : Nat → Nat → Nat} {args : Array Value} (S : CallFix p m c cX9_fits 5 s args GW "OnChinModel") (V : EvM D q ad s) (hr : meth.sig.returnType = (some .int)) (hlocks : meth.locks = false) (x1 : Int32) (post : Int32 → St → Prop)  : ∀ (σ : St) (H : Heap) (locs : List Loc) (ls : Array Slot), wp_X9_fits x1 post  σ → wo D clA LM ad s.heap H locs (EM q ad σ) → lv_has ls 5 [(0, .ref (ad 0 0)), (1, .int x1)] → W p l e { frames := 3, cells := 0, slots := 0, locals := 69 } s m args below meth c H locs 0 0 (MQ below (zQi D clA LM ad (EM q ad) post) args s 0 0 (zA LM ad)) (F0 m 0 ls []) := by
  have hx := S.1
  have hb := S.2.1
  intro  σ H locs ls h  hw hl
  have h : wp_X9_in (Int32.toInt64 x1) 0 3 (fun r1 σ1 => ((¬ r1 = 0 → ∃ nn, wp_X9_fits_22 x1 post nn 0 (-1) 0 σ1) ∧ (r1 = 0 → post (-3) σ1))) σ := h
  refine lv_iload_n hx hb dX9_fits_0 rfl (lv_at hl 1 rfl) ?_
  refine lv_i2l (v := (Int32.toInt64 x1)) hx hb dX9_fits_1 rfl ?_
  refine lv_lconst (v := 0) hx hb dX9_fits_2 (by decide) ?_
  refine lv_ldc2 (v := 3) hx hb S.2.2.2.1 (gw_S S _ kc_X9_190) dX9_fits_3 ?_
  refine call_Si (As := [.long (Int32.toInt64 x1), .long 0, .long 3]) (rest := []) EvM_ok S V hw (mt_X9_in l D q ad (Int32.toInt64 x1) 0 3  σ _ h) ok_X9_in ml_X9_92 ⟨(Nat.le_of_ble_eq_true rfl), (Nat.le_of_ble_eq_true rfl)⟩ ⟨rfl, rfl⟩ rfl hl.1 rfl (Nat.le_of_ble_eq_true rfl) dX9_fits_6 (fun r1 σ1 H locs h hw => ?_)
  refine lv_if_ne (tgt := 15) hx hb dX9_fits_9 (by decide) (fun hc => ?_) (fun hc => ?_)
  · have h := h.1 hc
    refine lv_iconst (v := 0) hx hb dX9_fits_15 (by decide) ?_
    refine lv_istore_n (lv' := [(2, .int 0), (0, .ref (ad 0 0)), (1, .int x1)]) hx hb dX9_fits_16 rfl hl (by decide) rfl (fun ls hl => ?_)
    refine lv_iconst (v := (-1)) hx hb dX9_fits_17 (by decide) ?_
    refine lv_istore_n (lv' := [(3, .int (-1)), (2, .int 0), (0, .ref (ad 0 0)), (1, .int x1)]) hx hb dX9_fits_18 rfl hl (by decide) rfl (fun ls hl => ?_)
    refine lv_iconst (v := 0) hx hb dX9_fits_19 (by decide) ?_
    refine lv_istore (lv' := [(4, .int 0), (3, .int (-1)), (2, .int 0), (0, .ref (ad 0 0)), (1, .int x1)]) hx hb dX9_fits_20 hl (by decide) rfl (fun ls hl => ?_)
    obtain ⟨n9, h⟩ := h
    exact wk_X9_fits_22 S V hr hlocks x1   post  n9 0 (-1) 0 _ _ _ _ h  hw (lv_sub hl [3, 4, 2, 1, 0] rfl)
  · have h := h.2 hc
    refine lv_bipush (v := (-3)) hx hb dX9_fits_12 (by decide) ?_
    exact ret_i S hr hlocks hw h dX9_fits_14
theorem mt_X9_fits (l : Launch) (D : va_G) (q : ClassId × ClassId × ClassId × ClassId) (ad : Nat → Nat → Nat) (x1 : Int32) (σ : St) (post : Int32 → St → Prop) (h : wp_X9_fits x1 post σ) : cI l D clA LM ad (EM q ad) (EvM D q ad) yX9_fits cX9_fits 5 (some .int) { frames := 3, cells := 0, slots := 0, locals := 69 } [.ref (ad 0 0), .int x1] σ post :=
  ent_i (by decide) (Nat.le_of_ble_eq_true rfl) (fun p e s m below meth c S V hr hlocks hw ls hl => wk_X9_fits_0 S V hr hlocks x1  post   σ _ _ ls h  hw (lv_sub hl [0, 1] rfl))
def wp_X9_next_17 (x1 : Int32) (x2 : Int32) (post : Int32 → St → Prop)  (σ : St) : Prop := post (-3) σ
set_option maxHeartbeats 4000000 in
set_option maxRecDepth 100000 in
theorem wk_X9_next_17 {p : Program} {l : Launch} {e : Env} {s : State} {m : MethodId} {below : List Frame} {meth : Method} {c : Code} {D : va_G} {q : ClassId × ClassId × ClassId × ClassId} {ad : Nat → Nat → Nat} {args : Array Value} (S : CallFix p m c cX9_next 7 s args GW "OnChinModel") (V : EvM D q ad s) (hr : meth.sig.returnType = (some .int)) (hlocks : meth.locks = false) (x1 : Int32) (x2 : Int32) (post : Int32 → St → Prop)  : ∀ (σ : St) (H : Heap) (locs : List Loc) (ls : Array Slot), wp_X9_next_17 x1 x2 post  σ → wo D clA LM ad s.heap H locs (EM q ad σ) → lv_has ls 7 [(0, .ref (ad 0 0)), (1, .int x1), (2, .int x2)] → W p l e { frames := 3, cells := 0, slots := 0, locals := 69 } s m args below meth c H locs 0 0 (MQ below (zQi D clA LM ad (EM q ad) post) args s 0 0 (zA LM ad)) (F0 m 17 ls []) := by
  have hx := S.1
  have hb := S.2.1
  intro  σ H locs ls h  hw hl
  refine lv_bipush (v := (-3)) hx hb dX9_next_17 (by decide) ?_
  exact ret_i S hr hlocks hw h dX9_next_19
def wp_X9_next_129 (x1 : Int32) (x2 : Int32) (post : Int32 → St → Prop) (xs0 : Int32) (σ : St) : Prop := post xs0 σ
set_option maxHeartbeats 4000000 in
set_option maxRecDepth 100000 in
theorem wk_X9_next_129 {p : Program} {l : Launch} {e : Env} {s : State} {m : MethodId} {below : List Frame} {meth : Method} {c : Code} {D : va_G} {q : ClassId × ClassId × ClassId × ClassId} {ad : Nat → Nat → Nat} {args : Array Value} (S : CallFix p m c cX9_next 7 s args GW "OnChinModel") (V : EvM D q ad s) (hr : meth.sig.returnType = (some .int)) (hlocks : meth.locks = false) (x1 : Int32) (x2 : Int32) (post : Int32 → St → Prop)  : ∀ (xs0 : Int32) (σ : St) (H : Heap) (locs : List Loc) (ls : Array Slot), wp_X9_next_129 x1 x2 post xs0 σ → wo D clA LM ad s.heap H locs (EM q ad σ) → lv_has ls 7 [(0, .ref (ad 0 0)), (1, .int x1), (2, .int x2)] → W p l e { frames := 3, cells := 0, slots := 0, locals := 69 } s m args below meth c H locs 0 0 (MQ below (zQi D clA LM ad (EM q ad) post) args s 0 0 (zA LM ad)) (F0 m 129 ls [.int xs0]) := by
  have hx := S.1
  have hb := S.2.1
  intro xs0 σ H locs ls h  hw hl
  exact ret_i S hr hlocks hw h dX9_next_129
def wp_X9_next_128 (x1 : Int32) (x2 : Int32) (post : Int32 → St → Prop) (xs0 : Int32) (xs1 : Int32) (σ : St) : Prop := wp_X9_next_129 x1 x2 post (xs0 + xs1) σ
set_option maxHeartbeats 4000000 in
set_option maxRecDepth 100000 in
theorem wk_X9_next_128 {p : Program} {l : Launch} {e : Env} {s : State} {m : MethodId} {below : List Frame} {meth : Method} {c : Code} {D : va_G} {q : ClassId × ClassId × ClassId × ClassId} {ad : Nat → Nat → Nat} {args : Array Value} (S : CallFix p m c cX9_next 7 s args GW "OnChinModel") (V : EvM D q ad s) (hr : meth.sig.returnType = (some .int)) (hlocks : meth.locks = false) (x1 : Int32) (x2 : Int32) (post : Int32 → St → Prop)  : ∀ (xs0 : Int32) (xs1 : Int32) (σ : St) (H : Heap) (locs : List Loc) (ls : Array Slot), wp_X9_next_128 x1 x2 post xs0 xs1 σ → wo D clA LM ad s.heap H locs (EM q ad σ) → lv_has ls 7 [(0, .ref (ad 0 0)), (1, .int x1), (2, .int x2)] → W p l e { frames := 3, cells := 0, slots := 0, locals := 69 } s m args below meth c H locs 0 0 (MQ below (zQi D clA LM ad (EM q ad) post) args s 0 0 (zA LM ad)) (F0 m 128 ls [.int xs1, .int xs0]) := by
  have hx := S.1
  have hb := S.2.1
  intro xs0 xs1 σ H locs ls h  hw hl
  have h : wp_X9_next_129 x1 x2 post (xs0 + xs1) σ := h
  refine lv_iadd hx hb dX9_next_128 ?_
  exact wk_X9_next_129 S V hr hlocks x1 x2   post  (xs0 + xs1) _ _ _ _ h  hw (lv_sub hl [0, 1, 2] rfl)
def wp_X9_next_98 (x1 : Int32) (x2 : Int32) (K42 : Int32 → Int32 → Int32 → St → Prop) (post : Int32 → St → Prop) (x3 : Int32) (x4 : Int32) (x5 : Int32) (σ : St) : Prop := K42 x3 x4 (x5 + 1) σ
set_option maxHeartbeats 4000000 in
set_option maxRecDepth 100000 in
theorem wk_X9_next_98 {p : Program} {l : Launch} {e : Env} {s : State} {m : MethodId} {below : List Frame} {meth : Method} {c : Code} {D : va_G} {q : ClassId × ClassId × ClassId × ClassId} {ad : Nat → Nat → Nat} {args : Array Value} (S : CallFix p m c cX9_next 7 s args GW "OnChinModel") (V : EvM D q ad s) (hr : meth.sig.returnType = (some .int)) (hlocks : meth.locks = false) (x1 : Int32) (x2 : Int32) (K42 : Int32 → Int32 → Int32 → St → Prop) (post : Int32 → St → Prop) (hK42 : ∀ (x3 : Int32) (x4 : Int32) (x5 : Int32) (σ : St) (H : Heap) (locs : List Loc) (ls : Array Slot), K42 x3 x4 x5 σ → wo D clA LM ad s.heap H locs (EM q ad σ) → lv_has ls 7 [(0, .ref (ad 0 0)), (1, .int x1), (2, .int x2), (3, .int x3), (4, .int x4), (5, .int x5)] → W p l e { frames := 3, cells := 0, slots := 0, locals := 69 } s m args below meth c H locs 0 0 (MQ below (zQi D clA LM ad (EM q ad) post) args s 0 0 (zA LM ad)) (F0 m 42 ls [])) : ∀ (x3 : Int32) (x4 : Int32) (x5 : Int32) (σ : St) (H : Heap) (locs : List Loc) (ls : Array Slot), wp_X9_next_98 x1 x2 K42 post x3 x4 x5 σ → wo D clA LM ad s.heap H locs (EM q ad σ) → lv_has ls 7 [(0, .ref (ad 0 0)), (1, .int x1), (2, .int x2), (3, .int x3), (4, .int x4), (5, .int x5)] → W p l e { frames := 3, cells := 0, slots := 0, locals := 69 } s m args below meth c H locs 0 0 (MQ below (zQi D clA LM ad (EM q ad) post) args s 0 0 (zA LM ad)) (F0 m 98 ls []) := by
  have hx := S.1
  have hb := S.2.1
  intro x3 x4 x5 σ H locs ls h  hw hl
  refine lv_iinc (v := (x5 + 1)) (lv' := [(5, .int (x5 + 1)), (0, .ref (ad 0 0)), (1, .int x1), (2, .int x2), (3, .int x3), (4, .int x4)]) hx hb dX9_next_98 hl (k := 5) rfl rfl (by decide) rfl (fun ls hl => ?_)
  refine lv_goto (tgt := 42) hx hb dX9_next_101 (by decide) ?_
  exact hK42 x3 x4 (x5 + 1) _ _ _ _ h  hw (lv_sub hl [1, 2, 3, 4, 5, 0] rfl)
def wp_X9_next_96 (x1 : Int32) (x2 : Int32) (K42 : Int32 → Int32 → Int32 → St → Prop) (post : Int32 → St → Prop) (x3 : Int32) (x5 : Int32) (xs0 : Int32) (σ : St) : Prop := wp_X9_next_98 x1 x2 K42 post x3 xs0 x5 σ
set_option maxHeartbeats 4000000 in
set_option maxRecDepth 100000 in
theorem wk_X9_next_96 {p : Program} {l : Launch} {e : Env} {s : State} {m : MethodId} {below : List Frame} {meth : Method} {c : Code} {D : va_G} {q : ClassId × ClassId × ClassId × ClassId} {ad : Nat → Nat → Nat} {args : Array Value} (S : CallFix p m c cX9_next 7 s args GW "OnChinModel") (V : EvM D q ad s) (hr : meth.sig.returnType = (some .int)) (hlocks : meth.locks = false) (x1 : Int32) (x2 : Int32) (K42 : Int32 → Int32 → Int32 → St → Prop) (post : Int32 → St → Prop) (hK42 : ∀ (x3 : Int32) (x4 : Int32) (x5 : Int32) (σ : St) (H : Heap) (locs : List Loc) (ls : Array Slot), K42 x3 x4 x5 σ → wo D clA LM ad s.heap H locs (EM q ad σ) → lv_has ls 7 [(0, .ref (ad 0 0)), (1, .int x1), (2, .int x2), (3, .int x3), (4, .int x4), (5, .int x5)] → W p l e { frames := 3, cells := 0, slots := 0, locals := 69 } s m args below meth c H locs 0 0 (MQ below (zQi D clA LM ad (EM q ad) post) args s 0 0 (zA LM ad)) (F0 m 42 ls [])) : ∀ (x3 : Int32) (x5 : Int32) (xs0 : Int32) (σ : St) (H : Heap) (locs : List Loc) (ls : Array Slot), wp_X9_next_96 x1 x2 K42 post x3 x5 xs0 σ → wo D clA LM ad s.heap H locs (EM q ad σ) → lv_has ls 7 [(0, .ref (ad 0 0)), (1, .int x1), (2, .int x2), (3, .int x3), (5, .int x5)] → W p l e { frames := 3, cells := 0, slots := 0, locals := 69 } s m args below meth c H locs 0 0 (MQ below (zQi D clA LM ad (EM q ad) post) args s 0 0 (zA LM ad)) (F0 m 96 ls [.int xs0]) := by
  have hx := S.1
  have hb := S.2.1
  intro x3 x5 xs0 σ H locs ls h  hw hl
  have h : wp_X9_next_98 x1 x2 K42 post x3 xs0 x5 σ := h
  refine lv_istore (lv' := [(4, .int xs0), (0, .ref (ad 0 0)), (1, .int x1), (2, .int x2), (3, .int x3), (5, .int x5)]) hx hb dX9_next_96 hl (by decide) rfl (fun ls hl => ?_)
  exact wk_X9_next_98 S V hr hlocks x1 x2  K42 post hK42 x3 xs0 x5 _ _ _ _ h  hw (lv_sub hl [1, 2, 3, 4, 0, 5] rfl)
def wp_X9_next_81 (x1 : Int32) (x2 : Int32) (K42 : Int32 → Int32 → Int32 → St → Prop) (post : Int32 → St → Prop) (x4 : Int32) (x5 : Int32) (x6 : Int32) (xs0 : Int32) (σ : St) : Prop := ((x6 ≤ x4 → wp_X9_next_96 x1 x2 K42 post xs0 x5 x4 σ) ∧ (¬ x6 ≤ x4 → wp_X9_next_96 x1 x2 K42 post xs0 x5 x6 σ))
set_option maxHeartbeats 4000000 in
set_option maxRecDepth 100000 in
theorem wk_X9_next_81 {p : Program} {l : Launch} {e : Env} {s : State} {m : MethodId} {below : List Frame} {meth : Method} {c : Code} {D : va_G} {q : ClassId × ClassId × ClassId × ClassId} {ad : Nat → Nat → Nat} {args : Array Value} (S : CallFix p m c cX9_next 7 s args GW "OnChinModel") (V : EvM D q ad s) (hr : meth.sig.returnType = (some .int)) (hlocks : meth.locks = false) (x1 : Int32) (x2 : Int32) (K42 : Int32 → Int32 → Int32 → St → Prop) (post : Int32 → St → Prop) (hK42 : ∀ (x3 : Int32) (x4 : Int32) (x5 : Int32) (σ : St) (H : Heap) (locs : List Loc) (ls : Array Slot), K42 x3 x4 x5 σ → wo D clA LM ad s.heap H locs (EM q ad σ) → lv_has ls 7 [(0, .ref (ad 0 0)), (1, .int x1), (2, .int x2), (3, .int x3), (4, .int x4), (5, .int x5)] → W p l e { frames := 3, cells := 0, slots := 0, locals := 69 } s m args below meth c H locs 0 0 (MQ below (zQi D clA LM ad (EM q ad) post) args s 0 0 (zA LM ad)) (F0 m 42 ls [])) : ∀ (x4 : Int32) (x5 : Int32) (x6 : Int32) (xs0 : Int32) (σ : St) (H : Heap) (locs : List Loc) (ls : Array Slot), wp_X9_next_81 x1 x2 K42 post x4 x5 x6 xs0 σ → wo D clA LM ad s.heap H locs (EM q ad σ) → lv_has ls 7 [(0, .ref (ad 0 0)), (1, .int x1), (2, .int x2), (4, .int x4), (5, .int x5), (6, .int x6)] → W p l e { frames := 3, cells := 0, slots := 0, locals := 69 } s m args below meth c H locs 0 0 (MQ below (zQi D clA LM ad (EM q ad) post) args s 0 0 (zA LM ad)) (F0 m 81 ls [.int xs0]) := by
  have hx := S.1
  have hb := S.2.1
  intro x4 x5 x6 xs0 σ H locs ls h  hw hl
  refine lv_istore_n (lv' := [(3, .int xs0), (0, .ref (ad 0 0)), (1, .int x1), (2, .int x2), (4, .int x4), (5, .int x5), (6, .int x6)]) hx hb dX9_next_81 rfl hl (by decide) rfl (fun ls hl => ?_)
  refine lv_iload hx hb dX9_next_82 (lv_at hl 6 rfl) ?_
  refine lv_iload hx hb dX9_next_84 (lv_at hl 4 rfl) ?_
  refine lv_icmp_le (tgt := 94) hx hb dX9_next_86 (by decide) (fun hc => ?_) (fun hc => ?_)
  · have h := h.1 hc
    refine lv_iload hx hb dX9_next_94 (lv_at hl 4 rfl) ?_
    exact wk_X9_next_96 S V hr hlocks x1 x2  K42 post hK42 xs0 x5 x4 _ _ _ _ h  hw (lv_sub hl [1, 2, 3, 0, 5] rfl)
  · have h := h.2 hc
    refine lv_iload hx hb dX9_next_89 (lv_at hl 6 rfl) ?_
    refine lv_goto (tgt := 96) hx hb dX9_next_91 (by decide) ?_
    exact wk_X9_next_96 S V hr hlocks x1 x2  K42 post hK42 xs0 x5 x6 _ _ _ _ h  hw (lv_sub hl [1, 2, 3, 0, 5] rfl)
def wp_X9_next_42 (x1 : Int32) (x2 : Int32) (post : Int32 → St → Prop) : Nat → Int32 → Int32 → Int32 → St → Prop
  | 0 => fun _ _ _ _ => False
  | n + 1 => fun x3 x4 x5 σ => ((3087 ≤ x5 → ((¬ x3 = 268435456 → ((¬ x2 = 0 → wp_X9_next_128 x1 x2 post 1000 x4 σ) ∧ (x2 = 0 → wp_X9_next_128 x1 x2 post 1000 x3 σ))) ∧ (x3 = 268435456 → wp_X9_next_129 x1 x2 post (-1) σ))) ∧ (¬ 3087 ≤ x5 → wp_X9_fitsBy x5 (fun r1 σ1 => ((r1 = 0 → wp_X9_next_98 x1 x2 (fun y0 y1 y2 τ => wp_X9_next_42 x1 x2 post n y0 y1 y2 τ) post x3 x4 x5 σ1) ∧ (¬ r1 = 0 → wp_X9_mindsAt (σ1 0 0 37) (fun r2 σ2 => ((x3 ≤ r2 → wp_X9_next_81 x1 x2 (fun y0 y1 y2 τ => wp_X9_next_42 x1 x2 post n y0 y1 y2 τ) post x4 x5 r2 x3 σ2) ∧ (¬ x3 ≤ r2 → wp_X9_next_81 x1 x2 (fun y0 y1 y2 τ => wp_X9_next_42 x1 x2 post n y0 y1 y2 τ) post x4 x5 r2 r2 σ2))) σ1))) σ))
set_option maxHeartbeats 4000000 in
set_option maxRecDepth 100000 in
theorem wk_X9_next_42 {p : Program} {l : Launch} {e : Env} {s : State} {m : MethodId} {below : List Frame} {meth : Method} {c : Code} {D : va_G} {q : ClassId × ClassId × ClassId × ClassId} {ad : Nat → Nat → Nat} {args : Array Value} (S : CallFix p m c cX9_next 7 s args GW "OnChinModel") (V : EvM D q ad s) (hr : meth.sig.returnType = (some .int)) (hlocks : meth.locks = false) (x1 : Int32) (x2 : Int32) (post : Int32 → St → Prop)  : ∀ (n : Nat) (x3 : Int32) (x4 : Int32) (x5 : Int32) (σ : St) (H : Heap) (locs : List Loc) (ls : Array Slot), wp_X9_next_42 x1 x2 post n x3 x4 x5 σ → wo D clA LM ad s.heap H locs (EM q ad σ) → lv_has ls 7 [(0, .ref (ad 0 0)), (1, .int x1), (2, .int x2), (3, .int x3), (4, .int x4), (5, .int x5)] → W p l e { frames := 3, cells := 0, slots := 0, locals := 69 } s m args below meth c H locs 0 0 (MQ below (zQi D clA LM ad (EM q ad) post) args s 0 0 (zA LM ad)) (F0 m 42 ls []) := by
  have hx := S.1
  have hb := S.2.1
  intro n
  induction n with
  | zero => intro x3 x4 x5 σ H locs ls h; exact False.elim h
  | succ n ih =>
    intro x3 x4 x5 σ H locs ls h  hw hl
    refine lv_iload hx hb dX9_next_42 (lv_at hl 5 rfl) ?_
    refine lv_sipush (v := 3087) hx hb dX9_next_44 (by decide) ?_
    refine lv_icmp_ge (tgt := 104) hx hb dX9_next_47 (by decide) (fun hc => ?_) (fun hc => ?_)
    · have h := h.1 hc
      refine lv_iload_n hx hb dX9_next_104 rfl (lv_at hl 3 rfl) ?_
      refine lv_ldcw (v := 268435456) hx hb S.2.2.2.1 (gw_S S _ kc_X9_311) dX9_next_105 ?_
      refine lv_icmp_ne (tgt := 115) hx hb dX9_next_108 (by decide) (fun hc => ?_) (fun hc => ?_)
      · have h := h.1 hc
        refine lv_sipush (v := 1000) hx hb dX9_next_115 (by decide) ?_
        refine lv_iload_n hx hb dX9_next_118 rfl (lv_at hl 2 rfl) ?_
        refine lv_if_ne (tgt := 126) hx hb dX9_next_119 (by decide) (fun hc => ?_) (fun hc => ?_)
        · have h := h.1 hc
          refine lv_iload hx hb dX9_next_126 (lv_at hl 4 rfl) ?_
          exact wk_X9_next_128 S V hr hlocks x1 x2   post  1000 x4 _ _ _ _ h  hw (lv_sub hl [0, 1, 2] rfl)
        · have h := h.2 hc
          refine lv_iload_n hx hb dX9_next_122 rfl (lv_at hl 3 rfl) ?_
          refine lv_goto (tgt := 128) hx hb dX9_next_123 (by decide) ?_
          exact wk_X9_next_128 S V hr hlocks x1 x2   post  1000 x3 _ _ _ _ h  hw (lv_sub hl [0, 1, 2] rfl)
      · have h := h.2 hc
        refine lv_iconst (v := (-1)) hx hb dX9_next_111 (by decide) ?_
        refine lv_goto (tgt := 129) hx hb dX9_next_112 (by decide) ?_
        exact wk_X9_next_129 S V hr hlocks x1 x2   post  (-1) _ _ _ _ h  hw (lv_sub hl [0, 1, 2] rfl)
    · have h := h.2 hc
      refine lv_aload_n hx hb dX9_next_50 rfl (lv_at hl 0 rfl) ?_
      refine lv_iload hx hb dX9_next_51 (lv_at hl 5 rfl) ?_
      refine call_Vi (As := [.int x5]) (rest := []) EvM_ok S V hw (mt_X9_fitsBy l D q ad x5  σ _ h) ok_X9_fitsBy ml_X9_308 (rM_0 S V hw (Nat.le_of_ble_eq_true rfl)) ⟨(Nat.le_of_ble_eq_true rfl), (Nat.le_of_ble_eq_true rfl)⟩ ⟨rfl, rfl⟩ rfl hl.1 rfl (Nat.le_of_ble_eq_true rfl) dX9_next_53 (fun r1 σ1 H locs h hw => ?_)
      refine lv_if_eq (tgt := 98) hx hb dX9_next_56 (by decide) (fun hc => ?_) (fun hc => ?_)
      · have h := h.1 hc
        exact wk_X9_next_98 S V hr hlocks x1 x2  (fun y0 y1 y2 τ => wp_X9_next_42 x1 x2 post n y0 y1 y2 τ) post ih x3 x4 x5 _ _ _ _ h  hw (lv_sub hl [0, 1, 2, 3, 4, 5] rfl)
      · have h := h.2 hc
        refine lv_aload_n hx hb dX9_next_59 rfl (lv_at hl 0 rfl) ?_
        refine lv_aload_n hx hb dX9_next_60 rfl (lv_at hl 0 rfl) ?_
        refine gM_0_37 S V hw (Nat.le_of_ble_eq_true rfl) fl_X9_302 rfl dX9_next_61 ?_
        refine call_Vi (As := [.int (σ1 0 0 37)]) (rest := []) EvM_ok S V hw (mt_X9_mindsAt l D q ad (σ1 0 0 37)  σ1 _ h) ok_X9_mindsAt ml_X9_305 (rM_0 S V hw (Nat.le_of_ble_eq_true rfl)) ⟨(Nat.le_of_ble_eq_true rfl), (Nat.le_of_ble_eq_true rfl)⟩ ⟨rfl, rfl⟩ rfl hl.1 rfl (Nat.le_of_ble_eq_true rfl) dX9_next_64 (fun r2 σ2 H locs h hw => ?_)
        refine lv_istore (lv' := [(6, .int r2), (0, .ref (ad 0 0)), (1, .int x1), (2, .int x2), (3, .int x3), (4, .int x4), (5, .int x5)]) hx hb dX9_next_67 hl (by decide) rfl (fun ls hl => ?_)
        refine lv_iload hx hb dX9_next_69 (lv_at hl 0 rfl) ?_
        refine lv_iload_n hx hb dX9_next_71 rfl (lv_at hl 4 rfl) ?_
        refine lv_icmp_ge (tgt := 80) hx hb dX9_next_72 (by decide) (fun hc => ?_) (fun hc => ?_)
        · have h := h.1 hc
          refine lv_iload_n hx hb dX9_next_80 rfl (lv_at hl 4 rfl) ?_
          exact wk_X9_next_81 S V hr hlocks x1 x2  (fun y0 y1 y2 τ => wp_X9_next_42 x1 x2 post n y0 y1 y2 τ) post ih x4 x5 r2 x3 _ _ _ _ h  hw (lv_sub hl [1, 2, 3, 5, 6, 0] rfl)
        · have h := h.2 hc
          refine lv_iload hx hb dX9_next_75 (lv_at hl 0 rfl) ?_
          refine lv_goto (tgt := 81) hx hb dX9_next_77 (by decide) ?_
          exact wk_X9_next_81 S V hr hlocks x1 x2  (fun y0 y1 y2 τ => wp_X9_next_42 x1 x2 post n y0 y1 y2 τ) post ih x4 x5 r2 r2 _ _ _ _ h  hw (lv_sub hl [1, 2, 3, 5, 6, 0] rfl)
def wp_X9_next (x1 : Int32) (x2 : Int32) (post : Int32 → St → Prop)  (σ : St) : Prop := wp_X9_isX x1 (fun r1 σ1 => ((r1 = 0 → wp_X9_next_17 x1 x2 post  σ1) ∧ (¬ r1 = 0 → wp_X9_in (Int32.toInt64 x2) 0 1 (fun r2 σ2 => ((¬ r2 = 0 → (vp_in (σ2 0 0 37) 25 ∧ ∃ nn, wp_X9_next_42 x1 x2 post nn 268435456 (-268435456) 0 (su σ2 14 0 ((σ2 0 0 37).toNatClampNeg) x1))) ∧ (r2 = 0 → wp_X9_next_17 x1 x2 post  σ2))) σ1))) σ
set_option maxHeartbeats 4000000 in
set_option maxRecDepth 100000 in
theorem wk_X9_next_0 {p : Program} {l : Launch} {e : Env} {s : State} {m : MethodId} {below : List Frame} {meth : Method} {c : Code} {D : va_G} {q : ClassId × ClassId × ClassId × ClassId} {ad : Nat → Nat → Nat} {args : Array Value} (S : CallFix p m c cX9_next 7 s args GW "OnChinModel") (V : EvM D q ad s) (hr : meth.sig.returnType = (some .int)) (hlocks : meth.locks = false) (x1 : Int32) (x2 : Int32) (post : Int32 → St → Prop)  : ∀ (σ : St) (H : Heap) (locs : List Loc) (ls : Array Slot), wp_X9_next x1 x2 post  σ → wo D clA LM ad s.heap H locs (EM q ad σ) → lv_has ls 7 [(0, .ref (ad 0 0)), (1, .int x1), (2, .int x2)] → W p l e { frames := 3, cells := 0, slots := 0, locals := 69 } s m args below meth c H locs 0 0 (MQ below (zQi D clA LM ad (EM q ad) post) args s 0 0 (zA LM ad)) (F0 m 0 ls []) := by
  have hx := S.1
  have hb := S.2.1
  intro  σ H locs ls h  hw hl
  have h : wp_X9_isX x1 (fun r1 σ1 => ((r1 = 0 → wp_X9_next_17 x1 x2 post  σ1) ∧ (¬ r1 = 0 → wp_X9_in (Int32.toInt64 x2) 0 1 (fun r2 σ2 => ((¬ r2 = 0 → (vp_in (σ2 0 0 37) 25 ∧ ∃ nn, wp_X9_next_42 x1 x2 post nn 268435456 (-268435456) 0 (su σ2 14 0 ((σ2 0 0 37).toNatClampNeg) x1))) ∧ (r2 = 0 → wp_X9_next_17 x1 x2 post  σ2))) σ1))) σ := h
  refine lv_iload_n hx hb dX9_next_0 rfl (lv_at hl 1 rfl) ?_
  refine call_Si (As := [.int x1]) (rest := []) EvM_ok S V hw (mt_X9_isX l D q ad x1  σ _ h) ok_X9_isX ml_X9_243 ⟨(Nat.le_of_ble_eq_true rfl), (Nat.le_of_ble_eq_true rfl)⟩ ⟨rfl, rfl⟩ rfl hl.1 rfl (Nat.le_of_ble_eq_true rfl) dX9_next_1 (fun r1 σ1 H locs h hw => ?_)
  refine lv_if_eq (tgt := 17) hx hb dX9_next_4 (by decide) (fun hc => ?_) (fun hc => ?_)
  · have h := h.1 hc
    exact wk_X9_next_17 S V hr hlocks x1 x2   post   _ _ _ _ h  hw (lv_sub hl [0, 1, 2] rfl)
  · have h := h.2 hc
    refine lv_iload_n hx hb dX9_next_7 rfl (lv_at hl 2 rfl) ?_
    refine lv_i2l (v := (Int32.toInt64 x2)) hx hb dX9_next_8 rfl ?_
    refine lv_lconst (v := 0) hx hb dX9_next_9 (by decide) ?_
    refine lv_lconst (v := 1) hx hb dX9_next_10 (by decide) ?_
    refine call_Si (As := [.long (Int32.toInt64 x2), .long 0, .long 1]) (rest := []) EvM_ok S V hw (mt_X9_in l D q ad (Int32.toInt64 x2) 0 1  σ1 _ h) ok_X9_in ml_X9_92 ⟨(Nat.le_of_ble_eq_true rfl), (Nat.le_of_ble_eq_true rfl)⟩ ⟨rfl, rfl⟩ rfl hl.1 rfl (Nat.le_of_ble_eq_true rfl) dX9_next_11 (fun r2 σ2 H locs h hw => ?_)
    refine lv_if_ne (tgt := 20) hx hb dX9_next_14 (by decide) (fun hc => ?_) (fun hc => ?_)
    · have h := h.1 hc
      refine lv_aload_n hx hb dX9_next_20 rfl (lv_at hl 0 rfl) ?_
      refine gM_0_35 S V hw (Nat.le_of_ble_eq_true rfl) fl_X9_71 dX9_next_21 ?_
      refine lv_aload_n hx hb dX9_next_24 rfl (lv_at hl 0 rfl) ?_
      refine gM_0_37 S V hw (Nat.le_of_ble_eq_true rfl) fl_X9_302 rfl dX9_next_25 ?_
      refine lv_iload_n hx hb dX9_next_28 rfl (lv_at hl 1 rfl) ?_
      refine sM_14 S V hw (Nat.le_of_ble_eq_true rfl) h.1 dX9_next_29 (fun H locs hw => ?_)
      have h := h.2
      refine lv_ldcw (v := 268435456) hx hb S.2.2.2.1 (gw_S S _ kc_X9_311) dX9_next_30 ?_
      refine lv_istore_n (lv' := [(3, .int 268435456), (0, .ref (ad 0 0)), (1, .int x1), (2, .int x2)]) hx hb dX9_next_33 rfl hl (by decide) rfl (fun ls hl => ?_)
      refine lv_ldcw (v := (-268435456)) hx hb S.2.2.2.1 (gw_S S _ kc_X9_312) dX9_next_34 ?_
      refine lv_istore (lv' := [(4, .int (-268435456)), (3, .int 268435456), (0, .ref (ad 0 0)), (1, .int x1), (2, .int x2)]) hx hb dX9_next_37 hl (by decide) rfl (fun ls hl => ?_)
      refine lv_iconst (v := 0) hx hb dX9_next_39 (by decide) ?_
      refine lv_istore (lv' := [(5, .int 0), (4, .int (-268435456)), (3, .int 268435456), (0, .ref (ad 0 0)), (1, .int x1), (2, .int x2)]) hx hb dX9_next_40 hl (by decide) rfl (fun ls hl => ?_)
      obtain ⟨n9, h⟩ := h
      exact wk_X9_next_42 S V hr hlocks x1 x2   post  n9 268435456 (-268435456) 0 _ _ _ _ h  hw (lv_sub hl [3, 4, 5, 2, 1, 0] rfl)
    · have h := h.2 hc
      exact wk_X9_next_17 S V hr hlocks x1 x2   post   _ _ _ _ h  hw (lv_sub hl [0, 1, 2] rfl)
theorem mt_X9_next (l : Launch) (D : va_G) (q : ClassId × ClassId × ClassId × ClassId) (ad : Nat → Nat → Nat) (x1 : Int32) (x2 : Int32) (σ : St) (post : Int32 → St → Prop) (h : wp_X9_next x1 x2 post σ) : cI l D clA LM ad (EM q ad) (EvM D q ad) yX9_next cX9_next 7 (some .int) { frames := 3, cells := 0, slots := 0, locals := 69 } [.ref (ad 0 0), .int x1, .int x2] σ post :=
  ent_i (by decide) (Nat.le_of_ble_eq_true rfl) (fun p e s m below meth c S V hr hlocks hw ls hl => wk_X9_next_0 S V hr hlocks x1 x2  post   σ _ _ ls h  hw (lv_sub hl [0, 1, 2] rfl))
def wp_X9_layHolds_59 (K2 : Int32 → St → Prop) (post : St → Prop) (x1 : Int32) (σ : St) : Prop := K2 (x1 + 1) σ
set_option maxHeartbeats 4000000 in
set_option maxRecDepth 100000 in
theorem wk_X9_layHolds_59 {p : Program} {l : Launch} {e : Env} {s : State} {m : MethodId} {below : List Frame} {meth : Method} {c : Code} {D : va_G} {q : ClassId × ClassId × ClassId × ClassId} {ad : Nat → Nat → Nat} {args : Array Value} (S : CallFix p m c cX9_layHolds 3 s args GW "OnChinModel") (V : EvM D q ad s) (hr : meth.sig.returnType = none) (hlocks : meth.locks = false) (K2 : Int32 → St → Prop) (post : St → Prop) (hK2 : ∀ (x1 : Int32) (σ : St) (H : Heap) (locs : List Loc) (ls : Array Slot), K2 x1 σ → wo D clA LM ad s.heap H locs (EM q ad σ) → lv_has ls 3 [(0, .ref (ad 0 0)), (1, .int x1)] → W p l e { frames := 4, cells := 0, slots := 0, locals := 101 } s m args below meth c H locs 0 0 (MQ below (zQv D clA LM ad (EM q ad) post) args s 0 0 (zA LM ad)) (F0 m 2 ls [])) : ∀ (x1 : Int32) (σ : St) (H : Heap) (locs : List Loc) (ls : Array Slot), wp_X9_layHolds_59 K2 post x1 σ → wo D clA LM ad s.heap H locs (EM q ad σ) → lv_has ls 3 [(0, .ref (ad 0 0)), (1, .int x1)] → W p l e { frames := 4, cells := 0, slots := 0, locals := 101 } s m args below meth c H locs 0 0 (MQ below (zQv D clA LM ad (EM q ad) post) args s 0 0 (zA LM ad)) (F0 m 59 ls []) := by
  have hx := S.1
  have hb := S.2.1
  intro x1 σ H locs ls h  hw hl
  refine lv_iinc (v := (x1 + 1)) (lv' := [(1, .int (x1 + 1)), (0, .ref (ad 0 0))]) hx hb dX9_layHolds_59 hl (k := 1) rfl rfl (by decide) rfl (fun ls hl => ?_)
  refine lv_goto (tgt := 2) hx hb dX9_layHolds_62 (by decide) ?_
  exact hK2 (x1 + 1) _ _ _ _ h  hw (lv_sub hl [1, 0] rfl)
def wp_X9_layHolds_58 (K2 : Int32 → St → Prop) (post : St → Prop) (x1 : Int32) (xs1 : Int32) (xs2 : Int32) (σ : St) : Prop := (vp_in xs1 28 ∧ wp_X9_layHolds_59 K2 post x1 (su σ 16 0 xs1.toNatClampNeg (vp_nar .boolean xs2)))
set_option maxHeartbeats 4000000 in
set_option maxRecDepth 100000 in
theorem wk_X9_layHolds_58 {p : Program} {l : Launch} {e : Env} {s : State} {m : MethodId} {below : List Frame} {meth : Method} {c : Code} {D : va_G} {q : ClassId × ClassId × ClassId × ClassId} {ad : Nat → Nat → Nat} {args : Array Value} (S : CallFix p m c cX9_layHolds 3 s args GW "OnChinModel") (V : EvM D q ad s) (hr : meth.sig.returnType = none) (hlocks : meth.locks = false) (K2 : Int32 → St → Prop) (post : St → Prop) (hK2 : ∀ (x1 : Int32) (σ : St) (H : Heap) (locs : List Loc) (ls : Array Slot), K2 x1 σ → wo D clA LM ad s.heap H locs (EM q ad σ) → lv_has ls 3 [(0, .ref (ad 0 0)), (1, .int x1)] → W p l e { frames := 4, cells := 0, slots := 0, locals := 101 } s m args below meth c H locs 0 0 (MQ below (zQv D clA LM ad (EM q ad) post) args s 0 0 (zA LM ad)) (F0 m 2 ls [])) : ∀ (x1 : Int32) (xs1 : Int32) (xs2 : Int32) (σ : St) (H : Heap) (locs : List Loc) (ls : Array Slot), wp_X9_layHolds_58 K2 post x1 xs1 xs2 σ → wo D clA LM ad s.heap H locs (EM q ad σ) → lv_has ls 3 [(0, .ref (ad 0 0)), (1, .int x1)] → W p l e { frames := 4, cells := 0, slots := 0, locals := 101 } s m args below meth c H locs 0 0 (MQ below (zQv D clA LM ad (EM q ad) post) args s 0 0 (zA LM ad)) (F0 m 58 ls [.int xs2, .int xs1, .ref (ad 16 0)]) := by
  have hx := S.1
  have hb := S.2.1
  intro x1 xs1 xs2 σ H locs ls h  hw hl
  refine sM_16 S V hw (Nat.le_of_ble_eq_true rfl) h.1 dX9_layHolds_58 (fun H locs hw => ?_)
  have h := h.2
  exact wk_X9_layHolds_59 S V hr hlocks   K2 post hK2 x1 _ _ _ _ h  hw (lv_sub hl [0, 1] rfl)
def wp_X9_layHolds_2 (post : St → Prop) : Nat → Int32 → St → Prop
  | 0 => fun _ _ => False
  | n + 1 => fun x1 σ => ((28 ≤ x1 → post σ) ∧ (¬ 28 ≤ x1 → (vp_in (x1 / 7) 4 ∧ (((σ 5 0 ((x1 / 7).toNatClampNeg)) ≤ 0 → wp_X9_layHolds_59 (fun y0 τ => wp_X9_layHolds_2 post n y0 τ) post x1 σ) ∧ (¬ (σ 5 0 ((x1 / 7).toNatClampNeg)) ≤ 0 → wp_X9_asTold (x1 / 7) (fun σ1 => wp_X9_lasts 10 0 1 (fun r2 σ2 => ((r2 ≤ 39 → wp_X9_layHolds_58 (fun y0 τ => wp_X9_layHolds_2 post n y0 τ) post x1 x1 0 σ2) ∧ (¬ r2 ≤ 39 → wp_X9_layHolds_58 (fun y0 τ => wp_X9_layHolds_2 post n y0 τ) post x1 x1 1 σ2))) (su σ1 0 0 30 (x1 - x1 / 7 * 7))) σ)))))
set_option maxHeartbeats 4000000 in
set_option maxRecDepth 100000 in
theorem wk_X9_layHolds_2 {p : Program} {l : Launch} {e : Env} {s : State} {m : MethodId} {below : List Frame} {meth : Method} {c : Code} {D : va_G} {q : ClassId × ClassId × ClassId × ClassId} {ad : Nat → Nat → Nat} {args : Array Value} (S : CallFix p m c cX9_layHolds 3 s args GW "OnChinModel") (V : EvM D q ad s) (hr : meth.sig.returnType = none) (hlocks : meth.locks = false) (post : St → Prop)  : ∀ (n : Nat) (x1 : Int32) (σ : St) (H : Heap) (locs : List Loc) (ls : Array Slot), wp_X9_layHolds_2 post n x1 σ → wo D clA LM ad s.heap H locs (EM q ad σ) → lv_has ls 3 [(0, .ref (ad 0 0)), (1, .int x1)] → W p l e { frames := 4, cells := 0, slots := 0, locals := 101 } s m args below meth c H locs 0 0 (MQ below (zQv D clA LM ad (EM q ad) post) args s 0 0 (zA LM ad)) (F0 m 2 ls []) := by
  have hx := S.1
  have hb := S.2.1
  intro n
  induction n with
  | zero => intro x1 σ H locs ls h; exact False.elim h
  | succ n ih =>
    intro x1 σ H locs ls h  hw hl
    refine lv_iload_n hx hb dX9_layHolds_2 rfl (lv_at hl 1 rfl) ?_
    refine lv_bipush (v := 28) hx hb dX9_layHolds_3 (by decide) ?_
    refine lv_icmp_ge (tgt := 65) hx hb dX9_layHolds_5 (by decide) (fun hc => ?_) (fun hc => ?_)
    · have h := h.1 hc
      exact ret_v S hr hlocks hw h dX9_layHolds_65
    · have h := h.2 hc
      refine lv_iload_n hx hb dX9_layHolds_8 rfl (lv_at hl 1 rfl) ?_
      refine lv_bipush (v := 7) hx hb dX9_layHolds_9 (by decide) ?_
      refine lv_idiv hx hb dX9_layHolds_11 (by decide) ?_
      refine lv_istore_n (lv' := [(2, .int (x1 / 7)), (0, .ref (ad 0 0)), (1, .int x1)]) hx hb dX9_layHolds_12 rfl hl (by decide) rfl (fun ls hl => ?_)
      refine lv_aload_n hx hb dX9_layHolds_13 rfl (lv_at hl 1 rfl) ?_
      refine gM_0_6 S V hw (Nat.le_of_ble_eq_true rfl) fl_X9_22 dX9_layHolds_14 ?_
      refine lv_iload_n hx hb dX9_layHolds_17 rfl (lv_at hl 0 rfl) ?_
      refine aM_5 S V hw (Nat.le_of_ble_eq_true rfl) h.1 (z := (σ 5 0 ((x1 / 7).toNatClampNeg))) rfl dX9_layHolds_18 ?_
      have h := h.2
      refine lv_if_le (tgt := 59) hx hb dX9_layHolds_19 (by decide) (fun hc => ?_) (fun hc => ?_)
      · have h := h.1 hc
        exact wk_X9_layHolds_59 S V hr hlocks   (fun y0 τ => wp_X9_layHolds_2 post n y0 τ) post ih x1 _ _ _ _ h  hw (lv_sub hl [1, 2] rfl)
      · have h := h.2 hc
        refine lv_aload_n hx hb dX9_layHolds_22 rfl (lv_at hl 1 rfl) ?_
        refine lv_iload_n hx hb dX9_layHolds_23 rfl (lv_at hl 0 rfl) ?_
        refine call_Vv (As := [.int (x1 / 7)]) (rest := []) EvM_ok S V hw (mt_X9_asTold l D q ad (x1 / 7)  σ _ h) ok_X9_asTold ml_X9_258 (rM_0 S V hw (Nat.le_of_ble_eq_true rfl)) ⟨(Nat.le_of_ble_eq_true rfl), (Nat.le_of_ble_eq_true rfl)⟩ ⟨rfl, rfl⟩ rfl hl.1 rfl (Nat.le_of_ble_eq_true rfl) dX9_layHolds_24 (fun σ1 H locs h hw => ?_)
        refine lv_aload_n hx hb dX9_layHolds_27 rfl (lv_at hl 1 rfl) ?_
        refine lv_iload_n hx hb dX9_layHolds_28 rfl (lv_at hl 2 rfl) ?_
        refine lv_bipush (v := 7) hx hb dX9_layHolds_29 (by decide) ?_
        refine lv_irem hx hb dX9_layHolds_31 (by decide) ?_
        refine pM_0_30 S V hw (Nat.le_of_ble_eq_true rfl) fl_X9_207 dX9_layHolds_32 (fun H locs hw => ?_)
        refine lv_aload_n hx hb dX9_layHolds_35 rfl (lv_at hl 1 rfl) ?_
        refine gM_0_38 S V hw (Nat.le_of_ble_eq_true rfl) fl_X9_77 dX9_layHolds_36 ?_
        refine lv_iload_n hx hb dX9_layHolds_39 rfl (lv_at hl 2 rfl) ?_
        refine lv_aload_n hx hb dX9_layHolds_40 rfl (lv_at hl 1 rfl) ?_
        refine lv_bipush (v := 10) hx hb dX9_layHolds_41 (by decide) ?_
        refine lv_iconst (v := 0) hx hb dX9_layHolds_43 (by decide) ?_
        refine lv_iconst (v := 1) hx hb dX9_layHolds_44 (by decide) ?_
        refine call_Vi (As := [.int 10, .int 0, .int 1]) (rest := [.int x1, .ref (ad 16 0)]) EvM_ok S V hw (mt_X9_lasts l D q ad 10 0 1  (su σ1 0 0 30 (x1 - x1 / 7 * 7)) _ h) ok_X9_lasts ml_X9_272 (rM_0 S V hw (Nat.le_of_ble_eq_true rfl)) ⟨(Nat.le_of_ble_eq_true rfl), (Nat.le_of_ble_eq_true rfl)⟩ ⟨rfl, rfl⟩ rfl hl.1 rfl (Nat.le_of_ble_eq_true rfl) dX9_layHolds_45 (fun r2 σ2 H locs h hw => ?_)
        refine lv_bipush (v := 39) hx hb dX9_layHolds_48 (by decide) ?_
        refine lv_icmp_le (tgt := 57) hx hb dX9_layHolds_50 (by decide) (fun hc => ?_) (fun hc => ?_)
        · have h := h.1 hc
          refine lv_iconst (v := 0) hx hb dX9_layHolds_57 (by decide) ?_
          exact wk_X9_layHolds_58 S V hr hlocks   (fun y0 τ => wp_X9_layHolds_2 post n y0 τ) post ih x1 x1 0 _ _ _ _ h  hw (lv_sub hl [1, 2] rfl)
        · have h := h.2 hc
          refine lv_iconst (v := 1) hx hb dX9_layHolds_53 (by decide) ?_
          refine lv_goto (tgt := 58) hx hb dX9_layHolds_54 (by decide) ?_
          exact wk_X9_layHolds_58 S V hr hlocks   (fun y0 τ => wp_X9_layHolds_2 post n y0 τ) post ih x1 x1 1 _ _ _ _ h  hw (lv_sub hl [1, 2] rfl)
def wp_X9_layHolds (post : St → Prop)  (σ : St) : Prop := ∃ nn, wp_X9_layHolds_2 post nn 0 σ
set_option maxHeartbeats 4000000 in
set_option maxRecDepth 100000 in
theorem wk_X9_layHolds_0 {p : Program} {l : Launch} {e : Env} {s : State} {m : MethodId} {below : List Frame} {meth : Method} {c : Code} {D : va_G} {q : ClassId × ClassId × ClassId × ClassId} {ad : Nat → Nat → Nat} {args : Array Value} (S : CallFix p m c cX9_layHolds 3 s args GW "OnChinModel") (V : EvM D q ad s) (hr : meth.sig.returnType = none) (hlocks : meth.locks = false) (post : St → Prop)  : ∀ (σ : St) (H : Heap) (locs : List Loc) (ls : Array Slot), wp_X9_layHolds post  σ → wo D clA LM ad s.heap H locs (EM q ad σ) → lv_has ls 3 [(0, .ref (ad 0 0))] → W p l e { frames := 4, cells := 0, slots := 0, locals := 101 } s m args below meth c H locs 0 0 (MQ below (zQv D clA LM ad (EM q ad) post) args s 0 0 (zA LM ad)) (F0 m 0 ls []) := by
  have hx := S.1
  have hb := S.2.1
  intro  σ H locs ls h  hw hl
  refine lv_iconst (v := 0) hx hb dX9_layHolds_0 (by decide) ?_
  refine lv_istore_n (lv' := [(1, .int 0), (0, .ref (ad 0 0))]) hx hb dX9_layHolds_1 rfl hl (by decide) rfl (fun ls hl => ?_)
  obtain ⟨n9, h⟩ := h
  exact wk_X9_layHolds_2 S V hr hlocks    post  n9 0 _ _ _ _ h  hw (lv_sub hl [1, 0] rfl)
theorem mt_X9_layHolds (l : Launch) (D : va_G) (q : ClassId × ClassId × ClassId × ClassId) (ad : Nat → Nat → Nat)  (σ : St) (post : St → Prop) (h : wp_X9_layHolds post σ) : cV l D clA LM ad (EM q ad) (EvM D q ad) yX9_layHolds cX9_layHolds 3 none { frames := 4, cells := 0, slots := 0, locals := 101 } [.ref (ad 0 0)] σ post :=
  ent_v (by decide) (Nat.le_of_ble_eq_true rfl) (fun p e s m below meth c S V hr hlocks hw ls hl => wk_X9_layHolds_0 S V hr hlocks   post   σ _ _ ls h  hw (lv_sub hl [0] rfl))
def wp_X9_tenthsBy_138 (x1 : Int32) (x2 : Int32) (K35 : Int32 → Int32 → Int32 → St → Prop) (post : Int32 → St → Prop) (x3 : Int32) (x5 : Int32) (xs0 : Int32) (σ : St) : Prop := K35 x3 xs0 (x5 + 1) σ
set_option maxHeartbeats 4000000 in
set_option maxRecDepth 100000 in
theorem wk_X9_tenthsBy_138 {p : Program} {l : Launch} {e : Env} {s : State} {m : MethodId} {below : List Frame} {meth : Method} {c : Code} {D : va_G} {q : ClassId × ClassId × ClassId × ClassId} {ad : Nat → Nat → Nat} {args : Array Value} (S : CallFix p m c cX9_tenthsBy 8 s args GW "OnChinModel") (V : EvM D q ad s) (hr : meth.sig.returnType = (some .int)) (hlocks : meth.locks = false) (x1 : Int32) (x2 : Int32) (K35 : Int32 → Int32 → Int32 → St → Prop) (post : Int32 → St → Prop) (hK35 : ∀ (x3 : Int32) (x4 : Int32) (x5 : Int32) (σ : St) (H : Heap) (locs : List Loc) (ls : Array Slot), K35 x3 x4 x5 σ → wo D clA LM ad s.heap H locs (EM q ad σ) → lv_has ls 8 [(0, .ref (ad 0 0)), (1, .int x1), (2, .int x2), (3, .int x3), (4, .int x4), (5, .int x5)] → W p l e { frames := 1, cells := 0, slots := 0, locals := 26 } s m args below meth c H locs 0 0 (MQ below (zQi D clA LM ad (EM q ad) post) args s 0 0 (zA LM ad)) (F0 m 35 ls [])) : ∀ (x3 : Int32) (x5 : Int32) (xs0 : Int32) (σ : St) (H : Heap) (locs : List Loc) (ls : Array Slot), wp_X9_tenthsBy_138 x1 x2 K35 post x3 x5 xs0 σ → wo D clA LM ad s.heap H locs (EM q ad σ) → lv_has ls 8 [(0, .ref (ad 0 0)), (1, .int x1), (2, .int x2), (3, .int x3), (5, .int x5)] → W p l e { frames := 1, cells := 0, slots := 0, locals := 26 } s m args below meth c H locs 0 0 (MQ below (zQi D clA LM ad (EM q ad) post) args s 0 0 (zA LM ad)) (F0 m 138 ls [.int xs0]) := by
  have hx := S.1
  have hb := S.2.1
  intro x3 x5 xs0 σ H locs ls h  hw hl
  refine lv_istore (lv' := [(4, .int xs0), (0, .ref (ad 0 0)), (1, .int x1), (2, .int x2), (3, .int x3), (5, .int x5)]) hx hb dX9_tenthsBy_138 hl (by decide) rfl (fun ls hl => ?_)
  refine lv_iinc (v := (x5 + 1)) (lv' := [(5, .int (x5 + 1)), (4, .int xs0), (0, .ref (ad 0 0)), (1, .int x1), (2, .int x2), (3, .int x3)]) hx hb dX9_tenthsBy_140 hl (k := 5) rfl rfl (by decide) rfl (fun ls hl => ?_)
  refine lv_goto (tgt := 35) hx hb dX9_tenthsBy_143 (by decide) ?_
  exact hK35 x3 xs0 (x5 + 1) _ _ _ _ h  hw (lv_sub hl [2, 3, 4, 5, 1, 0] rfl)
def wp_X9_tenthsBy_127 (x1 : Int32) (x2 : Int32) (K35 : Int32 → Int32 → Int32 → St → Prop) (post : Int32 → St → Prop) (x3 : Int32) (x4 : Int32) (x5 : Int32) (σ : St) : Prop := ((¬ x4 = 0 → wp_X9_tenthsBy_138 x1 x2 K35 post x3 x5 x4 σ) ∧ (x4 = 0 → wp_X9_tenthsBy_138 x1 x2 K35 post x3 x5 1 σ))
set_option maxHeartbeats 4000000 in
set_option maxRecDepth 100000 in
theorem wk_X9_tenthsBy_127 {p : Program} {l : Launch} {e : Env} {s : State} {m : MethodId} {below : List Frame} {meth : Method} {c : Code} {D : va_G} {q : ClassId × ClassId × ClassId × ClassId} {ad : Nat → Nat → Nat} {args : Array Value} (S : CallFix p m c cX9_tenthsBy 8 s args GW "OnChinModel") (V : EvM D q ad s) (hr : meth.sig.returnType = (some .int)) (hlocks : meth.locks = false) (x1 : Int32) (x2 : Int32) (K35 : Int32 → Int32 → Int32 → St → Prop) (post : Int32 → St → Prop) (hK35 : ∀ (x3 : Int32) (x4 : Int32) (x5 : Int32) (σ : St) (H : Heap) (locs : List Loc) (ls : Array Slot), K35 x3 x4 x5 σ → wo D clA LM ad s.heap H locs (EM q ad σ) → lv_has ls 8 [(0, .ref (ad 0 0)), (1, .int x1), (2, .int x2), (3, .int x3), (4, .int x4), (5, .int x5)] → W p l e { frames := 1, cells := 0, slots := 0, locals := 26 } s m args below meth c H locs 0 0 (MQ below (zQi D clA LM ad (EM q ad) post) args s 0 0 (zA LM ad)) (F0 m 35 ls [])) : ∀ (x3 : Int32) (x4 : Int32) (x5 : Int32) (σ : St) (H : Heap) (locs : List Loc) (ls : Array Slot), wp_X9_tenthsBy_127 x1 x2 K35 post x3 x4 x5 σ → wo D clA LM ad s.heap H locs (EM q ad σ) → lv_has ls 8 [(0, .ref (ad 0 0)), (1, .int x1), (2, .int x2), (3, .int x3), (4, .int x4), (5, .int x5)] → W p l e { frames := 1, cells := 0, slots := 0, locals := 26 } s m args below meth c H locs 0 0 (MQ below (zQi D clA LM ad (EM q ad) post) args s 0 0 (zA LM ad)) (F0 m 127 ls []) := by
  have hx := S.1
  have hb := S.2.1
  intro x3 x4 x5 σ H locs ls h  hw hl
  refine lv_iload hx hb dX9_tenthsBy_127 (lv_at hl 4 rfl) ?_
  refine lv_if_ne (tgt := 136) hx hb dX9_tenthsBy_129 (by decide) (fun hc => ?_) (fun hc => ?_)
  · have h := h.1 hc
    refine lv_iload hx hb dX9_tenthsBy_136 (lv_at hl 4 rfl) ?_
    exact wk_X9_tenthsBy_138 S V hr hlocks x1 x2  K35 post hK35 x3 x5 x4 _ _ _ _ h  hw (lv_sub hl [0, 1, 2, 3, 5] rfl)
  · have h := h.2 hc
    refine lv_iconst (v := 1) hx hb dX9_tenthsBy_132 (by decide) ?_
    refine lv_goto (tgt := 138) hx hb dX9_tenthsBy_133 (by decide) ?_
    exact wk_X9_tenthsBy_138 S V hr hlocks x1 x2  K35 post hK35 x3 x5 1 _ _ _ _ h  hw (lv_sub hl [0, 1, 2, 3, 5] rfl)
def wp_X9_tenthsBy_126 (x1 : Int32) (x2 : Int32) (K35 : Int32 → Int32 → Int32 → St → Prop) (post : Int32 → St → Prop) (x4 : Int32) (x5 : Int32) (xs0 : Int32) (σ : St) : Prop := wp_X9_tenthsBy_127 x1 x2 K35 post xs0 x4 x5 σ
set_option maxHeartbeats 4000000 in
set_option maxRecDepth 100000 in
theorem wk_X9_tenthsBy_126 {p : Program} {l : Launch} {e : Env} {s : State} {m : MethodId} {below : List Frame} {meth : Method} {c : Code} {D : va_G} {q : ClassId × ClassId × ClassId × ClassId} {ad : Nat → Nat → Nat} {args : Array Value} (S : CallFix p m c cX9_tenthsBy 8 s args GW "OnChinModel") (V : EvM D q ad s) (hr : meth.sig.returnType = (some .int)) (hlocks : meth.locks = false) (x1 : Int32) (x2 : Int32) (K35 : Int32 → Int32 → Int32 → St → Prop) (post : Int32 → St → Prop) (hK35 : ∀ (x3 : Int32) (x4 : Int32) (x5 : Int32) (σ : St) (H : Heap) (locs : List Loc) (ls : Array Slot), K35 x3 x4 x5 σ → wo D clA LM ad s.heap H locs (EM q ad σ) → lv_has ls 8 [(0, .ref (ad 0 0)), (1, .int x1), (2, .int x2), (3, .int x3), (4, .int x4), (5, .int x5)] → W p l e { frames := 1, cells := 0, slots := 0, locals := 26 } s m args below meth c H locs 0 0 (MQ below (zQi D clA LM ad (EM q ad) post) args s 0 0 (zA LM ad)) (F0 m 35 ls [])) : ∀ (x4 : Int32) (x5 : Int32) (xs0 : Int32) (σ : St) (H : Heap) (locs : List Loc) (ls : Array Slot), wp_X9_tenthsBy_126 x1 x2 K35 post x4 x5 xs0 σ → wo D clA LM ad s.heap H locs (EM q ad σ) → lv_has ls 8 [(0, .ref (ad 0 0)), (1, .int x1), (2, .int x2), (4, .int x4), (5, .int x5)] → W p l e { frames := 1, cells := 0, slots := 0, locals := 26 } s m args below meth c H locs 0 0 (MQ below (zQi D clA LM ad (EM q ad) post) args s 0 0 (zA LM ad)) (F0 m 126 ls [.int xs0]) := by
  have hx := S.1
  have hb := S.2.1
  intro x4 x5 xs0 σ H locs ls h  hw hl
  have h : wp_X9_tenthsBy_127 x1 x2 K35 post xs0 x4 x5 σ := h
  refine lv_istore_n (lv' := [(3, .int xs0), (0, .ref (ad 0 0)), (1, .int x1), (2, .int x2), (4, .int x4), (5, .int x5)]) hx hb dX9_tenthsBy_126 rfl hl (by decide) rfl (fun ls hl => ?_)
  exact wk_X9_tenthsBy_127 S V hr hlocks x1 x2  K35 post hK35 xs0 x4 x5 _ _ _ _ h  hw (lv_sub hl [1, 2, 3, 0, 4, 5] rfl)
def wp_X9_tenthsBy_115 (x1 : Int32) (x2 : Int32) (K35 : Int32 → Int32 → Int32 → St → Prop) (post : Int32 → St → Prop) (x4 : Int32) (x5 : Int32) (xs0 : Int32) (xs1 : Int32) (σ : St) : Prop := (((xs0 - xs1) ≤ 0 → wp_X9_tenthsBy_126 x1 x2 K35 post x4 x5 0 σ) ∧ (¬ (xs0 - xs1) ≤ 0 → wp_X9_tenthsBy_126 x1 x2 K35 post x4 x5 (xs0 - xs1) σ))
set_option maxHeartbeats 4000000 in
set_option maxRecDepth 100000 in
theorem wk_X9_tenthsBy_115 {p : Program} {l : Launch} {e : Env} {s : State} {m : MethodId} {below : List Frame} {meth : Method} {c : Code} {D : va_G} {q : ClassId × ClassId × ClassId × ClassId} {ad : Nat → Nat → Nat} {args : Array Value} (S : CallFix p m c cX9_tenthsBy 8 s args GW "OnChinModel") (V : EvM D q ad s) (hr : meth.sig.returnType = (some .int)) (hlocks : meth.locks = false) (x1 : Int32) (x2 : Int32) (K35 : Int32 → Int32 → Int32 → St → Prop) (post : Int32 → St → Prop) (hK35 : ∀ (x3 : Int32) (x4 : Int32) (x5 : Int32) (σ : St) (H : Heap) (locs : List Loc) (ls : Array Slot), K35 x3 x4 x5 σ → wo D clA LM ad s.heap H locs (EM q ad σ) → lv_has ls 8 [(0, .ref (ad 0 0)), (1, .int x1), (2, .int x2), (3, .int x3), (4, .int x4), (5, .int x5)] → W p l e { frames := 1, cells := 0, slots := 0, locals := 26 } s m args below meth c H locs 0 0 (MQ below (zQi D clA LM ad (EM q ad) post) args s 0 0 (zA LM ad)) (F0 m 35 ls [])) : ∀ (x4 : Int32) (x5 : Int32) (xs0 : Int32) (xs1 : Int32) (σ : St) (H : Heap) (locs : List Loc) (ls : Array Slot), wp_X9_tenthsBy_115 x1 x2 K35 post x4 x5 xs0 xs1 σ → wo D clA LM ad s.heap H locs (EM q ad σ) → lv_has ls 8 [(0, .ref (ad 0 0)), (1, .int x1), (2, .int x2), (4, .int x4), (5, .int x5)] → W p l e { frames := 1, cells := 0, slots := 0, locals := 26 } s m args below meth c H locs 0 0 (MQ below (zQi D clA LM ad (EM q ad) post) args s 0 0 (zA LM ad)) (F0 m 115 ls [.int xs1, .int xs0]) := by
  have hx := S.1
  have hb := S.2.1
  intro x4 x5 xs0 xs1 σ H locs ls h  hw hl
  refine lv_isub hx hb dX9_tenthsBy_115 ?_
  refine lv_istore_n (lv' := [(3, .int (xs0 - xs1)), (0, .ref (ad 0 0)), (1, .int x1), (2, .int x2), (4, .int x4), (5, .int x5)]) hx hb dX9_tenthsBy_116 rfl hl (by decide) rfl (fun ls hl => ?_)
  refine lv_iload_n hx hb dX9_tenthsBy_117 rfl (lv_at hl 0 rfl) ?_
  refine lv_if_le (tgt := 125) hx hb dX9_tenthsBy_118 (by decide) (fun hc => ?_) (fun hc => ?_)
  · have h := h.1 hc
    refine lv_iconst (v := 0) hx hb dX9_tenthsBy_125 (by decide) ?_
    exact wk_X9_tenthsBy_126 S V hr hlocks x1 x2  K35 post hK35 x4 x5 0 _ _ _ _ h  hw (lv_sub hl [1, 2, 3, 4, 5] rfl)
  · have h := h.2 hc
    refine lv_iload_n hx hb dX9_tenthsBy_121 rfl (lv_at hl 0 rfl) ?_
    refine lv_goto (tgt := 126) hx hb dX9_tenthsBy_122 (by decide) ?_
    exact wk_X9_tenthsBy_126 S V hr hlocks x1 x2  K35 post hK35 x4 x5 (xs0 - xs1) _ _ _ _ h  hw (lv_sub hl [1, 2, 3, 4, 5] rfl)
def wp_X9_tenthsBy_35 (x1 : Int32) (x2 : Int32) (post : Int32 → St → Prop) : Nat → Int32 → Int32 → Int32 → St → Prop
  | 0 => fun _ _ _ _ => False
  | n + 1 => fun x3 x4 x5 σ => ((x2 ≤ x5 → post x3 σ) ∧ (¬ x2 ≤ x5 → (¬ x4 = 0 ∧ (vp_in ((x1 / x4) - (x1 / x4) / 4 * 4) 4 ∧ ((¬ (σ 5 0 (((x1 / x4) - (x1 / x4) / 4 * 4).toNatClampNeg)) = 0 → wp_X9_longOf ((x1 / x4) - (x1 / x4) / 4 * 4) (fun r1 σ1 => (¬ (r1 + 20) = 0 ∧ (vp_in ((7 * ((x1 / x4) - (x1 / x4) / 4 * 4)) + (x3 / 10)) 28 ∧ (((σ1 16 0 (((7 * ((x1 / x4) - (x1 / x4) / 4 * 4)) + (x3 / 10)).toNatClampNeg)) = 0 → wp_X9_tenthsBy_127 x1 x2 (fun y0 y1 y2 τ => wp_X9_tenthsBy_35 x1 x2 post n y0 y1 y2 τ) post x3 (x4 / 4) x5 σ1) ∧ (¬ (σ1 16 0 (((7 * ((x1 / x4) - (x1 / x4) / 4 * 4)) + (x3 / 10)).toNatClampNeg)) = 0 → (((200 / (r1 + 20)) ≤ 1 → wp_X9_tenthsBy_115 x1 x2 (fun y0 y1 y2 τ => wp_X9_tenthsBy_35 x1 x2 post n y0 y1 y2 τ) post (x4 / 4) x5 x3 1 σ1) ∧ (¬ (200 / (r1 + 20)) ≤ 1 → wp_X9_tenthsBy_115 x1 x2 (fun y0 y1 y2 τ => wp_X9_tenthsBy_35 x1 x2 post n y0 y1 y2 τ) post (x4 / 4) x5 x3 (200 / (r1 + 20)) σ1))))))) σ) ∧ ((σ 5 0 (((x1 / x4) - (x1 / x4) / 4 * 4).toNatClampNeg)) = 0 → post 268435456 σ))))))
set_option maxHeartbeats 4000000 in
set_option maxRecDepth 100000 in
theorem wk_X9_tenthsBy_35 {p : Program} {l : Launch} {e : Env} {s : State} {m : MethodId} {below : List Frame} {meth : Method} {c : Code} {D : va_G} {q : ClassId × ClassId × ClassId × ClassId} {ad : Nat → Nat → Nat} {args : Array Value} (S : CallFix p m c cX9_tenthsBy 8 s args GW "OnChinModel") (V : EvM D q ad s) (hr : meth.sig.returnType = (some .int)) (hlocks : meth.locks = false) (x1 : Int32) (x2 : Int32) (post : Int32 → St → Prop)  : ∀ (n : Nat) (x3 : Int32) (x4 : Int32) (x5 : Int32) (σ : St) (H : Heap) (locs : List Loc) (ls : Array Slot), wp_X9_tenthsBy_35 x1 x2 post n x3 x4 x5 σ → wo D clA LM ad s.heap H locs (EM q ad σ) → lv_has ls 8 [(0, .ref (ad 0 0)), (1, .int x1), (2, .int x2), (3, .int x3), (4, .int x4), (5, .int x5)] → W p l e { frames := 1, cells := 0, slots := 0, locals := 26 } s m args below meth c H locs 0 0 (MQ below (zQi D clA LM ad (EM q ad) post) args s 0 0 (zA LM ad)) (F0 m 35 ls []) := by
  have hx := S.1
  have hb := S.2.1
  intro n
  induction n with
  | zero => intro x3 x4 x5 σ H locs ls h; exact False.elim h
  | succ n ih =>
    intro x3 x4 x5 σ H locs ls h  hw hl
    refine lv_iload hx hb dX9_tenthsBy_35 (lv_at hl 5 rfl) ?_
    refine lv_iload_n hx hb dX9_tenthsBy_37 rfl (lv_at hl 2 rfl) ?_
    refine lv_icmp_ge (tgt := 146) hx hb dX9_tenthsBy_38 (by decide) (fun hc => ?_) (fun hc => ?_)
    · have h := h.1 hc
      refine lv_iload_n hx hb dX9_tenthsBy_146 rfl (lv_at hl 3 rfl) ?_
      exact ret_i S hr hlocks hw h dX9_tenthsBy_147
    · have h := h.2 hc
      refine lv_iload_n hx hb dX9_tenthsBy_41 rfl (lv_at hl 1 rfl) ?_
      refine lv_iload hx hb dX9_tenthsBy_42 (lv_at hl 4 rfl) ?_
      refine lv_idiv hx hb dX9_tenthsBy_44 h.1 ?_
      have h := h.2
      refine lv_iconst (v := 4) hx hb dX9_tenthsBy_45 (by decide) ?_
      refine lv_irem hx hb dX9_tenthsBy_46 (by decide) ?_
      refine lv_istore (lv' := [(6, .int ((x1 / x4) - (x1 / x4) / 4 * 4)), (0, .ref (ad 0 0)), (1, .int x1), (2, .int x2), (3, .int x3), (4, .int x4), (5, .int x5)]) hx hb dX9_tenthsBy_47 hl (by decide) rfl (fun ls hl => ?_)
      refine lv_iload hx hb dX9_tenthsBy_49 (lv_at hl 5 rfl) ?_
      refine lv_iconst (v := 4) hx hb dX9_tenthsBy_51 (by decide) ?_
      refine lv_idiv hx hb dX9_tenthsBy_52 (by decide) ?_
      refine lv_istore (lv' := [(4, .int (x4 / 4)), (6, .int ((x1 / x4) - (x1 / x4) / 4 * 4)), (0, .ref (ad 0 0)), (1, .int x1), (2, .int x2), (3, .int x3), (5, .int x5)]) hx hb dX9_tenthsBy_53 hl (by decide) rfl (fun ls hl => ?_)
      refine lv_aload_n hx hb dX9_tenthsBy_55 rfl (lv_at hl 2 rfl) ?_
      refine gM_0_6 S V hw (Nat.le_of_ble_eq_true rfl) fl_X9_22 dX9_tenthsBy_56 ?_
      refine lv_iload hx hb dX9_tenthsBy_59 (lv_at hl 1 rfl) ?_
      refine aM_5 S V hw (Nat.le_of_ble_eq_true rfl) h.1 (z := (σ 5 0 (((x1 / x4) - (x1 / x4) / 4 * 4).toNatClampNeg))) rfl dX9_tenthsBy_61 ?_
      have h := h.2
      refine lv_if_ne (tgt := 69) hx hb dX9_tenthsBy_62 (by decide) (fun hc => ?_) (fun hc => ?_)
      · have h := h.1 hc
        refine lv_sipush (v := 200) hx hb dX9_tenthsBy_69 (by decide) ?_
        refine lv_aload_n hx hb dX9_tenthsBy_72 rfl (lv_at hl 2 rfl) ?_
        refine lv_iload hx hb dX9_tenthsBy_73 (lv_at hl 1 rfl) ?_
        refine call_Vi (As := [.int ((x1 / x4) - (x1 / x4) / 4 * 4)]) (rest := [.int 200]) EvM_ok S V hw (mt_X9_longOf l D q ad ((x1 / x4) - (x1 / x4) / 4 * 4)  σ _ h) ok_X9_longOf ml_X9_195 (rM_0 S V hw (Nat.le_of_ble_eq_true rfl)) ⟨(Nat.le_of_ble_eq_true rfl), (Nat.le_of_ble_eq_true rfl)⟩ ⟨rfl, rfl⟩ rfl hl.1 rfl (Nat.le_of_ble_eq_true rfl) dX9_tenthsBy_75 (fun r1 σ1 H locs h hw => ?_)
        refine lv_bipush (v := 20) hx hb dX9_tenthsBy_78 (by decide) ?_
        refine lv_iadd hx hb dX9_tenthsBy_80 ?_
        refine lv_idiv hx hb dX9_tenthsBy_81 h.1 ?_
        have h := h.2
        refine lv_istore (lv' := [(7, .int (200 / (r1 + 20))), (4, .int (x4 / 4)), (6, .int ((x1 / x4) - (x1 / x4) / 4 * 4)), (0, .ref (ad 0 0)), (1, .int x1), (2, .int x2), (3, .int x3), (5, .int x5)]) hx hb dX9_tenthsBy_82 hl (by decide) rfl (fun ls hl => ?_)
        refine lv_aload_n hx hb dX9_tenthsBy_84 rfl (lv_at hl 3 rfl) ?_
        refine gM_0_38 S V hw (Nat.le_of_ble_eq_true rfl) fl_X9_77 dX9_tenthsBy_85 ?_
        refine lv_bipush (v := 7) hx hb dX9_tenthsBy_88 (by decide) ?_
        refine lv_iload hx hb dX9_tenthsBy_90 (lv_at hl 2 rfl) ?_
        refine lv_imul hx hb dX9_tenthsBy_92 ?_
        refine lv_iload_n hx hb dX9_tenthsBy_93 rfl (lv_at hl 6 rfl) ?_
        refine lv_bipush (v := 10) hx hb dX9_tenthsBy_94 (by decide) ?_
        refine lv_idiv hx hb dX9_tenthsBy_96 (by decide) ?_
        refine lv_iadd hx hb dX9_tenthsBy_97 ?_
        refine aM_16 S V hw (Nat.le_of_ble_eq_true rfl) h.1 (z := (σ1 16 0 (((7 * ((x1 / x4) - (x1 / x4) / 4 * 4)) + (x3 / 10)).toNatClampNeg))) rfl dX9_tenthsBy_98 ?_
        have h := h.2
        refine lv_if_eq (tgt := 127) hx hb dX9_tenthsBy_99 (by decide) (fun hc => ?_) (fun hc => ?_)
        · have h := h.1 hc
          exact wk_X9_tenthsBy_127 S V hr hlocks x1 x2  (fun y0 y1 y2 τ => wp_X9_tenthsBy_35 x1 x2 post n y0 y1 y2 τ) post ih x3 (x4 / 4) x5 _ _ _ _ h  hw (lv_sub hl [3, 4, 5, 6, 1, 7] rfl)
        · have h := h.2 hc
          refine lv_iload_n hx hb dX9_tenthsBy_102 rfl (lv_at hl 6 rfl) ?_
          refine lv_iload hx hb dX9_tenthsBy_103 (lv_at hl 0 rfl) ?_
          refine lv_iconst (v := 1) hx hb dX9_tenthsBy_105 (by decide) ?_
          refine lv_icmp_le (tgt := 114) hx hb dX9_tenthsBy_106 (by decide) (fun hc => ?_) (fun hc => ?_)
          · have h := h.1 hc
            refine lv_iconst (v := 1) hx hb dX9_tenthsBy_114 (by decide) ?_
            exact wk_X9_tenthsBy_115 S V hr hlocks x1 x2  (fun y0 y1 y2 τ => wp_X9_tenthsBy_35 x1 x2 post n y0 y1 y2 τ) post ih (x4 / 4) x5 x3 1 _ _ _ _ h  hw (lv_sub hl [3, 4, 5, 1, 7] rfl)
          · have h := h.2 hc
            refine lv_iload hx hb dX9_tenthsBy_109 (lv_at hl 0 rfl) ?_
            refine lv_goto (tgt := 115) hx hb dX9_tenthsBy_111 (by decide) ?_
            exact wk_X9_tenthsBy_115 S V hr hlocks x1 x2  (fun y0 y1 y2 τ => wp_X9_tenthsBy_35 x1 x2 post n y0 y1 y2 τ) post ih (x4 / 4) x5 x3 (200 / (r1 + 20)) _ _ _ _ h  hw (lv_sub hl [3, 4, 5, 1, 7] rfl)
      · have h := h.2 hc
        refine lv_ldcw (v := 268435456) hx hb S.2.2.2.1 (gw_S S _ kc_X9_311) dX9_tenthsBy_65 ?_
        exact ret_i S hr hlocks hw h dX9_tenthsBy_68
def wp_X9_tenthsBy_14 (x1 : Int32) (x2 : Int32) (post : Int32 → St → Prop) : Nat → Int32 → Int32 → Int32 → St → Prop
  | 0 => fun _ _ _ _ => False
  | n + 1 => fun x3 x4 x5 σ => ((x2 ≤ x5 → ∃ nn, wp_X9_tenthsBy_35 x1 x2 post nn x3 x4 0 σ) ∧ (¬ x2 ≤ x5 → wp_X9_tenthsBy_14 x1 x2 post n x3 (x4 * 4) (x5 + 1) σ))
set_option maxHeartbeats 4000000 in
set_option maxRecDepth 100000 in
theorem wk_X9_tenthsBy_14 {p : Program} {l : Launch} {e : Env} {s : State} {m : MethodId} {below : List Frame} {meth : Method} {c : Code} {D : va_G} {q : ClassId × ClassId × ClassId × ClassId} {ad : Nat → Nat → Nat} {args : Array Value} (S : CallFix p m c cX9_tenthsBy 8 s args GW "OnChinModel") (V : EvM D q ad s) (hr : meth.sig.returnType = (some .int)) (hlocks : meth.locks = false) (x1 : Int32) (x2 : Int32) (post : Int32 → St → Prop)  : ∀ (n : Nat) (x3 : Int32) (x4 : Int32) (x5 : Int32) (σ : St) (H : Heap) (locs : List Loc) (ls : Array Slot), wp_X9_tenthsBy_14 x1 x2 post n x3 x4 x5 σ → wo D clA LM ad s.heap H locs (EM q ad σ) → lv_has ls 8 [(0, .ref (ad 0 0)), (1, .int x1), (2, .int x2), (3, .int x3), (4, .int x4), (5, .int x5)] → W p l e { frames := 1, cells := 0, slots := 0, locals := 26 } s m args below meth c H locs 0 0 (MQ below (zQi D clA LM ad (EM q ad) post) args s 0 0 (zA LM ad)) (F0 m 14 ls []) := by
  have hx := S.1
  have hb := S.2.1
  intro n
  induction n with
  | zero => intro x3 x4 x5 σ H locs ls h; exact False.elim h
  | succ n ih =>
    intro x3 x4 x5 σ H locs ls h  hw hl
    refine lv_iload hx hb dX9_tenthsBy_14 (lv_at hl 5 rfl) ?_
    refine lv_iload_n hx hb dX9_tenthsBy_16 rfl (lv_at hl 2 rfl) ?_
    refine lv_icmp_ge (tgt := 32) hx hb dX9_tenthsBy_17 (by decide) (fun hc => ?_) (fun hc => ?_)
    · have h := h.1 hc
      refine lv_iconst (v := 0) hx hb dX9_tenthsBy_32 (by decide) ?_
      refine lv_istore (lv' := [(5, .int 0), (0, .ref (ad 0 0)), (1, .int x1), (2, .int x2), (3, .int x3), (4, .int x4)]) hx hb dX9_tenthsBy_33 hl (by decide) rfl (fun ls hl => ?_)
      obtain ⟨n9, h⟩ := h
      exact wk_X9_tenthsBy_35 S V hr hlocks x1 x2   post  n9 x3 x4 0 _ _ _ _ h  hw (lv_sub hl [1, 2, 3, 4, 5, 0] rfl)
    · have h := h.2 hc
      refine lv_iload hx hb dX9_tenthsBy_20 (lv_at hl 4 rfl) ?_
      refine lv_iconst (v := 4) hx hb dX9_tenthsBy_22 (by decide) ?_
      refine lv_imul hx hb dX9_tenthsBy_23 ?_
      refine lv_istore (lv' := [(4, .int (x4 * 4)), (0, .ref (ad 0 0)), (1, .int x1), (2, .int x2), (3, .int x3), (5, .int x5)]) hx hb dX9_tenthsBy_24 hl (by decide) rfl (fun ls hl => ?_)
      refine lv_iinc (v := (x5 + 1)) (lv' := [(5, .int (x5 + 1)), (4, .int (x4 * 4)), (0, .ref (ad 0 0)), (1, .int x1), (2, .int x2), (3, .int x3)]) hx hb dX9_tenthsBy_26 hl (k := 5) rfl rfl (by decide) rfl (fun ls hl => ?_)
      refine lv_goto (tgt := 14) hx hb dX9_tenthsBy_29 (by decide) ?_
      exact ih x3 (x4 * 4) (x5 + 1) _ _ _ _ h  hw (lv_sub hl [2, 3, 4, 5, 1, 0] rfl)
def wp_X9_tenthsBy (x1 : Int32) (x2 : Int32) (post : Int32 → St → Prop)  (σ : St) : Prop := ∃ nn, wp_X9_tenthsBy_14 x1 x2 post nn (10 * (σ 0 0 10)) 1 1 σ
set_option maxHeartbeats 4000000 in
set_option maxRecDepth 100000 in
theorem wk_X9_tenthsBy_0 {p : Program} {l : Launch} {e : Env} {s : State} {m : MethodId} {below : List Frame} {meth : Method} {c : Code} {D : va_G} {q : ClassId × ClassId × ClassId × ClassId} {ad : Nat → Nat → Nat} {args : Array Value} (S : CallFix p m c cX9_tenthsBy 8 s args GW "OnChinModel") (V : EvM D q ad s) (hr : meth.sig.returnType = (some .int)) (hlocks : meth.locks = false) (x1 : Int32) (x2 : Int32) (post : Int32 → St → Prop)  : ∀ (σ : St) (H : Heap) (locs : List Loc) (ls : Array Slot), wp_X9_tenthsBy x1 x2 post  σ → wo D clA LM ad s.heap H locs (EM q ad σ) → lv_has ls 8 [(0, .ref (ad 0 0)), (1, .int x1), (2, .int x2)] → W p l e { frames := 1, cells := 0, slots := 0, locals := 26 } s m args below meth c H locs 0 0 (MQ below (zQi D clA LM ad (EM q ad) post) args s 0 0 (zA LM ad)) (F0 m 0 ls []) := by
  have hx := S.1
  have hb := S.2.1
  intro  σ H locs ls h  hw hl
  refine lv_bipush (v := 10) hx hb dX9_tenthsBy_0 (by decide) ?_
  refine lv_aload_n hx hb dX9_tenthsBy_2 rfl (lv_at hl 0 rfl) ?_
  refine gM_0_10 S V hw (Nat.le_of_ble_eq_true rfl) fl_X9_35 rfl dX9_tenthsBy_3 ?_
  refine lv_imul hx hb dX9_tenthsBy_6 ?_
  refine lv_istore_n (lv' := [(3, .int (10 * (σ 0 0 10))), (0, .ref (ad 0 0)), (1, .int x1), (2, .int x2)]) hx hb dX9_tenthsBy_7 rfl hl (by decide) rfl (fun ls hl => ?_)
  refine lv_iconst (v := 1) hx hb dX9_tenthsBy_8 (by decide) ?_
  refine lv_istore (lv' := [(4, .int 1), (3, .int (10 * (σ 0 0 10))), (0, .ref (ad 0 0)), (1, .int x1), (2, .int x2)]) hx hb dX9_tenthsBy_9 hl (by decide) rfl (fun ls hl => ?_)
  refine lv_iconst (v := 1) hx hb dX9_tenthsBy_11 (by decide) ?_
  refine lv_istore (lv' := [(5, .int 1), (4, .int 1), (3, .int (10 * (σ 0 0 10))), (0, .ref (ad 0 0)), (1, .int x1), (2, .int x2)]) hx hb dX9_tenthsBy_12 hl (by decide) rfl (fun ls hl => ?_)
  obtain ⟨n9, h⟩ := h
  exact wk_X9_tenthsBy_14 S V hr hlocks x1 x2   post  n9 (10 * (σ 0 0 10)) 1 1 _ _ _ _ h  hw (lv_sub hl [3, 4, 5, 2, 1, 0] rfl)
theorem mt_X9_tenthsBy (l : Launch) (D : va_G) (q : ClassId × ClassId × ClassId × ClassId) (ad : Nat → Nat → Nat) (x1 : Int32) (x2 : Int32) (σ : St) (post : Int32 → St → Prop) (h : wp_X9_tenthsBy x1 x2 post σ) : cI l D clA LM ad (EM q ad) (EvM D q ad) yX9_tenthsBy cX9_tenthsBy 8 (some .int) { frames := 1, cells := 0, slots := 0, locals := 26 } [.ref (ad 0 0), .int x1, .int x2] σ post :=
  ent_i (by decide) (Nat.le_of_ble_eq_true rfl) (fun p e s m below meth c S V hr hlocks hw ls hl => wk_X9_tenthsBy_0 S V hr hlocks x1 x2  post   σ _ _ ls h  hw (lv_sub hl [0, 1, 2] rfl))
def wp_X9_plan_27 (x1 : Int32) (x2 : Int32) (post : Int32 → St → Prop)  (σ : St) : Prop := post (-3) σ
set_option maxHeartbeats 4000000 in
set_option maxRecDepth 100000 in
theorem wk_X9_plan_27 {p : Program} {l : Launch} {e : Env} {s : State} {m : MethodId} {below : List Frame} {meth : Method} {c : Code} {D : va_G} {q : ClassId × ClassId × ClassId × ClassId} {ad : Nat → Nat → Nat} {args : Array Value} (S : CallFix p m c cX9_plan 8 s args GW "OnChinModel") (V : EvM D q ad s) (hr : meth.sig.returnType = (some .int)) (hlocks : meth.locks = false) (x1 : Int32) (x2 : Int32) (post : Int32 → St → Prop)  : ∀ (σ : St) (H : Heap) (locs : List Loc) (ls : Array Slot), wp_X9_plan_27 x1 x2 post  σ → wo D clA LM ad s.heap H locs (EM q ad σ) → lv_has ls 8 [(0, .ref (ad 0 0)), (1, .int x1), (2, .int x2)] → W p l e { frames := 5, cells := 0, slots := 0, locals := 123 } s m args below meth c H locs 0 0 (MQ below (zQi D clA LM ad (EM q ad) post) args s 0 0 (zA LM ad)) (F0 m 27 ls []) := by
  have hx := S.1
  have hb := S.2.1
  intro  σ H locs ls h  hw hl
  refine lv_bipush (v := (-3)) hx hb dX9_plan_27 (by decide) ?_
  exact ret_i S hr hlocks hw h dX9_plan_29
def wp_X9_plan_173 (x1 : Int32) (x2 : Int32) (post : Int32 → St → Prop) (xs0 : Int32) (σ : St) : Prop := post xs0 σ
set_option maxHeartbeats 4000000 in
set_option maxRecDepth 100000 in
theorem wk_X9_plan_173 {p : Program} {l : Launch} {e : Env} {s : State} {m : MethodId} {below : List Frame} {meth : Method} {c : Code} {D : va_G} {q : ClassId × ClassId × ClassId × ClassId} {ad : Nat → Nat → Nat} {args : Array Value} (S : CallFix p m c cX9_plan 8 s args GW "OnChinModel") (V : EvM D q ad s) (hr : meth.sig.returnType = (some .int)) (hlocks : meth.locks = false) (x1 : Int32) (x2 : Int32) (post : Int32 → St → Prop)  : ∀ (xs0 : Int32) (σ : St) (H : Heap) (locs : List Loc) (ls : Array Slot), wp_X9_plan_173 x1 x2 post xs0 σ → wo D clA LM ad s.heap H locs (EM q ad σ) → lv_has ls 8 [(0, .ref (ad 0 0)), (1, .int x1), (2, .int x2)] → W p l e { frames := 5, cells := 0, slots := 0, locals := 123 } s m args below meth c H locs 0 0 (MQ below (zQi D clA LM ad (EM q ad) post) args s 0 0 (zA LM ad)) (F0 m 173 ls [.int xs0]) := by
  have hx := S.1
  have hb := S.2.1
  intro xs0 σ H locs ls h  hw hl
  exact ret_i S hr hlocks hw h dX9_plan_173
def wp_X9_plan_159 (x1 : Int32) (x2 : Int32) (post : Int32 → St → Prop) (x5 : Int32) (x6 : Int32) (σ : St) : Prop := ((¬ x2 = (-1) → wp_X9_plan_173 x1 x2 post (x6 - x6 / 4 * 4) σ) ∧ (x2 = (-1) → wp_X9_plan_173 x1 x2 post x5 σ))
set_option maxHeartbeats 4000000 in
set_option maxRecDepth 100000 in
theorem wk_X9_plan_159 {p : Program} {l : Launch} {e : Env} {s : State} {m : MethodId} {below : List Frame} {meth : Method} {c : Code} {D : va_G} {q : ClassId × ClassId × ClassId × ClassId} {ad : Nat → Nat → Nat} {args : Array Value} (S : CallFix p m c cX9_plan 8 s args GW "OnChinModel") (V : EvM D q ad s) (hr : meth.sig.returnType = (some .int)) (hlocks : meth.locks = false) (x1 : Int32) (x2 : Int32) (post : Int32 → St → Prop)  : ∀ (x5 : Int32) (x6 : Int32) (σ : St) (H : Heap) (locs : List Loc) (ls : Array Slot), wp_X9_plan_159 x1 x2 post x5 x6 σ → wo D clA LM ad s.heap H locs (EM q ad σ) → lv_has ls 8 [(0, .ref (ad 0 0)), (1, .int x1), (2, .int x2), (5, .int x5), (6, .int x6)] → W p l e { frames := 5, cells := 0, slots := 0, locals := 123 } s m args below meth c H locs 0 0 (MQ below (zQi D clA LM ad (EM q ad) post) args s 0 0 (zA LM ad)) (F0 m 159 ls []) := by
  have hx := S.1
  have hb := S.2.1
  intro x5 x6 σ H locs ls h  hw hl
  refine lv_iload_n hx hb dX9_plan_159 rfl (lv_at hl 2 rfl) ?_
  refine lv_iconst (v := (-1)) hx hb dX9_plan_160 (by decide) ?_
  refine lv_icmp_ne (tgt := 169) hx hb dX9_plan_161 (by decide) (fun hc => ?_) (fun hc => ?_)
  · have h := h.1 hc
    refine lv_iload hx hb dX9_plan_169 (lv_at hl 4 rfl) ?_
    refine lv_iconst (v := 4) hx hb dX9_plan_171 (by decide) ?_
    refine lv_irem hx hb dX9_plan_172 (by decide) ?_
    exact wk_X9_plan_173 S V hr hlocks x1 x2   post  (x6 - x6 / 4 * 4) _ _ _ _ h  hw (lv_sub hl [0, 1, 2] rfl)
  · have h := h.2 hc
    refine lv_iload hx hb dX9_plan_164 (lv_at hl 3 rfl) ?_
    refine lv_goto (tgt := 173) hx hb dX9_plan_166 (by decide) ?_
    exact wk_X9_plan_173 S V hr hlocks x1 x2   post  x5 _ _ _ _ h  hw (lv_sub hl [0, 1, 2] rfl)
def wp_X9_plan_136 (x1 : Int32) (x2 : Int32) (post : Int32 → St → Prop) : Nat → Int32 → Int32 → Int32 → St → Prop
  | 0 => fun _ _ _ _ => False
  | n + 1 => fun x5 x6 x7 σ => ((x7 ≤ x2 → wp_X9_plan_159 x1 x2 post x5 x6 σ) ∧ (¬ x7 ≤ x2 → ((x2 = (-1) → wp_X9_plan_159 x1 x2 post x5 x6 σ) ∧ (¬ x2 = (-1) → wp_X9_plan_136 x1 x2 post n x5 (x6 / 4) (x7 + (-1)) σ))))
set_option maxHeartbeats 4000000 in
set_option maxRecDepth 100000 in
theorem wk_X9_plan_136 {p : Program} {l : Launch} {e : Env} {s : State} {m : MethodId} {below : List Frame} {meth : Method} {c : Code} {D : va_G} {q : ClassId × ClassId × ClassId × ClassId} {ad : Nat → Nat → Nat} {args : Array Value} (S : CallFix p m c cX9_plan 8 s args GW "OnChinModel") (V : EvM D q ad s) (hr : meth.sig.returnType = (some .int)) (hlocks : meth.locks = false) (x1 : Int32) (x2 : Int32) (post : Int32 → St → Prop)  : ∀ (n : Nat) (x5 : Int32) (x6 : Int32) (x7 : Int32) (σ : St) (H : Heap) (locs : List Loc) (ls : Array Slot), wp_X9_plan_136 x1 x2 post n x5 x6 x7 σ → wo D clA LM ad s.heap H locs (EM q ad σ) → lv_has ls 8 [(0, .ref (ad 0 0)), (1, .int x1), (2, .int x2), (5, .int x5), (6, .int x6), (7, .int x7)] → W p l e { frames := 5, cells := 0, slots := 0, locals := 123 } s m args below meth c H locs 0 0 (MQ below (zQi D clA LM ad (EM q ad) post) args s 0 0 (zA LM ad)) (F0 m 136 ls []) := by
  have hx := S.1
  have hb := S.2.1
  intro n
  induction n with
  | zero => intro x5 x6 x7 σ H locs ls h; exact False.elim h
  | succ n ih =>
    intro x5 x6 x7 σ H locs ls h  hw hl
    refine lv_iload hx hb dX9_plan_136 (lv_at hl 5 rfl) ?_
    refine lv_iload_n hx hb dX9_plan_138 rfl (lv_at hl 2 rfl) ?_
    refine lv_icmp_le (tgt := 159) hx hb dX9_plan_139 (by decide) (fun hc => ?_) (fun hc => ?_)
    · have h := h.1 hc
      exact wk_X9_plan_159 S V hr hlocks x1 x2   post  x5 x6 _ _ _ _ h  hw (lv_sub hl [0, 1, 2, 3, 4] rfl)
    · have h := h.2 hc
      refine lv_iload_n hx hb dX9_plan_142 rfl (lv_at hl 2 rfl) ?_
      refine lv_iconst (v := (-1)) hx hb dX9_plan_143 (by decide) ?_
      refine lv_icmp_eq (tgt := 159) hx hb dX9_plan_144 (by decide) (fun hc => ?_) (fun hc => ?_)
      · have h := h.1 hc
        exact wk_X9_plan_159 S V hr hlocks x1 x2   post  x5 x6 _ _ _ _ h  hw (lv_sub hl [0, 1, 2, 3, 4] rfl)
      · have h := h.2 hc
        refine lv_iload hx hb dX9_plan_147 (lv_at hl 4 rfl) ?_
        refine lv_iconst (v := 4) hx hb dX9_plan_149 (by decide) ?_
        refine lv_idiv hx hb dX9_plan_150 (by decide) ?_
        refine lv_istore (lv' := [(6, .int (x6 / 4)), (0, .ref (ad 0 0)), (1, .int x1), (2, .int x2), (5, .int x5), (7, .int x7)]) hx hb dX9_plan_151 hl (by decide) rfl (fun ls hl => ?_)
        refine lv_iinc (v := (x7 + (-1))) (lv' := [(7, .int (x7 + (-1))), (6, .int (x6 / 4)), (0, .ref (ad 0 0)), (1, .int x1), (2, .int x2), (5, .int x5)]) hx hb dX9_plan_153 hl (k := 5) rfl rfl (by decide) rfl (fun ls hl => ?_)
        refine lv_goto (tgt := 136) hx hb dX9_plan_156 (by decide) ?_
        exact ih x5 (x6 / 4) (x7 + (-1)) _ _ _ _ h  hw (lv_sub hl [2, 3, 4, 5, 1, 0] rfl)
def wp_X9_plan_111 (x1 : Int32) (x2 : Int32) (K66 : Int32 → Int32 → Int32 → Int32 → St → Prop) (post : Int32 → St → Prop) (x3 : Int32) (x4 : Int32) (x6 : Int32) (xs0 : Int32) (σ : St) : Prop := K66 x3 x4 xs0 (x6 + 1) σ
set_option maxHeartbeats 4000000 in
set_option maxRecDepth 100000 in
theorem wk_X9_plan_111 {p : Program} {l : Launch} {e : Env} {s : State} {m : MethodId} {below : List Frame} {meth : Method} {c : Code} {D : va_G} {q : ClassId × ClassId × ClassId × ClassId} {ad : Nat → Nat → Nat} {args : Array Value} (S : CallFix p m c cX9_plan 8 s args GW "OnChinModel") (V : EvM D q ad s) (hr : meth.sig.returnType = (some .int)) (hlocks : meth.locks = false) (x1 : Int32) (x2 : Int32) (K66 : Int32 → Int32 → Int32 → Int32 → St → Prop) (post : Int32 → St → Prop) (hK66 : ∀ (x3 : Int32) (x4 : Int32) (x5 : Int32) (x6 : Int32) (σ : St) (H : Heap) (locs : List Loc) (ls : Array Slot), K66 x3 x4 x5 x6 σ → wo D clA LM ad s.heap H locs (EM q ad σ) → lv_has ls 8 [(0, .ref (ad 0 0)), (1, .int x1), (2, .int x2), (3, .int x3), (4, .int x4), (5, .int x5), (6, .int x6)] → W p l e { frames := 5, cells := 0, slots := 0, locals := 123 } s m args below meth c H locs 0 0 (MQ below (zQi D clA LM ad (EM q ad) post) args s 0 0 (zA LM ad)) (F0 m 66 ls [])) : ∀ (x3 : Int32) (x4 : Int32) (x6 : Int32) (xs0 : Int32) (σ : St) (H : Heap) (locs : List Loc) (ls : Array Slot), wp_X9_plan_111 x1 x2 K66 post x3 x4 x6 xs0 σ → wo D clA LM ad s.heap H locs (EM q ad σ) → lv_has ls 8 [(0, .ref (ad 0 0)), (1, .int x1), (2, .int x2), (3, .int x3), (4, .int x4), (6, .int x6)] → W p l e { frames := 5, cells := 0, slots := 0, locals := 123 } s m args below meth c H locs 0 0 (MQ below (zQi D clA LM ad (EM q ad) post) args s 0 0 (zA LM ad)) (F0 m 111 ls [.int xs0]) := by
  have hx := S.1
  have hb := S.2.1
  intro x3 x4 x6 xs0 σ H locs ls h  hw hl
  refine lv_istore (lv' := [(5, .int xs0), (0, .ref (ad 0 0)), (1, .int x1), (2, .int x2), (3, .int x3), (4, .int x4), (6, .int x6)]) hx hb dX9_plan_111 hl (by decide) rfl (fun ls hl => ?_)
  refine lv_iinc (v := (x6 + 1)) (lv' := [(6, .int (x6 + 1)), (5, .int xs0), (0, .ref (ad 0 0)), (1, .int x1), (2, .int x2), (3, .int x3), (4, .int x4)]) hx hb dX9_plan_113 hl (k := 6) rfl rfl (by decide) rfl (fun ls hl => ?_)
  refine lv_goto (tgt := 66) hx hb dX9_plan_116 (by decide) ?_
  exact hK66 x3 x4 xs0 (x6 + 1) _ _ _ _ h  hw (lv_sub hl [2, 3, 4, 5, 6, 1, 0] rfl)
def wp_X9_plan_95 (x1 : Int32) (x2 : Int32) (K66 : Int32 → Int32 → Int32 → Int32 → St → Prop) (post : Int32 → St → Prop) (x3 : Int32) (x5 : Int32) (x6 : Int32) (x7 : Int32) (xs0 : Int32) (σ : St) : Prop := ((x5 ≤ x7 → wp_X9_plan_111 x1 x2 K66 post x3 xs0 x6 x5 σ) ∧ (¬ x5 ≤ x7 → wp_X9_plan_111 x1 x2 K66 post x3 xs0 x6 x7 σ))
set_option maxHeartbeats 4000000 in
set_option maxRecDepth 100000 in
theorem wk_X9_plan_95 {p : Program} {l : Launch} {e : Env} {s : State} {m : MethodId} {below : List Frame} {meth : Method} {c : Code} {D : va_G} {q : ClassId × ClassId × ClassId × ClassId} {ad : Nat → Nat → Nat} {args : Array Value} (S : CallFix p m c cX9_plan 8 s args GW "OnChinModel") (V : EvM D q ad s) (hr : meth.sig.returnType = (some .int)) (hlocks : meth.locks = false) (x1 : Int32) (x2 : Int32) (K66 : Int32 → Int32 → Int32 → Int32 → St → Prop) (post : Int32 → St → Prop) (hK66 : ∀ (x3 : Int32) (x4 : Int32) (x5 : Int32) (x6 : Int32) (σ : St) (H : Heap) (locs : List Loc) (ls : Array Slot), K66 x3 x4 x5 x6 σ → wo D clA LM ad s.heap H locs (EM q ad σ) → lv_has ls 8 [(0, .ref (ad 0 0)), (1, .int x1), (2, .int x2), (3, .int x3), (4, .int x4), (5, .int x5), (6, .int x6)] → W p l e { frames := 5, cells := 0, slots := 0, locals := 123 } s m args below meth c H locs 0 0 (MQ below (zQi D clA LM ad (EM q ad) post) args s 0 0 (zA LM ad)) (F0 m 66 ls [])) : ∀ (x3 : Int32) (x5 : Int32) (x6 : Int32) (x7 : Int32) (xs0 : Int32) (σ : St) (H : Heap) (locs : List Loc) (ls : Array Slot), wp_X9_plan_95 x1 x2 K66 post x3 x5 x6 x7 xs0 σ → wo D clA LM ad s.heap H locs (EM q ad σ) → lv_has ls 8 [(0, .ref (ad 0 0)), (1, .int x1), (2, .int x2), (3, .int x3), (5, .int x5), (6, .int x6), (7, .int x7)] → W p l e { frames := 5, cells := 0, slots := 0, locals := 123 } s m args below meth c H locs 0 0 (MQ below (zQi D clA LM ad (EM q ad) post) args s 0 0 (zA LM ad)) (F0 m 95 ls [.int xs0]) := by
  have hx := S.1
  have hb := S.2.1
  intro x3 x5 x6 x7 xs0 σ H locs ls h  hw hl
  refine lv_istore (lv' := [(4, .int xs0), (0, .ref (ad 0 0)), (1, .int x1), (2, .int x2), (3, .int x3), (5, .int x5), (6, .int x6), (7, .int x7)]) hx hb dX9_plan_95 hl (by decide) rfl (fun ls hl => ?_)
  refine lv_iload hx hb dX9_plan_97 (lv_at hl 7 rfl) ?_
  refine lv_iload hx hb dX9_plan_99 (lv_at hl 5 rfl) ?_
  refine lv_icmp_ge (tgt := 109) hx hb dX9_plan_101 (by decide) (fun hc => ?_) (fun hc => ?_)
  · have h := h.1 hc
    refine lv_iload hx hb dX9_plan_109 (lv_at hl 5 rfl) ?_
    exact wk_X9_plan_111 S V hr hlocks x1 x2  K66 post hK66 x3 xs0 x6 x5 _ _ _ _ h  hw (lv_sub hl [1, 2, 3, 4, 0, 6] rfl)
  · have h := h.2 hc
    refine lv_iload hx hb dX9_plan_104 (lv_at hl 7 rfl) ?_
    refine lv_goto (tgt := 111) hx hb dX9_plan_106 (by decide) ?_
    exact wk_X9_plan_111 S V hr hlocks x1 x2  K66 post hK66 x3 xs0 x6 x7 _ _ _ _ h  hw (lv_sub hl [1, 2, 3, 4, 0, 6] rfl)
def wp_X9_plan_66 (x1 : Int32) (x2 : Int32) (post : Int32 → St → Prop) : Nat → Int32 → Int32 → Int32 → Int32 → St → Prop
  | 0 => fun _ _ _ _ _ => False
  | n + 1 => fun x3 x4 x5 x6 σ => ((x3 ≤ x6 → ((¬ x4 = (-1) → ∃ nn, wp_X9_plan_136 x1 x2 post nn x5 x4 (x1 - 1) σ) ∧ (x4 = (-1) → post (-1) σ))) ∧ (¬ x3 ≤ x6 → wp_X9_tenthsBy x6 x1 (fun r1 σ1 => ((x5 ≤ r1 → wp_X9_plan_95 x1 x2 (fun y0 y1 y2 y3 τ => wp_X9_plan_66 x1 x2 post n y0 y1 y2 y3 τ) post x3 x5 x6 r1 x4 σ1) ∧ (¬ x5 ≤ r1 → wp_X9_plan_95 x1 x2 (fun y0 y1 y2 y3 τ => wp_X9_plan_66 x1 x2 post n y0 y1 y2 y3 τ) post x3 x5 x6 r1 x6 σ1))) σ))
set_option maxHeartbeats 4000000 in
set_option maxRecDepth 100000 in
theorem wk_X9_plan_66 {p : Program} {l : Launch} {e : Env} {s : State} {m : MethodId} {below : List Frame} {meth : Method} {c : Code} {D : va_G} {q : ClassId × ClassId × ClassId × ClassId} {ad : Nat → Nat → Nat} {args : Array Value} (S : CallFix p m c cX9_plan 8 s args GW "OnChinModel") (V : EvM D q ad s) (hr : meth.sig.returnType = (some .int)) (hlocks : meth.locks = false) (x1 : Int32) (x2 : Int32) (post : Int32 → St → Prop)  : ∀ (n : Nat) (x3 : Int32) (x4 : Int32) (x5 : Int32) (x6 : Int32) (σ : St) (H : Heap) (locs : List Loc) (ls : Array Slot), wp_X9_plan_66 x1 x2 post n x3 x4 x5 x6 σ → wo D clA LM ad s.heap H locs (EM q ad σ) → lv_has ls 8 [(0, .ref (ad 0 0)), (1, .int x1), (2, .int x2), (3, .int x3), (4, .int x4), (5, .int x5), (6, .int x6)] → W p l e { frames := 5, cells := 0, slots := 0, locals := 123 } s m args below meth c H locs 0 0 (MQ below (zQi D clA LM ad (EM q ad) post) args s 0 0 (zA LM ad)) (F0 m 66 ls []) := by
  have hx := S.1
  have hb := S.2.1
  intro n
  induction n with
  | zero => intro x3 x4 x5 x6 σ H locs ls h; exact False.elim h
  | succ n ih =>
    intro x3 x4 x5 x6 σ H locs ls h  hw hl
    refine lv_iload hx hb dX9_plan_66 (lv_at hl 6 rfl) ?_
    refine lv_iload_n hx hb dX9_plan_68 rfl (lv_at hl 3 rfl) ?_
    refine lv_icmp_ge (tgt := 119) hx hb dX9_plan_69 (by decide) (fun hc => ?_) (fun hc => ?_)
    · have h := h.1 hc
      refine lv_iload hx hb dX9_plan_119 (lv_at hl 4 rfl) ?_
      refine lv_iconst (v := (-1)) hx hb dX9_plan_121 (by decide) ?_
      refine lv_icmp_ne (tgt := 127) hx hb dX9_plan_122 (by decide) (fun hc => ?_) (fun hc => ?_)
      · have h := h.1 hc
        refine lv_iload hx hb dX9_plan_127 (lv_at hl 4 rfl) ?_
        refine lv_istore (lv' := [(6, .int x4), (0, .ref (ad 0 0)), (1, .int x1), (2, .int x2), (3, .int x3), (4, .int x4), (5, .int x5)]) hx hb dX9_plan_129 hl (by decide) rfl (fun ls hl => ?_)
        refine lv_iload_n hx hb dX9_plan_131 rfl (lv_at hl 2 rfl) ?_
        refine lv_iconst (v := 1) hx hb dX9_plan_132 (by decide) ?_
        refine lv_isub hx hb dX9_plan_133 ?_
        refine lv_istore (lv' := [(7, .int (x1 - 1)), (6, .int x4), (0, .ref (ad 0 0)), (1, .int x1), (2, .int x2), (3, .int x3), (4, .int x4), (5, .int x5)]) hx hb dX9_plan_134 hl (by decide) rfl (fun ls hl => ?_)
        obtain ⟨n9, h⟩ := h
        exact wk_X9_plan_136 S V hr hlocks x1 x2   post  n9 x5 x4 (x1 - 1) _ _ _ _ h  hw (lv_sub hl [2, 3, 4, 7, 1, 0] rfl)
      · have h := h.2 hc
        refine lv_iconst (v := (-1)) hx hb dX9_plan_125 (by decide) ?_
        exact ret_i S hr hlocks hw h dX9_plan_126
    · have h := h.2 hc
      refine lv_aload_n hx hb dX9_plan_72 rfl (lv_at hl 0 rfl) ?_
      refine lv_iload hx hb dX9_plan_73 (lv_at hl 6 rfl) ?_
      refine lv_iload_n hx hb dX9_plan_75 rfl (lv_at hl 1 rfl) ?_
      refine call_Vi (As := [.int x6, .int x1]) (rest := []) EvM_ok S V hw (mt_X9_tenthsBy l D q ad x6 x1  σ _ h) ok_X9_tenthsBy ml_X9_318 (rM_0 S V hw (Nat.le_of_ble_eq_true rfl)) ⟨(Nat.le_of_ble_eq_true rfl), (Nat.le_of_ble_eq_true rfl)⟩ ⟨rfl, rfl⟩ rfl hl.1 rfl (Nat.le_of_ble_eq_true rfl) dX9_plan_76 (fun r1 σ1 H locs h hw => ?_)
      refine lv_istore (lv' := [(7, .int r1), (0, .ref (ad 0 0)), (1, .int x1), (2, .int x2), (3, .int x3), (4, .int x4), (5, .int x5), (6, .int x6)]) hx hb dX9_plan_79 hl (by decide) rfl (fun ls hl => ?_)
      refine lv_iload hx hb dX9_plan_81 (lv_at hl 0 rfl) ?_
      refine lv_iload hx hb dX9_plan_83 (lv_at hl 6 rfl) ?_
      refine lv_icmp_ge (tgt := 93) hx hb dX9_plan_85 (by decide) (fun hc => ?_) (fun hc => ?_)
      · have h := h.1 hc
        refine lv_iload hx hb dX9_plan_93 (lv_at hl 5 rfl) ?_
        exact wk_X9_plan_95 S V hr hlocks x1 x2  (fun y0 y1 y2 y3 τ => wp_X9_plan_66 x1 x2 post n y0 y1 y2 y3 τ) post ih x3 x5 x6 r1 x4 _ _ _ _ h  hw (lv_sub hl [1, 2, 3, 4, 6, 7, 0] rfl)
      · have h := h.2 hc
        refine lv_iload hx hb dX9_plan_88 (lv_at hl 7 rfl) ?_
        refine lv_goto (tgt := 95) hx hb dX9_plan_90 (by decide) ?_
        exact wk_X9_plan_95 S V hr hlocks x1 x2  (fun y0 y1 y2 y3 τ => wp_X9_plan_66 x1 x2 post n y0 y1 y2 y3 τ) post ih x3 x5 x6 r1 x6 _ _ _ _ h  hw (lv_sub hl [1, 2, 3, 4, 6, 7, 0] rfl)
def wp_X9_plan_39 (x1 : Int32) (x2 : Int32) (post : Int32 → St → Prop) : Nat → Int32 → Int32 → St → Prop
  | 0 => fun _ _ _ => False
  | n + 1 => fun x3 x4 σ => ((x1 ≤ x4 → ∃ nn, wp_X9_plan_66 x1 x2 post nn x3 (-1) 268435456 0 σ) ∧ (¬ x1 ≤ x4 → wp_X9_plan_39 x1 x2 post n (x3 * 4) (x4 + 1) σ))
set_option maxHeartbeats 4000000 in
set_option maxRecDepth 100000 in
theorem wk_X9_plan_39 {p : Program} {l : Launch} {e : Env} {s : State} {m : MethodId} {below : List Frame} {meth : Method} {c : Code} {D : va_G} {q : ClassId × ClassId × ClassId × ClassId} {ad : Nat → Nat → Nat} {args : Array Value} (S : CallFix p m c cX9_plan 8 s args GW "OnChinModel") (V : EvM D q ad s) (hr : meth.sig.returnType = (some .int)) (hlocks : meth.locks = false) (x1 : Int32) (x2 : Int32) (post : Int32 → St → Prop)  : ∀ (n : Nat) (x3 : Int32) (x4 : Int32) (σ : St) (H : Heap) (locs : List Loc) (ls : Array Slot), wp_X9_plan_39 x1 x2 post n x3 x4 σ → wo D clA LM ad s.heap H locs (EM q ad σ) → lv_has ls 8 [(0, .ref (ad 0 0)), (1, .int x1), (2, .int x2), (3, .int x3), (4, .int x4)] → W p l e { frames := 5, cells := 0, slots := 0, locals := 123 } s m args below meth c H locs 0 0 (MQ below (zQi D clA LM ad (EM q ad) post) args s 0 0 (zA LM ad)) (F0 m 39 ls []) := by
  have hx := S.1
  have hb := S.2.1
  intro n
  induction n with
  | zero => intro x3 x4 σ H locs ls h; exact False.elim h
  | succ n ih =>
    intro x3 x4 σ H locs ls h  hw hl
    refine lv_iload hx hb dX9_plan_39 (lv_at hl 4 rfl) ?_
    refine lv_iload_n hx hb dX9_plan_41 rfl (lv_at hl 1 rfl) ?_
    refine lv_icmp_ge (tgt := 55) hx hb dX9_plan_42 (by decide) (fun hc => ?_) (fun hc => ?_)
    · have h := h.1 hc
      refine lv_iconst (v := (-1)) hx hb dX9_plan_55 (by decide) ?_
      refine lv_istore (lv' := [(4, .int (-1)), (0, .ref (ad 0 0)), (1, .int x1), (2, .int x2), (3, .int x3)]) hx hb dX9_plan_56 hl (by decide) rfl (fun ls hl => ?_)
      refine lv_ldcw (v := 268435456) hx hb S.2.2.2.1 (gw_S S _ kc_X9_311) dX9_plan_58 ?_
      refine lv_istore (lv' := [(5, .int 268435456), (4, .int (-1)), (0, .ref (ad 0 0)), (1, .int x1), (2, .int x2), (3, .int x3)]) hx hb dX9_plan_61 hl (by decide) rfl (fun ls hl => ?_)
      refine lv_iconst (v := 0) hx hb dX9_plan_63 (by decide) ?_
      refine lv_istore (lv' := [(6, .int 0), (5, .int 268435456), (4, .int (-1)), (0, .ref (ad 0 0)), (1, .int x1), (2, .int x2), (3, .int x3)]) hx hb dX9_plan_64 hl (by decide) rfl (fun ls hl => ?_)
      obtain ⟨n9, h⟩ := h
      exact wk_X9_plan_66 S V hr hlocks x1 x2   post  n9 x3 (-1) 268435456 0 _ _ _ _ h  hw (lv_sub hl [3, 4, 5, 6, 2, 1, 0] rfl)
    · have h := h.2 hc
      refine lv_iload_n hx hb dX9_plan_45 rfl (lv_at hl 3 rfl) ?_
      refine lv_iconst (v := 4) hx hb dX9_plan_46 (by decide) ?_
      refine lv_imul hx hb dX9_plan_47 ?_
      refine lv_istore_n (lv' := [(3, .int (x3 * 4)), (0, .ref (ad 0 0)), (1, .int x1), (2, .int x2), (4, .int x4)]) hx hb dX9_plan_48 rfl hl (by decide) rfl (fun ls hl => ?_)
      refine lv_iinc (v := (x4 + 1)) (lv' := [(4, .int (x4 + 1)), (3, .int (x3 * 4)), (0, .ref (ad 0 0)), (1, .int x1), (2, .int x2)]) hx hb dX9_plan_49 hl (k := 4) rfl rfl (by decide) rfl (fun ls hl => ?_)
      refine lv_goto (tgt := 39) hx hb dX9_plan_52 (by decide) ?_
      exact ih (x3 * 4) (x4 + 1) _ _ _ _ h  hw (lv_sub hl [2, 3, 4, 1, 0] rfl)
def wp_X9_plan (x1 : Int32) (x2 : Int32) (post : Int32 → St → Prop)  (σ : St) : Prop := wp_X9_in (Int32.toInt64 x1) 1 5 (fun r1 σ1 => ((r1 = 0 → wp_X9_plan_27 x1 x2 post  σ1) ∧ (¬ r1 = 0 → wp_X9_in (Int32.toInt64 x2) (-1) (Int32.toInt64 (x1 - 1)) (fun r2 σ2 => ((¬ r2 = 0 → wp_X9_layHolds (fun σ3 => ∃ nn, wp_X9_plan_39 x1 x2 post nn 1 0 σ3) σ2) ∧ (r2 = 0 → wp_X9_plan_27 x1 x2 post  σ2))) σ1))) σ
set_option maxHeartbeats 4000000 in
set_option maxRecDepth 100000 in
theorem wk_X9_plan_0 {p : Program} {l : Launch} {e : Env} {s : State} {m : MethodId} {below : List Frame} {meth : Method} {c : Code} {D : va_G} {q : ClassId × ClassId × ClassId × ClassId} {ad : Nat → Nat → Nat} {args : Array Value} (S : CallFix p m c cX9_plan 8 s args GW "OnChinModel") (V : EvM D q ad s) (hr : meth.sig.returnType = (some .int)) (hlocks : meth.locks = false) (x1 : Int32) (x2 : Int32) (post : Int32 → St → Prop)  : ∀ (σ : St) (H : Heap) (locs : List Loc) (ls : Array Slot), wp_X9_plan x1 x2 post  σ → wo D clA LM ad s.heap H locs (EM q ad σ) → lv_has ls 8 [(0, .ref (ad 0 0)), (1, .int x1), (2, .int x2)] → W p l e { frames := 5, cells := 0, slots := 0, locals := 123 } s m args below meth c H locs 0 0 (MQ below (zQi D clA LM ad (EM q ad) post) args s 0 0 (zA LM ad)) (F0 m 0 ls []) := by
  have hx := S.1
  have hb := S.2.1
  intro  σ H locs ls h  hw hl
  have h : wp_X9_in (Int32.toInt64 x1) 1 5 (fun r1 σ1 => ((r1 = 0 → wp_X9_plan_27 x1 x2 post  σ1) ∧ (¬ r1 = 0 → wp_X9_in (Int32.toInt64 x2) (-1) (Int32.toInt64 (x1 - 1)) (fun r2 σ2 => ((¬ r2 = 0 → wp_X9_layHolds (fun σ3 => ∃ nn, wp_X9_plan_39 x1 x2 post nn 1 0 σ3) σ2) ∧ (r2 = 0 → wp_X9_plan_27 x1 x2 post  σ2))) σ1))) σ := h
  refine lv_iload_n hx hb dX9_plan_0 rfl (lv_at hl 1 rfl) ?_
  refine lv_i2l (v := (Int32.toInt64 x1)) hx hb dX9_plan_1 rfl ?_
  refine lv_lconst (v := 1) hx hb dX9_plan_2 (by decide) ?_
  refine lv_ldc2 (v := 5) hx hb S.2.2.2.1 (gw_S S _ kc_X9_291) dX9_plan_3 ?_
  refine call_Si (As := [.long (Int32.toInt64 x1), .long 1, .long 5]) (rest := []) EvM_ok S V hw (mt_X9_in l D q ad (Int32.toInt64 x1) 1 5  σ _ h) ok_X9_in ml_X9_92 ⟨(Nat.le_of_ble_eq_true rfl), (Nat.le_of_ble_eq_true rfl)⟩ ⟨rfl, rfl⟩ rfl hl.1 rfl (Nat.le_of_ble_eq_true rfl) dX9_plan_6 (fun r1 σ1 H locs h hw => ?_)
  refine lv_if_eq (tgt := 27) hx hb dX9_plan_9 (by decide) (fun hc => ?_) (fun hc => ?_)
  · have h := h.1 hc
    exact wk_X9_plan_27 S V hr hlocks x1 x2   post   _ _ _ _ h  hw (lv_sub hl [0, 1, 2] rfl)
  · have h := h.2 hc
    refine lv_iload_n hx hb dX9_plan_12 rfl (lv_at hl 2 rfl) ?_
    refine lv_i2l (v := (Int32.toInt64 x2)) hx hb dX9_plan_13 rfl ?_
    refine lv_ldc2 (v := (-1)) hx hb S.2.2.2.1 (gw_S S _ kc_X9_313) dX9_plan_14 ?_
    refine lv_iload_n hx hb dX9_plan_17 rfl (lv_at hl 1 rfl) ?_
    refine lv_iconst (v := 1) hx hb dX9_plan_18 (by decide) ?_
    refine lv_isub hx hb dX9_plan_19 ?_
    refine lv_i2l (v := (Int32.toInt64 (x1 - 1))) hx hb dX9_plan_20 rfl ?_
    refine call_Si (As := [.long (Int32.toInt64 x2), .long (-1), .long (Int32.toInt64 (x1 - 1))]) (rest := []) EvM_ok S V hw (mt_X9_in l D q ad (Int32.toInt64 x2) (-1) (Int32.toInt64 (x1 - 1))  σ1 _ h) ok_X9_in ml_X9_92 ⟨(Nat.le_of_ble_eq_true rfl), (Nat.le_of_ble_eq_true rfl)⟩ ⟨rfl, rfl⟩ rfl hl.1 rfl (Nat.le_of_ble_eq_true rfl) dX9_plan_21 (fun r2 σ2 H locs h hw => ?_)
    refine lv_if_ne (tgt := 30) hx hb dX9_plan_24 (by decide) (fun hc => ?_) (fun hc => ?_)
    · have h := h.1 hc
      refine lv_aload_n hx hb dX9_plan_30 rfl (lv_at hl 0 rfl) ?_
      refine call_Vv (As := []) (rest := []) EvM_ok S V hw (mt_X9_layHolds l D q ad   σ2 _ h) ok_X9_layHolds ml_X9_315 (rM_0 S V hw (Nat.le_of_ble_eq_true rfl)) ⟨(Nat.le_of_ble_eq_true rfl), (Nat.le_of_ble_eq_true rfl)⟩ ⟨rfl, rfl⟩ rfl hl.1 rfl (Nat.le_of_ble_eq_true rfl) dX9_plan_31 (fun σ3 H locs h hw => ?_)
      refine lv_iconst (v := 1) hx hb dX9_plan_34 (by decide) ?_
      refine lv_istore_n (lv' := [(3, .int 1), (0, .ref (ad 0 0)), (1, .int x1), (2, .int x2)]) hx hb dX9_plan_35 rfl hl (by decide) rfl (fun ls hl => ?_)
      refine lv_iconst (v := 0) hx hb dX9_plan_36 (by decide) ?_
      refine lv_istore (lv' := [(4, .int 0), (3, .int 1), (0, .ref (ad 0 0)), (1, .int x1), (2, .int x2)]) hx hb dX9_plan_37 hl (by decide) rfl (fun ls hl => ?_)
      obtain ⟨n9, h⟩ := h
      exact wk_X9_plan_39 S V hr hlocks x1 x2   post  n9 1 0 _ _ _ _ h  hw (lv_sub hl [2, 3, 4, 1, 0] rfl)
    · have h := h.2 hc
      exact wk_X9_plan_27 S V hr hlocks x1 x2   post   _ _ _ _ h  hw (lv_sub hl [0, 1, 2] rfl)
theorem mt_X9_plan (l : Launch) (D : va_G) (q : ClassId × ClassId × ClassId × ClassId) (ad : Nat → Nat → Nat) (x1 : Int32) (x2 : Int32) (σ : St) (post : Int32 → St → Prop) (h : wp_X9_plan x1 x2 post σ) : cI l D clA LM ad (EM q ad) (EvM D q ad) yX9_plan cX9_plan 8 (some .int) { frames := 5, cells := 0, slots := 0, locals := 123 } [.ref (ad 0 0), .int x1, .int x2] σ post :=
  ent_i (by decide) (Nat.le_of_ble_eq_true rfl) (fun p e s m below meth c S V hr hlocks hw ls hl => wk_X9_plan_0 S V hr hlocks x1 x2  post   σ _ _ ls h  hw (lv_sub hl [0, 1, 2] rfl))
def wp_X9_isCell (x0 : Int32) (post : Int32 → St → Prop)  (σ : St) : Prop := wp_X9_in (Int32.toInt64 x0) 0 35 (fun r1 σ1 => (narrow .boolean (.int r1) = .int r1 ∧ post r1 σ1)) σ
set_option maxHeartbeats 4000000 in
set_option maxRecDepth 100000 in
theorem wk_X9_isCell_0 {p : Program} {l : Launch} {e : Env} {s : State} {m : MethodId} {below : List Frame} {meth : Method} {c : Code} {D : va_G} {q : ClassId × ClassId × ClassId × ClassId} {ad : Nat → Nat → Nat} {args : Array Value} (S : CallFix p m c cX9_isCell 1 s args GW "OnChinModel") (V : EvM D q ad s) (hr : meth.sig.returnType = (some .boolean)) (hlocks : meth.locks = false) (x0 : Int32) (post : Int32 → St → Prop)  : ∀ (σ : St) (H : Heap) (locs : List Loc) (ls : Array Slot), wp_X9_isCell x0 post  σ → wo D clA LM ad s.heap H locs (EM q ad σ) → lv_has ls 1 [(0, .int x0)] → W p l e { frames := 1, cells := 0, slots := 0, locals := 25 } s m args below meth c H locs 0 0 (MQ below (zQi D clA LM ad (EM q ad) post) args s 0 0 (zA LM ad)) (F0 m 0 ls []) := by
  have hx := S.1
  have hb := S.2.1
  intro  σ H locs ls h  hw hl
  have h : wp_X9_in (Int32.toInt64 x0) 0 35 (fun r1 σ1 => (narrow .boolean (.int r1) = .int r1 ∧ post r1 σ1)) σ := h
  refine lv_iload_n hx hb dX9_isCell_0 rfl (lv_at hl 0 rfl) ?_
  refine lv_i2l (v := (Int32.toInt64 x0)) hx hb dX9_isCell_1 rfl ?_
  refine lv_lconst (v := 0) hx hb dX9_isCell_2 (by decide) ?_
  refine lv_ldc2 (v := 35) hx hb S.2.2.2.1 (gw_S S _ kc_X9_321) dX9_isCell_3 ?_
  refine call_Si (As := [.long (Int32.toInt64 x0), .long 0, .long 35]) (rest := []) EvM_ok S V hw (mt_X9_in l D q ad (Int32.toInt64 x0) 0 35  σ _ h) ok_X9_in ml_X9_92 ⟨(Nat.le_of_ble_eq_true rfl), (Nat.le_of_ble_eq_true rfl)⟩ ⟨rfl, rfl⟩ rfl hl.1 rfl (Nat.le_of_ble_eq_true rfl) dX9_isCell_6 (fun r1 σ1 H locs h hw => ?_)
  exact ret_z S hr hlocks hw h.1 h.2 dX9_isCell_9
theorem mt_X9_isCell (l : Launch) (D : va_G) (q : ClassId × ClassId × ClassId × ClassId) (ad : Nat → Nat → Nat) (x0 : Int32) (σ : St) (post : Int32 → St → Prop) (h : wp_X9_isCell x0 post σ) : cI l D clA LM ad (EM q ad) (EvM D q ad) yX9_isCell cX9_isCell 1 (some .boolean) { frames := 1, cells := 0, slots := 0, locals := 25 } [.int x0] σ post :=
  ent_i (by decide) (Nat.le_of_ble_eq_true rfl) (fun p e s m below meth c S V hr hlocks hw ls hl => wk_X9_isCell_0 S V hr hlocks x0  post   σ _ _ ls h  hw (lv_sub hl [0] rfl))
def wp_X9_room_34 (x1 : Int32) (x2 : Int32) (x3 : Int32) (post : Int32 → St → Prop)  (σ : St) : Prop := post (-3) σ
set_option maxHeartbeats 4000000 in
set_option maxRecDepth 100000 in
theorem wk_X9_room_34 {p : Program} {l : Launch} {e : Env} {s : State} {m : MethodId} {below : List Frame} {meth : Method} {c : Code} {D : va_G} {q : ClassId × ClassId × ClassId × ClassId} {ad : Nat → Nat → Nat} {args : Array Value} (S : CallFix p m c cX9_room 5 s args GW "OnChinModel") (V : EvM D q ad s) (hr : meth.sig.returnType = (some .int)) (hlocks : meth.locks = false) (x1 : Int32) (x2 : Int32) (x3 : Int32) (post : Int32 → St → Prop)  : ∀ (σ : St) (H : Heap) (locs : List Loc) (ls : Array Slot), wp_X9_room_34 x1 x2 x3 post  σ → wo D clA LM ad s.heap H locs (EM q ad σ) → lv_has ls 5 [(0, .ref (ad 0 0)), (1, .int x1), (2, .int x2), (3, .int x3)] → W p l e { frames := 2, cells := 0, slots := 0, locals := 45 } s m args below meth c H locs 0 0 (MQ below (zQi D clA LM ad (EM q ad) post) args s 0 0 (zA LM ad)) (F0 m 34 ls []) := by
  have hx := S.1
  have hb := S.2.1
  intro  σ H locs ls h  hw hl
  refine lv_bipush (v := (-3)) hx hb dX9_room_34 (by decide) ?_
  exact ret_i S hr hlocks hw h dX9_room_36
def wp_X9_room (x1 : Int32) (x2 : Int32) (x3 : Int32) (post : Int32 → St → Prop)  (σ : St) : Prop := wp_X9_isCell x1 (fun r1 σ1 => ((¬ r1 = 0 → wp_X9_in (Int32.toInt64 x2) 0 99 (fun r2 σ2 => ((r2 = 0 → wp_X9_room_34 x1 x2 x3 post  σ2) ∧ (¬ r2 = 0 → wp_X9_in (Int32.toInt64 x3) 0 300 (fun r3 σ3 => ((¬ r3 = 0 → (vp_in x1 36 ∧ (vp_in x1 36 ∧ (vp_in x1 36 ∧ post (σ3 17 0 x1.toNatClampNeg) (su (su σ3 17 0 x1.toNatClampNeg x2) 18 0 x1.toNatClampNeg x3))))) ∧ (r3 = 0 → wp_X9_room_34 x1 x2 x3 post  σ3))) σ2))) σ1) ∧ (r1 = 0 → post (-2) σ1))) σ
set_option maxHeartbeats 4000000 in
set_option maxRecDepth 100000 in
theorem wk_X9_room_0 {p : Program} {l : Launch} {e : Env} {s : State} {m : MethodId} {below : List Frame} {meth : Method} {c : Code} {D : va_G} {q : ClassId × ClassId × ClassId × ClassId} {ad : Nat → Nat → Nat} {args : Array Value} (S : CallFix p m c cX9_room 5 s args GW "OnChinModel") (V : EvM D q ad s) (hr : meth.sig.returnType = (some .int)) (hlocks : meth.locks = false) (x1 : Int32) (x2 : Int32) (x3 : Int32) (post : Int32 → St → Prop)  : ∀ (σ : St) (H : Heap) (locs : List Loc) (ls : Array Slot), wp_X9_room x1 x2 x3 post  σ → wo D clA LM ad s.heap H locs (EM q ad σ) → lv_has ls 5 [(0, .ref (ad 0 0)), (1, .int x1), (2, .int x2), (3, .int x3)] → W p l e { frames := 2, cells := 0, slots := 0, locals := 45 } s m args below meth c H locs 0 0 (MQ below (zQi D clA LM ad (EM q ad) post) args s 0 0 (zA LM ad)) (F0 m 0 ls []) := by
  have hx := S.1
  have hb := S.2.1
  intro  σ H locs ls h  hw hl
  have h : wp_X9_isCell x1 (fun r1 σ1 => ((¬ r1 = 0 → wp_X9_in (Int32.toInt64 x2) 0 99 (fun r2 σ2 => ((r2 = 0 → wp_X9_room_34 x1 x2 x3 post  σ2) ∧ (¬ r2 = 0 → wp_X9_in (Int32.toInt64 x3) 0 300 (fun r3 σ3 => ((¬ r3 = 0 → (vp_in x1 36 ∧ (vp_in x1 36 ∧ (vp_in x1 36 ∧ post (σ3 17 0 x1.toNatClampNeg) (su (su σ3 17 0 x1.toNatClampNeg x2) 18 0 x1.toNatClampNeg x3))))) ∧ (r3 = 0 → wp_X9_room_34 x1 x2 x3 post  σ3))) σ2))) σ1) ∧ (r1 = 0 → post (-2) σ1))) σ := h
  refine lv_iload_n hx hb dX9_room_0 rfl (lv_at hl 1 rfl) ?_
  refine call_Si (As := [.int x1]) (rest := []) EvM_ok S V hw (mt_X9_isCell l D q ad x1  σ _ h) ok_X9_isCell ml_X9_323 ⟨(Nat.le_of_ble_eq_true rfl), (Nat.le_of_ble_eq_true rfl)⟩ ⟨rfl, rfl⟩ rfl hl.1 rfl (Nat.le_of_ble_eq_true rfl) dX9_room_1 (fun r1 σ1 H locs h hw => ?_)
  refine lv_if_ne (tgt := 10) hx hb dX9_room_4 (by decide) (fun hc => ?_) (fun hc => ?_)
  · have h := h.1 hc
    refine lv_iload_n hx hb dX9_room_10 rfl (lv_at hl 2 rfl) ?_
    refine lv_i2l (v := (Int32.toInt64 x2)) hx hb dX9_room_11 rfl ?_
    refine lv_lconst (v := 0) hx hb dX9_room_12 (by decide) ?_
    refine lv_ldc2 (v := 99) hx hb S.2.2.2.1 (gw_S S _ kc_X9_241) dX9_room_13 ?_
    refine call_Si (As := [.long (Int32.toInt64 x2), .long 0, .long 99]) (rest := []) EvM_ok S V hw (mt_X9_in l D q ad (Int32.toInt64 x2) 0 99  σ1 _ h) ok_X9_in ml_X9_92 ⟨(Nat.le_of_ble_eq_true rfl), (Nat.le_of_ble_eq_true rfl)⟩ ⟨rfl, rfl⟩ rfl hl.1 rfl (Nat.le_of_ble_eq_true rfl) dX9_room_16 (fun r2 σ2 H locs h hw => ?_)
    refine lv_if_eq (tgt := 34) hx hb dX9_room_19 (by decide) (fun hc => ?_) (fun hc => ?_)
    · have h := h.1 hc
      exact wk_X9_room_34 S V hr hlocks x1 x2 x3   post   _ _ _ _ h  hw (lv_sub hl [0, 1, 2, 3] rfl)
    · have h := h.2 hc
      refine lv_iload_n hx hb dX9_room_22 rfl (lv_at hl 3 rfl) ?_
      refine lv_i2l (v := (Int32.toInt64 x3)) hx hb dX9_room_23 rfl ?_
      refine lv_lconst (v := 0) hx hb dX9_room_24 (by decide) ?_
      refine lv_ldc2 (v := 300) hx hb S.2.2.2.1 (gw_S S _ kc_X9_326) dX9_room_25 ?_
      refine call_Si (As := [.long (Int32.toInt64 x3), .long 0, .long 300]) (rest := []) EvM_ok S V hw (mt_X9_in l D q ad (Int32.toInt64 x3) 0 300  σ2 _ h) ok_X9_in ml_X9_92 ⟨(Nat.le_of_ble_eq_true rfl), (Nat.le_of_ble_eq_true rfl)⟩ ⟨rfl, rfl⟩ rfl hl.1 rfl (Nat.le_of_ble_eq_true rfl) dX9_room_28 (fun r3 σ3 H locs h hw => ?_)
      refine lv_if_ne (tgt := 37) hx hb dX9_room_31 (by decide) (fun hc => ?_) (fun hc => ?_)
      · have h := h.1 hc
        refine lv_aload_n hx hb dX9_room_37 rfl (lv_at hl 0 rfl) ?_
        refine gM_0_39 S V hw (Nat.le_of_ble_eq_true rfl) fl_X9_81 dX9_room_38 ?_
        refine lv_iload_n hx hb dX9_room_41 rfl (lv_at hl 1 rfl) ?_
        refine aM_17 S V hw (Nat.le_of_ble_eq_true rfl) h.1 (z := (σ3 17 0 x1.toNatClampNeg)) rfl dX9_room_42 ?_
        have h := h.2
        refine lv_istore (lv' := [(4, .int (σ3 17 0 x1.toNatClampNeg)), (0, .ref (ad 0 0)), (1, .int x1), (2, .int x2), (3, .int x3)]) hx hb dX9_room_43 hl (by decide) rfl (fun ls hl => ?_)
        refine lv_aload_n hx hb dX9_room_45 rfl (lv_at hl 1 rfl) ?_
        refine gM_0_39 S V hw (Nat.le_of_ble_eq_true rfl) fl_X9_81 dX9_room_46 ?_
        refine lv_iload_n hx hb dX9_room_49 rfl (lv_at hl 2 rfl) ?_
        refine lv_iload_n hx hb dX9_room_50 rfl (lv_at hl 3 rfl) ?_
        refine sM_17 S V hw (Nat.le_of_ble_eq_true rfl) h.1 dX9_room_51 (fun H locs hw => ?_)
        have h := h.2
        refine lv_aload_n hx hb dX9_room_52 rfl (lv_at hl 1 rfl) ?_
        refine gM_0_40 S V hw (Nat.le_of_ble_eq_true rfl) fl_X9_84 dX9_room_53 ?_
        refine lv_iload_n hx hb dX9_room_56 rfl (lv_at hl 2 rfl) ?_
        refine lv_iload_n hx hb dX9_room_57 rfl (lv_at hl 4 rfl) ?_
        refine sM_18 S V hw (Nat.le_of_ble_eq_true rfl) h.1 dX9_room_58 (fun H locs hw => ?_)
        have h := h.2
        refine lv_iload hx hb dX9_room_59 (lv_at hl 0 rfl) ?_
        exact ret_i S hr hlocks hw h dX9_room_61
      · have h := h.2 hc
        exact wk_X9_room_34 S V hr hlocks x1 x2 x3   post   _ _ _ _ h  hw (lv_sub hl [0, 1, 2, 3] rfl)
  · have h := h.2 hc
    refine lv_bipush (v := (-2)) hx hb dX9_room_7 (by decide) ?_
    exact ret_i S hr hlocks hw h dX9_room_9
theorem mt_X9_room (l : Launch) (D : va_G) (q : ClassId × ClassId × ClassId × ClassId) (ad : Nat → Nat → Nat) (x1 : Int32) (x2 : Int32) (x3 : Int32) (σ : St) (post : Int32 → St → Prop) (h : wp_X9_room x1 x2 x3 post σ) : cI l D clA LM ad (EM q ad) (EvM D q ad) yX9_room cX9_room 5 (some .int) { frames := 2, cells := 0, slots := 0, locals := 45 } [.ref (ad 0 0), .int x1, .int x2, .int x3] σ post :=
  ent_i (by decide) (Nat.le_of_ble_eq_true rfl) (fun p e s m below meth c S V hr hlocks hw ls hl => wk_X9_room_0 S V hr hlocks x1 x2 x3  post   σ _ _ ls h  hw (lv_sub hl [0, 1, 2, 3] rfl))
def wp_X9_areBeside_36 (x0 : Int32) (x1 : Int32) (post : Int32 → St → Prop) (xs0 : Int32) (σ : St) : Prop := (narrow .boolean (.int xs0) = .int xs0 ∧ post xs0 σ)
set_option maxHeartbeats 4000000 in
set_option maxRecDepth 100000 in
theorem wk_X9_areBeside_36 {p : Program} {l : Launch} {e : Env} {s : State} {m : MethodId} {below : List Frame} {meth : Method} {c : Code} {D : va_G} {q : ClassId × ClassId × ClassId × ClassId} {ad : Nat → Nat → Nat} {args : Array Value} (S : CallFix p m c cX9_areBeside 4 s args GW "OnChinModel") (V : EvM D q ad s) (hr : meth.sig.returnType = (some .boolean)) (hlocks : meth.locks = false) (x0 : Int32) (x1 : Int32) (post : Int32 → St → Prop)  : ∀ (xs0 : Int32) (σ : St) (H : Heap) (locs : List Loc) (ls : Array Slot), wp_X9_areBeside_36 x0 x1 post xs0 σ → wo D clA LM ad s.heap H locs (EM q ad σ) → lv_has ls 4 [(0, .int x0), (1, .int x1)] → W p l e { frames := 0, cells := 0, slots := 0, locals := 0 } s m args below meth c H locs 0 0 (MQ below (zQi D clA LM ad (EM q ad) post) args s 0 0 (zA LM ad)) (F0 m 36 ls [.int xs0]) := by
  have hx := S.1
  have hb := S.2.1
  intro xs0 σ H locs ls h  hw hl
  exact ret_z S hr hlocks hw h.1 h.2 dX9_areBeside_36
def wp_X9_areBeside (x0 : Int32) (x1 : Int32) (post : Int32 → St → Prop)  (σ : St) : Prop := ((¬ ((((x0 - x0 / 6 * 6) - (x1 - x1 / 6 * 6)) * ((x0 - x0 / 6 * 6) - (x1 - x1 / 6 * 6))) + (((x0 / 6) - (x1 / 6)) * ((x0 / 6) - (x1 / 6)))) = 1 → wp_X9_areBeside_36 x0 x1 post 0 σ) ∧ (((((x0 - x0 / 6 * 6) - (x1 - x1 / 6 * 6)) * ((x0 - x0 / 6 * 6) - (x1 - x1 / 6 * 6))) + (((x0 / 6) - (x1 / 6)) * ((x0 / 6) - (x1 / 6)))) = 1 → wp_X9_areBeside_36 x0 x1 post 1 σ))
set_option maxHeartbeats 4000000 in
set_option maxRecDepth 100000 in
theorem wk_X9_areBeside_0 {p : Program} {l : Launch} {e : Env} {s : State} {m : MethodId} {below : List Frame} {meth : Method} {c : Code} {D : va_G} {q : ClassId × ClassId × ClassId × ClassId} {ad : Nat → Nat → Nat} {args : Array Value} (S : CallFix p m c cX9_areBeside 4 s args GW "OnChinModel") (V : EvM D q ad s) (hr : meth.sig.returnType = (some .boolean)) (hlocks : meth.locks = false) (x0 : Int32) (x1 : Int32) (post : Int32 → St → Prop)  : ∀ (σ : St) (H : Heap) (locs : List Loc) (ls : Array Slot), wp_X9_areBeside x0 x1 post  σ → wo D clA LM ad s.heap H locs (EM q ad σ) → lv_has ls 4 [(0, .int x0), (1, .int x1)] → W p l e { frames := 0, cells := 0, slots := 0, locals := 0 } s m args below meth c H locs 0 0 (MQ below (zQi D clA LM ad (EM q ad) post) args s 0 0 (zA LM ad)) (F0 m 0 ls []) := by
  have hx := S.1
  have hb := S.2.1
  intro  σ H locs ls h  hw hl
  refine lv_iload_n hx hb dX9_areBeside_0 rfl (lv_at hl 0 rfl) ?_
  refine lv_bipush (v := 6) hx hb dX9_areBeside_1 (by decide) ?_
  refine lv_irem hx hb dX9_areBeside_3 (by decide) ?_
  refine lv_iload_n hx hb dX9_areBeside_4 rfl (lv_at hl 1 rfl) ?_
  refine lv_bipush (v := 6) hx hb dX9_areBeside_5 (by decide) ?_
  refine lv_irem hx hb dX9_areBeside_7 (by decide) ?_
  refine lv_isub hx hb dX9_areBeside_8 ?_
  refine lv_istore_n (lv' := [(2, .int ((x0 - x0 / 6 * 6) - (x1 - x1 / 6 * 6))), (0, .int x0), (1, .int x1)]) hx hb dX9_areBeside_9 rfl hl (by decide) rfl (fun ls hl => ?_)
  refine lv_iload_n hx hb dX9_areBeside_10 rfl (lv_at hl 1 rfl) ?_
  refine lv_bipush (v := 6) hx hb dX9_areBeside_11 (by decide) ?_
  refine lv_idiv hx hb dX9_areBeside_13 (by decide) ?_
  refine lv_iload_n hx hb dX9_areBeside_14 rfl (lv_at hl 2 rfl) ?_
  refine lv_bipush (v := 6) hx hb dX9_areBeside_15 (by decide) ?_
  refine lv_idiv hx hb dX9_areBeside_17 (by decide) ?_
  refine lv_isub hx hb dX9_areBeside_18 ?_
  refine lv_istore_n (lv' := [(3, .int ((x0 / 6) - (x1 / 6))), (2, .int ((x0 - x0 / 6 * 6) - (x1 - x1 / 6 * 6))), (0, .int x0), (1, .int x1)]) hx hb dX9_areBeside_19 rfl hl (by decide) rfl (fun ls hl => ?_)
  refine lv_iload_n hx hb dX9_areBeside_20 rfl (lv_at hl 1 rfl) ?_
  refine lv_iload_n hx hb dX9_areBeside_21 rfl (lv_at hl 1 rfl) ?_
  refine lv_imul hx hb dX9_areBeside_22 ?_
  refine lv_iload_n hx hb dX9_areBeside_23 rfl (lv_at hl 0 rfl) ?_
  refine lv_iload_n hx hb dX9_areBeside_24 rfl (lv_at hl 0 rfl) ?_
  refine lv_imul hx hb dX9_areBeside_25 ?_
  refine lv_iadd hx hb dX9_areBeside_26 ?_
  refine lv_iconst (v := 1) hx hb dX9_areBeside_27 (by decide) ?_
  refine lv_icmp_ne (tgt := 35) hx hb dX9_areBeside_28 (by decide) (fun hc => ?_) (fun hc => ?_)
  · have h := h.1 hc
    refine lv_iconst (v := 0) hx hb dX9_areBeside_35 (by decide) ?_
    exact wk_X9_areBeside_36 S V hr hlocks x0 x1   post  0 _ _ _ _ h  hw (lv_sub hl [2, 3] rfl)
  · have h := h.2 hc
    refine lv_iconst (v := 1) hx hb dX9_areBeside_31 (by decide) ?_
    refine lv_goto (tgt := 36) hx hb dX9_areBeside_32 (by decide) ?_
    exact wk_X9_areBeside_36 S V hr hlocks x0 x1   post  1 _ _ _ _ h  hw (lv_sub hl [2, 3] rfl)
theorem mt_X9_areBeside (l : Launch) (D : va_G) (q : ClassId × ClassId × ClassId × ClassId) (ad : Nat → Nat → Nat) (x0 : Int32) (x1 : Int32) (σ : St) (post : Int32 → St → Prop) (h : wp_X9_areBeside x0 x1 post σ) : cI l D clA LM ad (EM q ad) (EvM D q ad) yX9_areBeside cX9_areBeside 4 (some .boolean) { frames := 0, cells := 0, slots := 0, locals := 0 } [.int x0, .int x1] σ post :=
  ent_i (by decide) (Nat.le_of_ble_eq_true rfl) (fun p e s m below meth c S V hr hlocks hw ls hl => wk_X9_areBeside_0 S V hr hlocks x0 x1  post   σ _ _ ls h  hw (lv_sub hl [0, 1] rfl))
def wp_X9_way_21 (x1 : Int32) (x2 : Int32) (x3 : Int32) (x4 : Int32) (x5 : Int32) (post : Int32 → St → Prop)  (σ : St) : Prop := post (-2) σ
set_option maxHeartbeats 4000000 in
set_option maxRecDepth 100000 in
theorem wk_X9_way_21 {p : Program} {l : Launch} {e : Env} {s : State} {m : MethodId} {below : List Frame} {meth : Method} {c : Code} {D : va_G} {q : ClassId × ClassId × ClassId × ClassId} {ad : Nat → Nat → Nat} {args : Array Value} (S : CallFix p m c cX9_way 13 s args GW "OnChinModel") (V : EvM D q ad s) (hr : meth.sig.returnType = (some .int)) (hlocks : meth.locks = false) (x1 : Int32) (x2 : Int32) (x3 : Int32) (x4 : Int32) (x5 : Int32) (post : Int32 → St → Prop)  : ∀ (σ : St) (H : Heap) (locs : List Loc) (ls : Array Slot), wp_X9_way_21 x1 x2 x3 x4 x5 post  σ → wo D clA LM ad s.heap H locs (EM q ad σ) → lv_has ls 13 [(0, .ref (ad 0 0)), (1, .int x1), (2, .int x2), (3, .int x3), (4, .int x4), (5, .int x5)] → W p l e { frames := 2, cells := 0, slots := 0, locals := 45 } s m args below meth c H locs 0 0 (MQ below (zQi D clA LM ad (EM q ad) post) args s 0 0 (zA LM ad)) (F0 m 21 ls []) := by
  have hx := S.1
  have hb := S.2.1
  intro  σ H locs ls h  hw hl
  refine lv_bipush (v := (-2)) hx hb dX9_way_21 (by decide) ?_
  exact ret_i S hr hlocks hw h dX9_way_23
def wp_X9_way_48 (x1 : Int32) (x2 : Int32) (x3 : Int32) (x4 : Int32) (x5 : Int32) (post : Int32 → St → Prop)  (σ : St) : Prop := post (-3) σ
set_option maxHeartbeats 4000000 in
set_option maxRecDepth 100000 in
theorem wk_X9_way_48 {p : Program} {l : Launch} {e : Env} {s : State} {m : MethodId} {below : List Frame} {meth : Method} {c : Code} {D : va_G} {q : ClassId × ClassId × ClassId × ClassId} {ad : Nat → Nat → Nat} {args : Array Value} (S : CallFix p m c cX9_way 13 s args GW "OnChinModel") (V : EvM D q ad s) (hr : meth.sig.returnType = (some .int)) (hlocks : meth.locks = false) (x1 : Int32) (x2 : Int32) (x3 : Int32) (x4 : Int32) (x5 : Int32) (post : Int32 → St → Prop)  : ∀ (σ : St) (H : Heap) (locs : List Loc) (ls : Array Slot), wp_X9_way_48 x1 x2 x3 x4 x5 post  σ → wo D clA LM ad s.heap H locs (EM q ad σ) → lv_has ls 13 [(0, .ref (ad 0 0)), (1, .int x1), (2, .int x2), (3, .int x3), (4, .int x4), (5, .int x5)] → W p l e { frames := 2, cells := 0, slots := 0, locals := 45 } s m args below meth c H locs 0 0 (MQ below (zQi D clA LM ad (EM q ad) post) args s 0 0 (zA LM ad)) (F0 m 48 ls []) := by
  have hx := S.1
  have hb := S.2.1
  intro  σ H locs ls h  hw hl
  refine lv_bipush (v := (-3)) hx hb dX9_way_48 (by decide) ?_
  exact ret_i S hr hlocks hw h dX9_way_50
def wp_X9_way_374 (x1 : Int32) (x2 : Int32) (x3 : Int32) (x4 : Int32) (x5 : Int32) (post : Int32 → St → Prop) (xs0 : Int32) (σ : St) : Prop := post xs0 σ
set_option maxHeartbeats 4000000 in
set_option maxRecDepth 100000 in
theorem wk_X9_way_374 {p : Program} {l : Launch} {e : Env} {s : State} {m : MethodId} {below : List Frame} {meth : Method} {c : Code} {D : va_G} {q : ClassId × ClassId × ClassId × ClassId} {ad : Nat → Nat → Nat} {args : Array Value} (S : CallFix p m c cX9_way 13 s args GW "OnChinModel") (V : EvM D q ad s) (hr : meth.sig.returnType = (some .int)) (hlocks : meth.locks = false) (x1 : Int32) (x2 : Int32) (x3 : Int32) (x4 : Int32) (x5 : Int32) (post : Int32 → St → Prop)  : ∀ (xs0 : Int32) (σ : St) (H : Heap) (locs : List Loc) (ls : Array Slot), wp_X9_way_374 x1 x2 x3 x4 x5 post xs0 σ → wo D clA LM ad s.heap H locs (EM q ad σ) → lv_has ls 13 [(0, .ref (ad 0 0)), (1, .int x1), (2, .int x2), (3, .int x3), (4, .int x4), (5, .int x5)] → W p l e { frames := 2, cells := 0, slots := 0, locals := 45 } s m args below meth c H locs 0 0 (MQ below (zQi D clA LM ad (EM q ad) post) args s 0 0 (zA LM ad)) (F0 m 374 ls [.int xs0]) := by
  have hx := S.1
  have hb := S.2.1
  intro xs0 σ H locs ls h  hw hl
  exact ret_i S hr hlocks hw h dX9_way_374
def wp_X9_way_321 (x1 : Int32) (x2 : Int32) (x3 : Int32) (x4 : Int32) (x5 : Int32) (K161 : Int32 → Int32 → St → Prop) (K172 : Int32 → Int32 → Int32 → St → Prop) (post : Int32 → St → Prop) (x6 : Int32) (x8 : Int32) (x9 : Int32) (σ : St) : Prop := K172 x6 x8 (x9 + 1) σ
set_option maxHeartbeats 4000000 in
set_option maxRecDepth 100000 in
theorem wk_X9_way_321 {p : Program} {l : Launch} {e : Env} {s : State} {m : MethodId} {below : List Frame} {meth : Method} {c : Code} {D : va_G} {q : ClassId × ClassId × ClassId × ClassId} {ad : Nat → Nat → Nat} {args : Array Value} (S : CallFix p m c cX9_way 13 s args GW "OnChinModel") (V : EvM D q ad s) (hr : meth.sig.returnType = (some .int)) (hlocks : meth.locks = false) (x1 : Int32) (x2 : Int32) (x3 : Int32) (x4 : Int32) (x5 : Int32) (K161 : Int32 → Int32 → St → Prop) (K172 : Int32 → Int32 → Int32 → St → Prop) (post : Int32 → St → Prop) (hK161 : ∀ (x6 : Int32) (x8 : Int32) (σ : St) (H : Heap) (locs : List Loc) (ls : Array Slot), K161 x6 x8 σ → wo D clA LM ad s.heap H locs (EM q ad σ) → lv_has ls 13 [(0, .ref (ad 0 0)), (1, .int x1), (2, .int x2), (3, .int x3), (4, .int x4), (5, .int x5), (6, .int x6), (8, .int x8)] → W p l e { frames := 2, cells := 0, slots := 0, locals := 45 } s m args below meth c H locs 0 0 (MQ below (zQi D clA LM ad (EM q ad) post) args s 0 0 (zA LM ad)) (F0 m 161 ls [])) (hK172 : ∀ (x6 : Int32) (x8 : Int32) (x9 : Int32) (σ : St) (H : Heap) (locs : List Loc) (ls : Array Slot), K172 x6 x8 x9 σ → wo D clA LM ad s.heap H locs (EM q ad σ) → lv_has ls 13 [(0, .ref (ad 0 0)), (1, .int x1), (2, .int x2), (3, .int x3), (4, .int x4), (5, .int x5), (6, .int x6), (8, .int x8), (9, .int x9)] → W p l e { frames := 2, cells := 0, slots := 0, locals := 45 } s m args below meth c H locs 0 0 (MQ below (zQi D clA LM ad (EM q ad) post) args s 0 0 (zA LM ad)) (F0 m 172 ls [])) : ∀ (x6 : Int32) (x8 : Int32) (x9 : Int32) (σ : St) (H : Heap) (locs : List Loc) (ls : Array Slot), wp_X9_way_321 x1 x2 x3 x4 x5 K161 K172 post x6 x8 x9 σ → wo D clA LM ad s.heap H locs (EM q ad σ) → lv_has ls 13 [(0, .ref (ad 0 0)), (1, .int x1), (2, .int x2), (3, .int x3), (4, .int x4), (5, .int x5), (6, .int x6), (8, .int x8), (9, .int x9)] → W p l e { frames := 2, cells := 0, slots := 0, locals := 45 } s m args below meth c H locs 0 0 (MQ below (zQi D clA LM ad (EM q ad) post) args s 0 0 (zA LM ad)) (F0 m 321 ls []) := by
  have hx := S.1
  have hb := S.2.1
  intro x6 x8 x9 σ H locs ls h  hw hl
  refine lv_iinc (v := (x9 + 1)) (lv' := [(9, .int (x9 + 1)), (0, .ref (ad 0 0)), (1, .int x1), (2, .int x2), (3, .int x3), (4, .int x4), (5, .int x5), (6, .int x6), (8, .int x8)]) hx hb dX9_way_321 hl (k := 8) rfl rfl (by decide) rfl (fun ls hl => ?_)
  refine lv_goto (tgt := 172) hx hb dX9_way_324 (by decide) ?_
  exact hK172 x6 x8 (x9 + 1) _ _ _ _ h  hw (lv_sub hl [1, 2, 3, 4, 5, 6, 7, 8, 0] rfl)
def wp_X9_way_256 (x1 : Int32) (x2 : Int32) (x3 : Int32) (x4 : Int32) (x5 : Int32) (K161 : Int32 → Int32 → St → Prop) (K172 : Int32 → Int32 → Int32 → St → Prop) (post : Int32 → St → Prop) (x6 : Int32) (x8 : Int32) (x9 : Int32) (x10 : Int32) (x11 : Int32) (xs0 : Int32) (σ : St) : Prop := ((xs0 = 0 → wp_X9_way_321 x1 x2 x3 x4 x5 K161 K172 post x6 x8 x9 σ) ∧ (¬ xs0 = 0 → (vp_in x10 36 ∧ (vp_in x11 36 ∧ (vp_in x11 36 ∧ (((σ 19 0 x11.toNatClampNeg) ≤ (((σ 19 0 x10.toNatClampNeg) + 10000) + (σ 17 0 x11.toNatClampNeg)) → wp_X9_way_321 x1 x2 x3 x4 x5 K161 K172 post x6 x8 x9 σ) ∧ (¬ (σ 19 0 x11.toNatClampNeg) ≤ (((σ 19 0 x10.toNatClampNeg) + 10000) + (σ 17 0 x11.toNatClampNeg)) → (vp_in x10 36 ∧ (vp_in x11 36 ∧ (vp_in x11 36 ∧ wp_X9_way_321 x1 x2 x3 x4 x5 K161 K172 post x6 1 x9 (su σ 19 0 x11.toNatClampNeg (((σ 19 0 x10.toNatClampNeg) + 10000) + (σ 17 0 x11.toNatClampNeg)))))))))))))
set_option maxHeartbeats 4000000 in
set_option maxRecDepth 100000 in
theorem wk_X9_way_256 {p : Program} {l : Launch} {e : Env} {s : State} {m : MethodId} {below : List Frame} {meth : Method} {c : Code} {D : va_G} {q : ClassId × ClassId × ClassId × ClassId} {ad : Nat → Nat → Nat} {args : Array Value} (S : CallFix p m c cX9_way 13 s args GW "OnChinModel") (V : EvM D q ad s) (hr : meth.sig.returnType = (some .int)) (hlocks : meth.locks = false) (x1 : Int32) (x2 : Int32) (x3 : Int32) (x4 : Int32) (x5 : Int32) (K161 : Int32 → Int32 → St → Prop) (K172 : Int32 → Int32 → Int32 → St → Prop) (post : Int32 → St → Prop) (hK161 : ∀ (x6 : Int32) (x8 : Int32) (σ : St) (H : Heap) (locs : List Loc) (ls : Array Slot), K161 x6 x8 σ → wo D clA LM ad s.heap H locs (EM q ad σ) → lv_has ls 13 [(0, .ref (ad 0 0)), (1, .int x1), (2, .int x2), (3, .int x3), (4, .int x4), (5, .int x5), (6, .int x6), (8, .int x8)] → W p l e { frames := 2, cells := 0, slots := 0, locals := 45 } s m args below meth c H locs 0 0 (MQ below (zQi D clA LM ad (EM q ad) post) args s 0 0 (zA LM ad)) (F0 m 161 ls [])) (hK172 : ∀ (x6 : Int32) (x8 : Int32) (x9 : Int32) (σ : St) (H : Heap) (locs : List Loc) (ls : Array Slot), K172 x6 x8 x9 σ → wo D clA LM ad s.heap H locs (EM q ad σ) → lv_has ls 13 [(0, .ref (ad 0 0)), (1, .int x1), (2, .int x2), (3, .int x3), (4, .int x4), (5, .int x5), (6, .int x6), (8, .int x8), (9, .int x9)] → W p l e { frames := 2, cells := 0, slots := 0, locals := 45 } s m args below meth c H locs 0 0 (MQ below (zQi D clA LM ad (EM q ad) post) args s 0 0 (zA LM ad)) (F0 m 172 ls [])) : ∀ (x6 : Int32) (x8 : Int32) (x9 : Int32) (x10 : Int32) (x11 : Int32) (xs0 : Int32) (σ : St) (H : Heap) (locs : List Loc) (ls : Array Slot), wp_X9_way_256 x1 x2 x3 x4 x5 K161 K172 post x6 x8 x9 x10 x11 xs0 σ → wo D clA LM ad s.heap H locs (EM q ad σ) → lv_has ls 13 [(0, .ref (ad 0 0)), (1, .int x1), (2, .int x2), (3, .int x3), (4, .int x4), (5, .int x5), (6, .int x6), (8, .int x8), (9, .int x9), (10, .int x10), (11, .int x11)] → W p l e { frames := 2, cells := 0, slots := 0, locals := 45 } s m args below meth c H locs 0 0 (MQ below (zQi D clA LM ad (EM q ad) post) args s 0 0 (zA LM ad)) (F0 m 256 ls [.int xs0]) := by
  have hx := S.1
  have hb := S.2.1
  intro x6 x8 x9 x10 x11 xs0 σ H locs ls h  hw hl
  refine lv_istore (lv' := [(12, .int xs0), (0, .ref (ad 0 0)), (1, .int x1), (2, .int x2), (3, .int x3), (4, .int x4), (5, .int x5), (6, .int x6), (8, .int x8), (9, .int x9), (10, .int x10), (11, .int x11)]) hx hb dX9_way_256 hl (by decide) rfl (fun ls hl => ?_)
  refine lv_iload hx hb dX9_way_258 (lv_at hl 0 rfl) ?_
  refine lv_if_eq (tgt := 321) hx hb dX9_way_260 (by decide) (fun hc => ?_) (fun hc => ?_)
  · have h := h.1 hc
    exact wk_X9_way_321 S V hr hlocks x1 x2 x3 x4 x5  K161 K172 post hK161 hK172 x6 x8 x9 _ _ _ _ h  hw (lv_sub hl [1, 2, 3, 4, 5, 6, 7, 8, 9] rfl)
  · have h := h.2 hc
    refine lv_aload_n hx hb dX9_way_263 rfl (lv_at hl 1 rfl) ?_
    refine gM_0_41 S V hw (Nat.le_of_ble_eq_true rfl) fl_X9_87 dX9_way_264 ?_
    refine lv_iload hx hb dX9_way_267 (lv_at hl 10 rfl) ?_
    refine aM_19 S V hw (Nat.le_of_ble_eq_true rfl) h.1 (z := (σ 19 0 x10.toNatClampNeg)) rfl dX9_way_269 ?_
    have h := h.2
    refine lv_sipush (v := 10000) hx hb dX9_way_270 (by decide) ?_
    refine lv_iadd hx hb dX9_way_273 ?_
    refine lv_aload_n hx hb dX9_way_274 rfl (lv_at hl 1 rfl) ?_
    refine gM_0_39 S V hw (Nat.le_of_ble_eq_true rfl) fl_X9_81 dX9_way_275 ?_
    refine lv_iload hx hb dX9_way_278 (lv_at hl 11 rfl) ?_
    refine aM_17 S V hw (Nat.le_of_ble_eq_true rfl) h.1 (z := (σ 17 0 x11.toNatClampNeg)) rfl dX9_way_280 ?_
    have h := h.2
    refine lv_iadd hx hb dX9_way_281 ?_
    refine lv_aload_n hx hb dX9_way_282 rfl (lv_at hl 1 rfl) ?_
    refine gM_0_41 S V hw (Nat.le_of_ble_eq_true rfl) fl_X9_87 dX9_way_283 ?_
    refine lv_iload hx hb dX9_way_286 (lv_at hl 11 rfl) ?_
    refine aM_19 S V hw (Nat.le_of_ble_eq_true rfl) h.1 (z := (σ 19 0 x11.toNatClampNeg)) rfl dX9_way_288 ?_
    have h := h.2
    refine lv_icmp_ge (tgt := 321) hx hb dX9_way_289 (by decide) (fun hc => ?_) (fun hc => ?_)
    · have h := h.1 hc
      exact wk_X9_way_321 S V hr hlocks x1 x2 x3 x4 x5  K161 K172 post hK161 hK172 x6 x8 x9 _ _ _ _ h  hw (lv_sub hl [1, 2, 3, 4, 5, 6, 7, 8, 9] rfl)
    · have h := h.2 hc
      refine lv_aload_n hx hb dX9_way_292 rfl (lv_at hl 1 rfl) ?_
      refine gM_0_41 S V hw (Nat.le_of_ble_eq_true rfl) fl_X9_87 dX9_way_293 ?_
      refine lv_iload hx hb dX9_way_296 (lv_at hl 11 rfl) ?_
      refine lv_aload_n hx hb dX9_way_298 rfl (lv_at hl 1 rfl) ?_
      refine gM_0_41 S V hw (Nat.le_of_ble_eq_true rfl) fl_X9_87 dX9_way_299 ?_
      refine lv_iload hx hb dX9_way_302 (lv_at hl 10 rfl) ?_
      refine aM_19 S V hw (Nat.le_of_ble_eq_true rfl) h.1 (z := (σ 19 0 x10.toNatClampNeg)) rfl dX9_way_304 ?_
      have h := h.2
      refine lv_sipush (v := 10000) hx hb dX9_way_305 (by decide) ?_
      refine lv_iadd hx hb dX9_way_308 ?_
      refine lv_aload_n hx hb dX9_way_309 rfl (lv_at hl 1 rfl) ?_
      refine gM_0_39 S V hw (Nat.le_of_ble_eq_true rfl) fl_X9_81 dX9_way_310 ?_
      refine lv_iload hx hb dX9_way_313 (lv_at hl 11 rfl) ?_
      refine aM_17 S V hw (Nat.le_of_ble_eq_true rfl) h.1 (z := (σ 17 0 x11.toNatClampNeg)) rfl dX9_way_315 ?_
      have h := h.2
      refine lv_iadd hx hb dX9_way_316 ?_
      refine sM_19 S V hw (Nat.le_of_ble_eq_true rfl) h.1 dX9_way_317 (fun H locs hw => ?_)
      have h := h.2
      refine lv_iconst (v := 1) hx hb dX9_way_318 (by decide) ?_
      refine lv_istore (lv' := [(8, .int 1), (12, .int xs0), (0, .ref (ad 0 0)), (1, .int x1), (2, .int x2), (3, .int x3), (4, .int x4), (5, .int x5), (6, .int x6), (9, .int x9), (10, .int x10), (11, .int x11)]) hx hb dX9_way_319 hl (by decide) rfl (fun ls hl => ?_)
      exact wk_X9_way_321 S V hr hlocks x1 x2 x3 x4 x5  K161 K172 post hK161 hK172 x6 1 x9 _ _ _ _ h  hw (lv_sub hl [2, 3, 4, 5, 6, 7, 8, 0, 9] rfl)
def wp_X9_way_255 (x1 : Int32) (x2 : Int32) (x3 : Int32) (x4 : Int32) (x5 : Int32) (K161 : Int32 → Int32 → St → Prop) (K172 : Int32 → Int32 → Int32 → St → Prop) (post : Int32 → St → Prop) (x6 : Int32) (x8 : Int32) (x9 : Int32) (x10 : Int32) (x11 : Int32) (σ : St) : Prop := wp_X9_way_256 x1 x2 x3 x4 x5 K161 K172 post x6 x8 x9 x10 x11 0 σ
set_option maxHeartbeats 4000000 in
set_option maxRecDepth 100000 in
theorem wk_X9_way_255 {p : Program} {l : Launch} {e : Env} {s : State} {m : MethodId} {below : List Frame} {meth : Method} {c : Code} {D : va_G} {q : ClassId × ClassId × ClassId × ClassId} {ad : Nat → Nat → Nat} {args : Array Value} (S : CallFix p m c cX9_way 13 s args GW "OnChinModel") (V : EvM D q ad s) (hr : meth.sig.returnType = (some .int)) (hlocks : meth.locks = false) (x1 : Int32) (x2 : Int32) (x3 : Int32) (x4 : Int32) (x5 : Int32) (K161 : Int32 → Int32 → St → Prop) (K172 : Int32 → Int32 → Int32 → St → Prop) (post : Int32 → St → Prop) (hK161 : ∀ (x6 : Int32) (x8 : Int32) (σ : St) (H : Heap) (locs : List Loc) (ls : Array Slot), K161 x6 x8 σ → wo D clA LM ad s.heap H locs (EM q ad σ) → lv_has ls 13 [(0, .ref (ad 0 0)), (1, .int x1), (2, .int x2), (3, .int x3), (4, .int x4), (5, .int x5), (6, .int x6), (8, .int x8)] → W p l e { frames := 2, cells := 0, slots := 0, locals := 45 } s m args below meth c H locs 0 0 (MQ below (zQi D clA LM ad (EM q ad) post) args s 0 0 (zA LM ad)) (F0 m 161 ls [])) (hK172 : ∀ (x6 : Int32) (x8 : Int32) (x9 : Int32) (σ : St) (H : Heap) (locs : List Loc) (ls : Array Slot), K172 x6 x8 x9 σ → wo D clA LM ad s.heap H locs (EM q ad σ) → lv_has ls 13 [(0, .ref (ad 0 0)), (1, .int x1), (2, .int x2), (3, .int x3), (4, .int x4), (5, .int x5), (6, .int x6), (8, .int x8), (9, .int x9)] → W p l e { frames := 2, cells := 0, slots := 0, locals := 45 } s m args below meth c H locs 0 0 (MQ below (zQi D clA LM ad (EM q ad) post) args s 0 0 (zA LM ad)) (F0 m 172 ls [])) : ∀ (x6 : Int32) (x8 : Int32) (x9 : Int32) (x10 : Int32) (x11 : Int32) (σ : St) (H : Heap) (locs : List Loc) (ls : Array Slot), wp_X9_way_255 x1 x2 x3 x4 x5 K161 K172 post x6 x8 x9 x10 x11 σ → wo D clA LM ad s.heap H locs (EM q ad σ) → lv_has ls 13 [(0, .ref (ad 0 0)), (1, .int x1), (2, .int x2), (3, .int x3), (4, .int x4), (5, .int x5), (6, .int x6), (8, .int x8), (9, .int x9), (10, .int x10), (11, .int x11)] → W p l e { frames := 2, cells := 0, slots := 0, locals := 45 } s m args below meth c H locs 0 0 (MQ below (zQi D clA LM ad (EM q ad) post) args s 0 0 (zA LM ad)) (F0 m 255 ls []) := by
  have hx := S.1
  have hb := S.2.1
  intro x6 x8 x9 x10 x11 σ H locs ls h  hw hl
  have h : wp_X9_way_256 x1 x2 x3 x4 x5 K161 K172 post x6 x8 x9 x10 x11 0 σ := h
  refine lv_iconst (v := 0) hx hb dX9_way_255 (by decide) ?_
  exact wk_X9_way_256 S V hr hlocks x1 x2 x3 x4 x5  K161 K172 post hK161 hK172 x6 x8 x9 x10 x11 0 _ _ _ _ h  hw (lv_sub hl [0, 1, 2, 3, 4, 5, 6, 7, 8, 9, 10] rfl)
def wp_X9_way_251 (x1 : Int32) (x2 : Int32) (x3 : Int32) (x4 : Int32) (x5 : Int32) (K161 : Int32 → Int32 → St → Prop) (K172 : Int32 → Int32 → Int32 → St → Prop) (post : Int32 → St → Prop) (x6 : Int32) (x8 : Int32) (x9 : Int32) (x10 : Int32) (x11 : Int32) (σ : St) : Prop := wp_X9_way_256 x1 x2 x3 x4 x5 K161 K172 post x6 x8 x9 x10 x11 1 σ
set_option maxHeartbeats 4000000 in
set_option maxRecDepth 100000 in
theorem wk_X9_way_251 {p : Program} {l : Launch} {e : Env} {s : State} {m : MethodId} {below : List Frame} {meth : Method} {c : Code} {D : va_G} {q : ClassId × ClassId × ClassId × ClassId} {ad : Nat → Nat → Nat} {args : Array Value} (S : CallFix p m c cX9_way 13 s args GW "OnChinModel") (V : EvM D q ad s) (hr : meth.sig.returnType = (some .int)) (hlocks : meth.locks = false) (x1 : Int32) (x2 : Int32) (x3 : Int32) (x4 : Int32) (x5 : Int32) (K161 : Int32 → Int32 → St → Prop) (K172 : Int32 → Int32 → Int32 → St → Prop) (post : Int32 → St → Prop) (hK161 : ∀ (x6 : Int32) (x8 : Int32) (σ : St) (H : Heap) (locs : List Loc) (ls : Array Slot), K161 x6 x8 σ → wo D clA LM ad s.heap H locs (EM q ad σ) → lv_has ls 13 [(0, .ref (ad 0 0)), (1, .int x1), (2, .int x2), (3, .int x3), (4, .int x4), (5, .int x5), (6, .int x6), (8, .int x8)] → W p l e { frames := 2, cells := 0, slots := 0, locals := 45 } s m args below meth c H locs 0 0 (MQ below (zQi D clA LM ad (EM q ad) post) args s 0 0 (zA LM ad)) (F0 m 161 ls [])) (hK172 : ∀ (x6 : Int32) (x8 : Int32) (x9 : Int32) (σ : St) (H : Heap) (locs : List Loc) (ls : Array Slot), K172 x6 x8 x9 σ → wo D clA LM ad s.heap H locs (EM q ad σ) → lv_has ls 13 [(0, .ref (ad 0 0)), (1, .int x1), (2, .int x2), (3, .int x3), (4, .int x4), (5, .int x5), (6, .int x6), (8, .int x8), (9, .int x9)] → W p l e { frames := 2, cells := 0, slots := 0, locals := 45 } s m args below meth c H locs 0 0 (MQ below (zQi D clA LM ad (EM q ad) post) args s 0 0 (zA LM ad)) (F0 m 172 ls [])) : ∀ (x6 : Int32) (x8 : Int32) (x9 : Int32) (x10 : Int32) (x11 : Int32) (σ : St) (H : Heap) (locs : List Loc) (ls : Array Slot), wp_X9_way_251 x1 x2 x3 x4 x5 K161 K172 post x6 x8 x9 x10 x11 σ → wo D clA LM ad s.heap H locs (EM q ad σ) → lv_has ls 13 [(0, .ref (ad 0 0)), (1, .int x1), (2, .int x2), (3, .int x3), (4, .int x4), (5, .int x5), (6, .int x6), (8, .int x8), (9, .int x9), (10, .int x10), (11, .int x11)] → W p l e { frames := 2, cells := 0, slots := 0, locals := 45 } s m args below meth c H locs 0 0 (MQ below (zQi D clA LM ad (EM q ad) post) args s 0 0 (zA LM ad)) (F0 m 251 ls []) := by
  have hx := S.1
  have hb := S.2.1
  intro x6 x8 x9 x10 x11 σ H locs ls h  hw hl
  have h : wp_X9_way_256 x1 x2 x3 x4 x5 K161 K172 post x6 x8 x9 x10 x11 1 σ := h
  refine lv_iconst (v := 1) hx hb dX9_way_251 (by decide) ?_
  refine lv_goto (tgt := 256) hx hb dX9_way_252 (by decide) ?_
  exact wk_X9_way_256 S V hr hlocks x1 x2 x3 x4 x5  K161 K172 post hK161 hK172 x6 x8 x9 x10 x11 1 _ _ _ _ h  hw (lv_sub hl [0, 1, 2, 3, 4, 5, 6, 7, 8, 9, 10] rfl)
def wp_X9_way_172 (x1 : Int32) (x2 : Int32) (x3 : Int32) (x4 : Int32) (x5 : Int32) (K161 : Int32 → Int32 → St → Prop) (post : Int32 → St → Prop) : Nat → Int32 → Int32 → Int32 → St → Prop
  | 0 => fun _ _ _ _ => False
  | n + 1 => fun x6 x8 x9 σ => ((1296 ≤ x9 → K161 x6 x8 σ) ∧ (¬ 1296 ≤ x9 → (vp_in (x9 / 36) 36 ∧ ((268435456 ≤ (σ 19 0 ((x9 / 36).toNatClampNeg)) → wp_X9_way_255 x1 x2 x3 x4 x5 K161 (fun y0 y1 y2 τ => wp_X9_way_172 x1 x2 x3 x4 x5 K161 post n y0 y1 y2 τ) post x6 x8 x9 (x9 / 36) (x9 - x9 / 36 * 36) σ) ∧ (¬ 268435456 ≤ (σ 19 0 ((x9 / 36).toNatClampNeg)) → wp_X9_areBeside (x9 / 36) (x9 - x9 / 36 * 36) (fun r1 σ1 => ((r1 = 0 → wp_X9_way_255 x1 x2 x3 x4 x5 K161 (fun y0 y1 y2 τ => wp_X9_way_172 x1 x2 x3 x4 x5 K161 post n y0 y1 y2 τ) post x6 x8 x9 (x9 / 36) (x9 - x9 / 36 * 36) σ1) ∧ (¬ r1 = 0 → (vp_in (x9 - x9 / 36 * 36) 36 ∧ ((x4 < (σ1 17 0 ((x9 - x9 / 36 * 36).toNatClampNeg)) → wp_X9_way_255 x1 x2 x3 x4 x5 K161 (fun y0 y1 y2 τ => wp_X9_way_172 x1 x2 x3 x4 x5 K161 post n y0 y1 y2 τ) post x6 x8 x9 (x9 / 36) (x9 - x9 / 36 * 36) σ1) ∧ (¬ x4 < (σ1 17 0 ((x9 - x9 / 36 * 36).toNatClampNeg)) → (vp_in (x9 - x9 / 36 * 36) 36 ∧ (((σ1 18 0 ((x9 - x9 / 36 * 36).toNatClampNeg)) = 0 → wp_X9_way_251 x1 x2 x3 x4 x5 K161 (fun y0 y1 y2 τ => wp_X9_way_172 x1 x2 x3 x4 x5 K161 post n y0 y1 y2 τ) post x6 x8 x9 (x9 / 36) (x9 - x9 / 36 * 36) σ1) ∧ (¬ (σ1 18 0 ((x9 - x9 / 36 * 36).toNatClampNeg)) = 0 → (vp_in (x9 - x9 / 36 * 36) 36 ∧ (((σ1 18 0 ((x9 - x9 / 36 * 36).toNatClampNeg)) ≤ x6 → wp_X9_way_255 x1 x2 x3 x4 x5 K161 (fun y0 y1 y2 τ => wp_X9_way_172 x1 x2 x3 x4 x5 K161 post n y0 y1 y2 τ) post x6 x8 x9 (x9 / 36) (x9 - x9 / 36 * 36) σ1) ∧ (¬ (σ1 18 0 ((x9 - x9 / 36 * 36).toNatClampNeg)) ≤ x6 → wp_X9_way_251 x1 x2 x3 x4 x5 K161 (fun y0 y1 y2 τ => wp_X9_way_172 x1 x2 x3 x4 x5 K161 post n y0 y1 y2 τ) post x6 x8 x9 (x9 / 36) (x9 - x9 / 36 * 36) σ1)))))))))))) σ)))))
set_option maxHeartbeats 4000000 in
set_option maxRecDepth 100000 in
theorem wk_X9_way_172 {p : Program} {l : Launch} {e : Env} {s : State} {m : MethodId} {below : List Frame} {meth : Method} {c : Code} {D : va_G} {q : ClassId × ClassId × ClassId × ClassId} {ad : Nat → Nat → Nat} {args : Array Value} (S : CallFix p m c cX9_way 13 s args GW "OnChinModel") (V : EvM D q ad s) (hr : meth.sig.returnType = (some .int)) (hlocks : meth.locks = false) (x1 : Int32) (x2 : Int32) (x3 : Int32) (x4 : Int32) (x5 : Int32) (K161 : Int32 → Int32 → St → Prop) (post : Int32 → St → Prop) (hK161 : ∀ (x6 : Int32) (x8 : Int32) (σ : St) (H : Heap) (locs : List Loc) (ls : Array Slot), K161 x6 x8 σ → wo D clA LM ad s.heap H locs (EM q ad σ) → lv_has ls 13 [(0, .ref (ad 0 0)), (1, .int x1), (2, .int x2), (3, .int x3), (4, .int x4), (5, .int x5), (6, .int x6), (8, .int x8)] → W p l e { frames := 2, cells := 0, slots := 0, locals := 45 } s m args below meth c H locs 0 0 (MQ below (zQi D clA LM ad (EM q ad) post) args s 0 0 (zA LM ad)) (F0 m 161 ls [])) : ∀ (n : Nat) (x6 : Int32) (x8 : Int32) (x9 : Int32) (σ : St) (H : Heap) (locs : List Loc) (ls : Array Slot), wp_X9_way_172 x1 x2 x3 x4 x5 K161 post n x6 x8 x9 σ → wo D clA LM ad s.heap H locs (EM q ad σ) → lv_has ls 13 [(0, .ref (ad 0 0)), (1, .int x1), (2, .int x2), (3, .int x3), (4, .int x4), (5, .int x5), (6, .int x6), (8, .int x8), (9, .int x9)] → W p l e { frames := 2, cells := 0, slots := 0, locals := 45 } s m args below meth c H locs 0 0 (MQ below (zQi D clA LM ad (EM q ad) post) args s 0 0 (zA LM ad)) (F0 m 172 ls []) := by
  have hx := S.1
  have hb := S.2.1
  intro n
  induction n with
  | zero => intro x6 x8 x9 σ H locs ls h; exact False.elim h
  | succ n ih =>
    intro x6 x8 x9 σ H locs ls h  hw hl
    refine lv_iload hx hb dX9_way_172 (lv_at hl 8 rfl) ?_
    refine lv_sipush (v := 1296) hx hb dX9_way_174 (by decide) ?_
    refine lv_icmp_ge (tgt := 327) hx hb dX9_way_177 (by decide) (fun hc => ?_) (fun hc => ?_)
    · have h := h.1 hc
      refine lv_goto (tgt := 161) hx hb dX9_way_327 (by decide) ?_
      exact hK161 x6 x8 _ _ _ _ h  hw (lv_sub hl [0, 1, 2, 3, 4, 5, 6, 7] rfl)
    · have h := h.2 hc
      refine lv_iload hx hb dX9_way_180 (lv_at hl 8 rfl) ?_
      refine lv_bipush (v := 36) hx hb dX9_way_182 (by decide) ?_
      refine lv_idiv hx hb dX9_way_184 (by decide) ?_
      refine lv_istore (lv' := [(10, .int (x9 / 36)), (0, .ref (ad 0 0)), (1, .int x1), (2, .int x2), (3, .int x3), (4, .int x4), (5, .int x5), (6, .int x6), (8, .int x8), (9, .int x9)]) hx hb dX9_way_185 hl (by decide) rfl (fun ls hl => ?_)
      refine lv_iload hx hb dX9_way_187 (lv_at hl 9 rfl) ?_
      refine lv_bipush (v := 36) hx hb dX9_way_189 (by decide) ?_
      refine lv_irem hx hb dX9_way_191 (by decide) ?_
      refine lv_istore (lv' := [(11, .int (x9 - x9 / 36 * 36)), (10, .int (x9 / 36)), (0, .ref (ad 0 0)), (1, .int x1), (2, .int x2), (3, .int x3), (4, .int x4), (5, .int x5), (6, .int x6), (8, .int x8), (9, .int x9)]) hx hb dX9_way_192 hl (by decide) rfl (fun ls hl => ?_)
      refine lv_aload_n hx hb dX9_way_194 rfl (lv_at hl 2 rfl) ?_
      refine gM_0_41 S V hw (Nat.le_of_ble_eq_true rfl) fl_X9_87 dX9_way_195 ?_
      refine lv_iload hx hb dX9_way_198 (lv_at hl 1 rfl) ?_
      refine aM_19 S V hw (Nat.le_of_ble_eq_true rfl) h.1 (z := (σ 19 0 ((x9 / 36).toNatClampNeg))) rfl dX9_way_200 ?_
      have h := h.2
      refine lv_ldcw (v := 268435456) hx hb S.2.2.2.1 (gw_S S _ kc_X9_311) dX9_way_201 ?_
      refine lv_icmp_ge (tgt := 255) hx hb dX9_way_204 (by decide) (fun hc => ?_) (fun hc => ?_)
      · have h := h.1 hc
        exact wk_X9_way_255 S V hr hlocks x1 x2 x3 x4 x5  K161 (fun y0 y1 y2 τ => wp_X9_way_172 x1 x2 x3 x4 x5 K161 post n y0 y1 y2 τ) post hK161 ih x6 x8 x9 (x9 / 36) (x9 - x9 / 36 * 36) _ _ _ _ h  hw (lv_sub hl [2, 3, 4, 5, 6, 7, 8, 9, 10, 1, 0] rfl)
      · have h := h.2 hc
        refine lv_iload hx hb dX9_way_207 (lv_at hl 1 rfl) ?_
        refine lv_iload hx hb dX9_way_209 (lv_at hl 0 rfl) ?_
        refine call_Si (As := [.int (x9 / 36), .int (x9 - x9 / 36 * 36)]) (rest := []) EvM_ok S V hw (mt_X9_areBeside l D q ad (x9 / 36) (x9 - x9 / 36 * 36)  σ _ h) ok_X9_areBeside ml_X9_328 ⟨(Nat.le_of_ble_eq_true rfl), (Nat.le_of_ble_eq_true rfl)⟩ ⟨rfl, rfl⟩ rfl hl.1 rfl (Nat.le_of_ble_eq_true rfl) dX9_way_211 (fun r1 σ1 H locs h hw => ?_)
        refine lv_if_eq (tgt := 255) hx hb dX9_way_214 (by decide) (fun hc => ?_) (fun hc => ?_)
        · have h := h.1 hc
          exact wk_X9_way_255 S V hr hlocks x1 x2 x3 x4 x5  K161 (fun y0 y1 y2 τ => wp_X9_way_172 x1 x2 x3 x4 x5 K161 post n y0 y1 y2 τ) post hK161 ih x6 x8 x9 (x9 / 36) (x9 - x9 / 36 * 36) _ _ _ _ h  hw (lv_sub hl [2, 3, 4, 5, 6, 7, 8, 9, 10, 1, 0] rfl)
        · have h := h.2 hc
          refine lv_aload_n hx hb dX9_way_217 rfl (lv_at hl 2 rfl) ?_
          refine gM_0_39 S V hw (Nat.le_of_ble_eq_true rfl) fl_X9_81 dX9_way_218 ?_
          refine lv_iload hx hb dX9_way_221 (lv_at hl 0 rfl) ?_
          refine aM_17 S V hw (Nat.le_of_ble_eq_true rfl) h.1 (z := (σ1 17 0 ((x9 - x9 / 36 * 36).toNatClampNeg))) rfl dX9_way_223 ?_
          have h := h.2
          refine lv_iload hx hb dX9_way_224 (lv_at hl 6 rfl) ?_
          refine lv_icmp_gt (tgt := 255) hx hb dX9_way_226 (by decide) (fun hc => ?_) (fun hc => ?_)
          · have h := h.1 hc
            exact wk_X9_way_255 S V hr hlocks x1 x2 x3 x4 x5  K161 (fun y0 y1 y2 τ => wp_X9_way_172 x1 x2 x3 x4 x5 K161 post n y0 y1 y2 τ) post hK161 ih x6 x8 x9 (x9 / 36) (x9 - x9 / 36 * 36) _ _ _ _ h  hw (lv_sub hl [2, 3, 4, 5, 6, 7, 8, 9, 10, 1, 0] rfl)
          · have h := h.2 hc
            refine lv_aload_n hx hb dX9_way_229 rfl (lv_at hl 2 rfl) ?_
            refine gM_0_40 S V hw (Nat.le_of_ble_eq_true rfl) fl_X9_84 dX9_way_230 ?_
            refine lv_iload hx hb dX9_way_233 (lv_at hl 0 rfl) ?_
            refine aM_18 S V hw (Nat.le_of_ble_eq_true rfl) h.1 (z := (σ1 18 0 ((x9 - x9 / 36 * 36).toNatClampNeg))) rfl dX9_way_235 ?_
            have h := h.2
            refine lv_if_eq (tgt := 251) hx hb dX9_way_236 (by decide) (fun hc => ?_) (fun hc => ?_)
            · have h := h.1 hc
              exact wk_X9_way_251 S V hr hlocks x1 x2 x3 x4 x5  K161 (fun y0 y1 y2 τ => wp_X9_way_172 x1 x2 x3 x4 x5 K161 post n y0 y1 y2 τ) post hK161 ih x6 x8 x9 (x9 / 36) (x9 - x9 / 36 * 36) _ _ _ _ h  hw (lv_sub hl [2, 3, 4, 5, 6, 7, 8, 9, 10, 1, 0] rfl)
            · have h := h.2 hc
              refine lv_aload_n hx hb dX9_way_239 rfl (lv_at hl 2 rfl) ?_
              refine gM_0_40 S V hw (Nat.le_of_ble_eq_true rfl) fl_X9_84 dX9_way_240 ?_
              refine lv_iload hx hb dX9_way_243 (lv_at hl 0 rfl) ?_
              refine aM_18 S V hw (Nat.le_of_ble_eq_true rfl) h.1 (z := (σ1 18 0 ((x9 - x9 / 36 * 36).toNatClampNeg))) rfl dX9_way_245 ?_
              have h := h.2
              refine lv_iload hx hb dX9_way_246 (lv_at hl 8 rfl) ?_
              refine lv_icmp_le (tgt := 255) hx hb dX9_way_248 (by decide) (fun hc => ?_) (fun hc => ?_)
              · have h := h.1 hc
                exact wk_X9_way_255 S V hr hlocks x1 x2 x3 x4 x5  K161 (fun y0 y1 y2 τ => wp_X9_way_172 x1 x2 x3 x4 x5 K161 post n y0 y1 y2 τ) post hK161 ih x6 x8 x9 (x9 / 36) (x9 - x9 / 36 * 36) _ _ _ _ h  hw (lv_sub hl [2, 3, 4, 5, 6, 7, 8, 9, 10, 1, 0] rfl)
              · have h := h.2 hc
                exact wk_X9_way_251 S V hr hlocks x1 x2 x3 x4 x5  K161 (fun y0 y1 y2 τ => wp_X9_way_172 x1 x2 x3 x4 x5 K161 post n y0 y1 y2 τ) post hK161 ih x6 x8 x9 (x9 / 36) (x9 - x9 / 36 * 36) _ _ _ _ h  hw (lv_sub hl [2, 3, 4, 5, 6, 7, 8, 9, 10, 1, 0] rfl)
def wp_X9_way_161 (x1 : Int32) (x2 : Int32) (x3 : Int32) (x4 : Int32) (x5 : Int32) (post : Int32 → St → Prop) : Nat → Int32 → Int32 → St → Prop
  | 0 => fun _ _ _ => False
  | n + 1 => fun x6 x8 σ => ((x8 = 0 → (vp_in x3 36 ∧ ((¬ (σ 19 0 x3.toNatClampNeg) = 268435456 → ((¬ x5 = 0 → (vp_in x3 36 ∧ wp_X9_way_374 x1 x2 x3 x4 x5 post ((σ 19 0 x3.toNatClampNeg) - (σ 19 0 x3.toNatClampNeg) / 10000 * 10000) σ)) ∧ (x5 = 0 → (vp_in x3 36 ∧ wp_X9_way_374 x1 x2 x3 x4 x5 post ((σ 19 0 x3.toNatClampNeg) / 10000) σ)))) ∧ ((σ 19 0 x3.toNatClampNeg) = 268435456 → wp_X9_way_374 x1 x2 x3 x4 x5 post (-1) σ)))) ∧ (¬ x8 = 0 → ∃ nn, wp_X9_way_172 x1 x2 x3 x4 x5 (fun y0 y1 τ => wp_X9_way_161 x1 x2 x3 x4 x5 post n y0 y1 τ) post nn x6 0 0 σ))
set_option maxHeartbeats 4000000 in
set_option maxRecDepth 100000 in
theorem wk_X9_way_161 {p : Program} {l : Launch} {e : Env} {s : State} {m : MethodId} {below : List Frame} {meth : Method} {c : Code} {D : va_G} {q : ClassId × ClassId × ClassId × ClassId} {ad : Nat → Nat → Nat} {args : Array Value} (S : CallFix p m c cX9_way 13 s args GW "OnChinModel") (V : EvM D q ad s) (hr : meth.sig.returnType = (some .int)) (hlocks : meth.locks = false) (x1 : Int32) (x2 : Int32) (x3 : Int32) (x4 : Int32) (x5 : Int32) (post : Int32 → St → Prop)  : ∀ (n : Nat) (x6 : Int32) (x8 : Int32) (σ : St) (H : Heap) (locs : List Loc) (ls : Array Slot), wp_X9_way_161 x1 x2 x3 x4 x5 post n x6 x8 σ → wo D clA LM ad s.heap H locs (EM q ad σ) → lv_has ls 13 [(0, .ref (ad 0 0)), (1, .int x1), (2, .int x2), (3, .int x3), (4, .int x4), (5, .int x5), (6, .int x6), (8, .int x8)] → W p l e { frames := 2, cells := 0, slots := 0, locals := 45 } s m args below meth c H locs 0 0 (MQ below (zQi D clA LM ad (EM q ad) post) args s 0 0 (zA LM ad)) (F0 m 161 ls []) := by
  have hx := S.1
  have hb := S.2.1
  intro n
  induction n with
  | zero => intro x6 x8 σ H locs ls h; exact False.elim h
  | succ n ih =>
    intro x6 x8 σ H locs ls h  hw hl
    refine lv_iload hx hb dX9_way_161 (lv_at hl 7 rfl) ?_
    refine lv_if_eq (tgt := 330) hx hb dX9_way_163 (by decide) (fun hc => ?_) (fun hc => ?_)
    · have h := h.1 hc
      refine lv_aload_n hx hb dX9_way_330 rfl (lv_at hl 0 rfl) ?_
      refine gM_0_41 S V hw (Nat.le_of_ble_eq_true rfl) fl_X9_87 dX9_way_331 ?_
      refine lv_iload_n hx hb dX9_way_334 rfl (lv_at hl 3 rfl) ?_
      refine aM_19 S V hw (Nat.le_of_ble_eq_true rfl) h.1 (z := (σ 19 0 x3.toNatClampNeg)) rfl dX9_way_335 ?_
      have h := h.2
      refine lv_ldcw (v := 268435456) hx hb S.2.2.2.1 (gw_S S _ kc_X9_311) dX9_way_336 ?_
      refine lv_icmp_ne (tgt := 346) hx hb dX9_way_339 (by decide) (fun hc => ?_) (fun hc => ?_)
      · have h := h.1 hc
        refine lv_iload hx hb dX9_way_346 (lv_at hl 5 rfl) ?_
        refine lv_if_ne (tgt := 364) hx hb dX9_way_348 (by decide) (fun hc => ?_) (fun hc => ?_)
        · have h := h.1 hc
          refine lv_aload_n hx hb dX9_way_364 rfl (lv_at hl 0 rfl) ?_
          refine gM_0_41 S V hw (Nat.le_of_ble_eq_true rfl) fl_X9_87 dX9_way_365 ?_
          refine lv_iload_n hx hb dX9_way_368 rfl (lv_at hl 3 rfl) ?_
          refine aM_19 S V hw (Nat.le_of_ble_eq_true rfl) h.1 (z := (σ 19 0 x3.toNatClampNeg)) rfl dX9_way_369 ?_
          have h := h.2
          refine lv_sipush (v := 10000) hx hb dX9_way_370 (by decide) ?_
          refine lv_irem hx hb dX9_way_373 (by decide) ?_
          exact wk_X9_way_374 S V hr hlocks x1 x2 x3 x4 x5   post  ((σ 19 0 x3.toNatClampNeg) - (σ 19 0 x3.toNatClampNeg) / 10000 * 10000) _ _ _ _ h  hw (lv_sub hl [0, 1, 2, 3, 4, 5] rfl)
        · have h := h.2 hc
          refine lv_aload_n hx hb dX9_way_351 rfl (lv_at hl 0 rfl) ?_
          refine gM_0_41 S V hw (Nat.le_of_ble_eq_true rfl) fl_X9_87 dX9_way_352 ?_
          refine lv_iload_n hx hb dX9_way_355 rfl (lv_at hl 3 rfl) ?_
          refine aM_19 S V hw (Nat.le_of_ble_eq_true rfl) h.1 (z := (σ 19 0 x3.toNatClampNeg)) rfl dX9_way_356 ?_
          have h := h.2
          refine lv_sipush (v := 10000) hx hb dX9_way_357 (by decide) ?_
          refine lv_idiv hx hb dX9_way_360 (by decide) ?_
          refine lv_goto (tgt := 374) hx hb dX9_way_361 (by decide) ?_
          exact wk_X9_way_374 S V hr hlocks x1 x2 x3 x4 x5   post  ((σ 19 0 x3.toNatClampNeg) / 10000) _ _ _ _ h  hw (lv_sub hl [0, 1, 2, 3, 4, 5] rfl)
      · have h := h.2 hc
        refine lv_iconst (v := (-1)) hx hb dX9_way_342 (by decide) ?_
        refine lv_goto (tgt := 374) hx hb dX9_way_343 (by decide) ?_
        exact wk_X9_way_374 S V hr hlocks x1 x2 x3 x4 x5   post  (-1) _ _ _ _ h  hw (lv_sub hl [0, 1, 2, 3, 4, 5] rfl)
    · have h := h.2 hc
      refine lv_iconst (v := 0) hx hb dX9_way_166 (by decide) ?_
      refine lv_istore (lv' := [(8, .int 0), (0, .ref (ad 0 0)), (1, .int x1), (2, .int x2), (3, .int x3), (4, .int x4), (5, .int x5), (6, .int x6)]) hx hb dX9_way_167 hl (by decide) rfl (fun ls hl => ?_)
      refine lv_iconst (v := 0) hx hb dX9_way_169 (by decide) ?_
      refine lv_istore (lv' := [(9, .int 0), (8, .int 0), (0, .ref (ad 0 0)), (1, .int x1), (2, .int x2), (3, .int x3), (4, .int x4), (5, .int x5), (6, .int x6)]) hx hb dX9_way_170 hl (by decide) rfl (fun ls hl => ?_)
      obtain ⟨n9, h⟩ := h
      exact wk_X9_way_172 S V hr hlocks x1 x2 x3 x4 x5  (fun y0 y1 τ => wp_X9_way_161 x1 x2 x3 x4 x5 post n y0 y1 τ) post ih n9 x6 0 0 _ _ _ _ h  hw (lv_sub hl [2, 3, 4, 5, 6, 7, 8, 1, 0] rfl)
def wp_X9_way_156 (x1 : Int32) (x2 : Int32) (x3 : Int32) (x4 : Int32) (x5 : Int32) (post : Int32 → St → Prop) (x6 : Int32) (x7 : Int32) (xs1 : Int32) (xs2 : Int32) (σ : St) : Prop := (vp_in xs1 36 ∧ ∃ nn, wp_X9_way_161 x1 x2 x3 x4 x5 post nn x6 x7 (su σ 19 0 xs1.toNatClampNeg xs2))
set_option maxHeartbeats 4000000 in
set_option maxRecDepth 100000 in
theorem wk_X9_way_156 {p : Program} {l : Launch} {e : Env} {s : State} {m : MethodId} {below : List Frame} {meth : Method} {c : Code} {D : va_G} {q : ClassId × ClassId × ClassId × ClassId} {ad : Nat → Nat → Nat} {args : Array Value} (S : CallFix p m c cX9_way 13 s args GW "OnChinModel") (V : EvM D q ad s) (hr : meth.sig.returnType = (some .int)) (hlocks : meth.locks = false) (x1 : Int32) (x2 : Int32) (x3 : Int32) (x4 : Int32) (x5 : Int32) (post : Int32 → St → Prop)  : ∀ (x6 : Int32) (x7 : Int32) (xs1 : Int32) (xs2 : Int32) (σ : St) (H : Heap) (locs : List Loc) (ls : Array Slot), wp_X9_way_156 x1 x2 x3 x4 x5 post x6 x7 xs1 xs2 σ → wo D clA LM ad s.heap H locs (EM q ad σ) → lv_has ls 13 [(0, .ref (ad 0 0)), (1, .int x1), (2, .int x2), (3, .int x3), (4, .int x4), (5, .int x5), (6, .int x6), (7, .int x7)] → W p l e { frames := 2, cells := 0, slots := 0, locals := 45 } s m args below meth c H locs 0 0 (MQ below (zQi D clA LM ad (EM q ad) post) args s 0 0 (zA LM ad)) (F0 m 156 ls [.int xs2, .int xs1, .ref (ad 19 0)]) := by
  have hx := S.1
  have hb := S.2.1
  intro x6 x7 xs1 xs2 σ H locs ls h  hw hl
  refine sM_19 S V hw (Nat.le_of_ble_eq_true rfl) h.1 dX9_way_156 (fun H locs hw => ?_)
  have h := h.2
  refine lv_iload hx hb dX9_way_157 (lv_at hl 7 rfl) ?_
  refine lv_istore (lv' := [(8, .int x7), (0, .ref (ad 0 0)), (1, .int x1), (2, .int x2), (3, .int x3), (4, .int x4), (5, .int x5), (6, .int x6), (7, .int x7)]) hx hb dX9_way_159 hl (by decide) rfl (fun ls hl => ?_)
  obtain ⟨n9, h⟩ := h
  exact wk_X9_way_161 S V hr hlocks x1 x2 x3 x4 x5   post  n9 x6 x7 _ _ _ _ h  hw (lv_sub hl [1, 2, 3, 4, 5, 6, 7, 0] rfl)
def wp_X9_way_132 (x1 : Int32) (x2 : Int32) (x3 : Int32) (x4 : Int32) (x5 : Int32) (post : Int32 → St → Prop) (x6 : Int32) (xs0 : Int32) (σ : St) : Prop := ((xs0 = 0 → wp_X9_way_156 x1 x2 x3 x4 x5 post x6 xs0 x2 268435456 σ) ∧ (¬ xs0 = 0 → (vp_in x2 36 ∧ wp_X9_way_156 x1 x2 x3 x4 x5 post x6 xs0 x2 (σ 17 0 x2.toNatClampNeg) σ)))
set_option maxHeartbeats 4000000 in
set_option maxRecDepth 100000 in
theorem wk_X9_way_132 {p : Program} {l : Launch} {e : Env} {s : State} {m : MethodId} {below : List Frame} {meth : Method} {c : Code} {D : va_G} {q : ClassId × ClassId × ClassId × ClassId} {ad : Nat → Nat → Nat} {args : Array Value} (S : CallFix p m c cX9_way 13 s args GW "OnChinModel") (V : EvM D q ad s) (hr : meth.sig.returnType = (some .int)) (hlocks : meth.locks = false) (x1 : Int32) (x2 : Int32) (x3 : Int32) (x4 : Int32) (x5 : Int32) (post : Int32 → St → Prop)  : ∀ (x6 : Int32) (xs0 : Int32) (σ : St) (H : Heap) (locs : List Loc) (ls : Array Slot), wp_X9_way_132 x1 x2 x3 x4 x5 post x6 xs0 σ → wo D clA LM ad s.heap H locs (EM q ad σ) → lv_has ls 13 [(0, .ref (ad 0 0)), (1, .int x1), (2, .int x2), (3, .int x3), (4, .int x4), (5, .int x5), (6, .int x6)] → W p l e { frames := 2, cells := 0, slots := 0, locals := 45 } s m args below meth c H locs 0 0 (MQ below (zQi D clA LM ad (EM q ad) post) args s 0 0 (zA LM ad)) (F0 m 132 ls [.int xs0]) := by
  have hx := S.1
  have hb := S.2.1
  intro x6 xs0 σ H locs ls h  hw hl
  refine lv_istore (lv' := [(7, .int xs0), (0, .ref (ad 0 0)), (1, .int x1), (2, .int x2), (3, .int x3), (4, .int x4), (5, .int x5), (6, .int x6)]) hx hb dX9_way_132 hl (by decide) rfl (fun ls hl => ?_)
  refine lv_aload_n hx hb dX9_way_134 rfl (lv_at hl 1 rfl) ?_
  refine gM_0_41 S V hw (Nat.le_of_ble_eq_true rfl) fl_X9_87 dX9_way_135 ?_
  refine lv_iload_n hx hb dX9_way_138 rfl (lv_at hl 3 rfl) ?_
  refine lv_iload hx hb dX9_way_139 (lv_at hl 0 rfl) ?_
  refine lv_if_eq (tgt := 153) hx hb dX9_way_141 (by decide) (fun hc => ?_) (fun hc => ?_)
  · have h := h.1 hc
    refine lv_ldcw (v := 268435456) hx hb S.2.2.2.1 (gw_S S _ kc_X9_311) dX9_way_153 ?_
    exact wk_X9_way_156 S V hr hlocks x1 x2 x3 x4 x5   post  x6 xs0 x2 268435456 _ _ _ _ h  hw (lv_sub hl [1, 2, 3, 4, 5, 6, 7, 0] rfl)
  · have h := h.2 hc
    refine lv_aload_n hx hb dX9_way_144 rfl (lv_at hl 1 rfl) ?_
    refine gM_0_39 S V hw (Nat.le_of_ble_eq_true rfl) fl_X9_81 dX9_way_145 ?_
    refine lv_iload_n hx hb dX9_way_148 rfl (lv_at hl 3 rfl) ?_
    refine aM_17 S V hw (Nat.le_of_ble_eq_true rfl) h.1 (z := (σ 17 0 x2.toNatClampNeg)) rfl dX9_way_149 ?_
    have h := h.2
    refine lv_goto (tgt := 156) hx hb dX9_way_150 (by decide) ?_
    exact wk_X9_way_156 S V hr hlocks x1 x2 x3 x4 x5   post  x6 xs0 x2 (σ 17 0 x2.toNatClampNeg) _ _ _ _ h  hw (lv_sub hl [1, 2, 3, 4, 5, 6, 7, 0] rfl)
def wp_X9_way_131 (x1 : Int32) (x2 : Int32) (x3 : Int32) (x4 : Int32) (x5 : Int32) (post : Int32 → St → Prop) (x6 : Int32) (σ : St) : Prop := wp_X9_way_132 x1 x2 x3 x4 x5 post x6 0 σ
set_option maxHeartbeats 4000000 in
set_option maxRecDepth 100000 in
theorem wk_X9_way_131 {p : Program} {l : Launch} {e : Env} {s : State} {m : MethodId} {below : List Frame} {meth : Method} {c : Code} {D : va_G} {q : ClassId × ClassId × ClassId × ClassId} {ad : Nat → Nat → Nat} {args : Array Value} (S : CallFix p m c cX9_way 13 s args GW "OnChinModel") (V : EvM D q ad s) (hr : meth.sig.returnType = (some .int)) (hlocks : meth.locks = false) (x1 : Int32) (x2 : Int32) (x3 : Int32) (x4 : Int32) (x5 : Int32) (post : Int32 → St → Prop)  : ∀ (x6 : Int32) (σ : St) (H : Heap) (locs : List Loc) (ls : Array Slot), wp_X9_way_131 x1 x2 x3 x4 x5 post x6 σ → wo D clA LM ad s.heap H locs (EM q ad σ) → lv_has ls 13 [(0, .ref (ad 0 0)), (1, .int x1), (2, .int x2), (3, .int x3), (4, .int x4), (5, .int x5), (6, .int x6)] → W p l e { frames := 2, cells := 0, slots := 0, locals := 45 } s m args below meth c H locs 0 0 (MQ below (zQi D clA LM ad (EM q ad) post) args s 0 0 (zA LM ad)) (F0 m 131 ls []) := by
  have hx := S.1
  have hb := S.2.1
  intro x6 σ H locs ls h  hw hl
  have h : wp_X9_way_132 x1 x2 x3 x4 x5 post x6 0 σ := h
  refine lv_iconst (v := 0) hx hb dX9_way_131 (by decide) ?_
  exact wk_X9_way_132 S V hr hlocks x1 x2 x3 x4 x5   post  x6 0 _ _ _ _ h  hw (lv_sub hl [0, 1, 2, 3, 4, 5, 6] rfl)
def wp_X9_way_127 (x1 : Int32) (x2 : Int32) (x3 : Int32) (x4 : Int32) (x5 : Int32) (post : Int32 → St → Prop) (x6 : Int32) (σ : St) : Prop := wp_X9_way_132 x1 x2 x3 x4 x5 post x6 1 σ
set_option maxHeartbeats 4000000 in
set_option maxRecDepth 100000 in
theorem wk_X9_way_127 {p : Program} {l : Launch} {e : Env} {s : State} {m : MethodId} {below : List Frame} {meth : Method} {c : Code} {D : va_G} {q : ClassId × ClassId × ClassId × ClassId} {ad : Nat → Nat → Nat} {args : Array Value} (S : CallFix p m c cX9_way 13 s args GW "OnChinModel") (V : EvM D q ad s) (hr : meth.sig.returnType = (some .int)) (hlocks : meth.locks = false) (x1 : Int32) (x2 : Int32) (x3 : Int32) (x4 : Int32) (x5 : Int32) (post : Int32 → St → Prop)  : ∀ (x6 : Int32) (σ : St) (H : Heap) (locs : List Loc) (ls : Array Slot), wp_X9_way_127 x1 x2 x3 x4 x5 post x6 σ → wo D clA LM ad s.heap H locs (EM q ad σ) → lv_has ls 13 [(0, .ref (ad 0 0)), (1, .int x1), (2, .int x2), (3, .int x3), (4, .int x4), (5, .int x5), (6, .int x6)] → W p l e { frames := 2, cells := 0, slots := 0, locals := 45 } s m args below meth c H locs 0 0 (MQ below (zQi D clA LM ad (EM q ad) post) args s 0 0 (zA LM ad)) (F0 m 127 ls []) := by
  have hx := S.1
  have hb := S.2.1
  intro x6 σ H locs ls h  hw hl
  have h : wp_X9_way_132 x1 x2 x3 x4 x5 post x6 1 σ := h
  refine lv_iconst (v := 1) hx hb dX9_way_127 (by decide) ?_
  refine lv_goto (tgt := 132) hx hb dX9_way_128 (by decide) ?_
  exact wk_X9_way_132 S V hr hlocks x1 x2 x3 x4 x5   post  x6 1 _ _ _ _ h  hw (lv_sub hl [0, 1, 2, 3, 4, 5, 6] rfl)
def wp_X9_way_73 (x1 : Int32) (x2 : Int32) (x3 : Int32) (x4 : Int32) (x5 : Int32) (post : Int32 → St → Prop) : Nat → Int32 → Int32 → St → Prop
  | 0 => fun _ _ _ => False
  | n + 1 => fun x6 x7 σ => ((36 ≤ x7 → (vp_in x2 36 ∧ ((x4 < (σ 17 0 x2.toNatClampNeg) → wp_X9_way_131 x1 x2 x3 x4 x5 post x6 σ) ∧ (¬ x4 < (σ 17 0 x2.toNatClampNeg) → (vp_in x2 36 ∧ (((σ 18 0 x2.toNatClampNeg) = 0 → wp_X9_way_127 x1 x2 x3 x4 x5 post x6 σ) ∧ (¬ (σ 18 0 x2.toNatClampNeg) = 0 → (vp_in x2 36 ∧ (((σ 18 0 x2.toNatClampNeg) ≤ x6 → wp_X9_way_131 x1 x2 x3 x4 x5 post x6 σ) ∧ (¬ (σ 18 0 x2.toNatClampNeg) ≤ x6 → wp_X9_way_127 x1 x2 x3 x4 x5 post x6 σ)))))))))) ∧ (¬ 36 ≤ x7 → (vp_in x7 36 ∧ wp_X9_way_73 x1 x2 x3 x4 x5 post n x6 (x7 + 1) (su σ 19 0 x7.toNatClampNeg 268435456))))
set_option maxHeartbeats 4000000 in
set_option maxRecDepth 100000 in
theorem wk_X9_way_73 {p : Program} {l : Launch} {e : Env} {s : State} {m : MethodId} {below : List Frame} {meth : Method} {c : Code} {D : va_G} {q : ClassId × ClassId × ClassId × ClassId} {ad : Nat → Nat → Nat} {args : Array Value} (S : CallFix p m c cX9_way 13 s args GW "OnChinModel") (V : EvM D q ad s) (hr : meth.sig.returnType = (some .int)) (hlocks : meth.locks = false) (x1 : Int32) (x2 : Int32) (x3 : Int32) (x4 : Int32) (x5 : Int32) (post : Int32 → St → Prop)  : ∀ (n : Nat) (x6 : Int32) (x7 : Int32) (σ : St) (H : Heap) (locs : List Loc) (ls : Array Slot), wp_X9_way_73 x1 x2 x3 x4 x5 post n x6 x7 σ → wo D clA LM ad s.heap H locs (EM q ad σ) → lv_has ls 13 [(0, .ref (ad 0 0)), (1, .int x1), (2, .int x2), (3, .int x3), (4, .int x4), (5, .int x5), (6, .int x6), (7, .int x7)] → W p l e { frames := 2, cells := 0, slots := 0, locals := 45 } s m args below meth c H locs 0 0 (MQ below (zQi D clA LM ad (EM q ad) post) args s 0 0 (zA LM ad)) (F0 m 73 ls []) := by
  have hx := S.1
  have hb := S.2.1
  intro n
  induction n with
  | zero => intro x6 x7 σ H locs ls h; exact False.elim h
  | succ n ih =>
    intro x6 x7 σ H locs ls h  hw hl
    refine lv_iload hx hb dX9_way_73 (lv_at hl 7 rfl) ?_
    refine lv_bipush (v := 36) hx hb dX9_way_75 (by decide) ?_
    refine lv_icmp_ge (tgt := 96) hx hb dX9_way_77 (by decide) (fun hc => ?_) (fun hc => ?_)
    · have h := h.1 hc
      refine lv_aload_n hx hb dX9_way_96 rfl (lv_at hl 0 rfl) ?_
      refine gM_0_39 S V hw (Nat.le_of_ble_eq_true rfl) fl_X9_81 dX9_way_97 ?_
      refine lv_iload_n hx hb dX9_way_100 rfl (lv_at hl 2 rfl) ?_
      refine aM_17 S V hw (Nat.le_of_ble_eq_true rfl) h.1 (z := (σ 17 0 x2.toNatClampNeg)) rfl dX9_way_101 ?_
      have h := h.2
      refine lv_iload hx hb dX9_way_102 (lv_at hl 4 rfl) ?_
      refine lv_icmp_gt (tgt := 131) hx hb dX9_way_104 (by decide) (fun hc => ?_) (fun hc => ?_)
      · have h := h.1 hc
        exact wk_X9_way_131 S V hr hlocks x1 x2 x3 x4 x5   post  x6 _ _ _ _ h  hw (lv_sub hl [0, 1, 2, 3, 4, 5, 6] rfl)
      · have h := h.2 hc
        refine lv_aload_n hx hb dX9_way_107 rfl (lv_at hl 0 rfl) ?_
        refine gM_0_40 S V hw (Nat.le_of_ble_eq_true rfl) fl_X9_84 dX9_way_108 ?_
        refine lv_iload_n hx hb dX9_way_111 rfl (lv_at hl 2 rfl) ?_
        refine aM_18 S V hw (Nat.le_of_ble_eq_true rfl) h.1 (z := (σ 18 0 x2.toNatClampNeg)) rfl dX9_way_112 ?_
        have h := h.2
        refine lv_if_eq (tgt := 127) hx hb dX9_way_113 (by decide) (fun hc => ?_) (fun hc => ?_)
        · have h := h.1 hc
          exact wk_X9_way_127 S V hr hlocks x1 x2 x3 x4 x5   post  x6 _ _ _ _ h  hw (lv_sub hl [0, 1, 2, 3, 4, 5, 6] rfl)
        · have h := h.2 hc
          refine lv_aload_n hx hb dX9_way_116 rfl (lv_at hl 0 rfl) ?_
          refine gM_0_40 S V hw (Nat.le_of_ble_eq_true rfl) fl_X9_84 dX9_way_117 ?_
          refine lv_iload_n hx hb dX9_way_120 rfl (lv_at hl 2 rfl) ?_
          refine aM_18 S V hw (Nat.le_of_ble_eq_true rfl) h.1 (z := (σ 18 0 x2.toNatClampNeg)) rfl dX9_way_121 ?_
          have h := h.2
          refine lv_iload hx hb dX9_way_122 (lv_at hl 6 rfl) ?_
          refine lv_icmp_le (tgt := 131) hx hb dX9_way_124 (by decide) (fun hc => ?_) (fun hc => ?_)
          · have h := h.1 hc
            exact wk_X9_way_131 S V hr hlocks x1 x2 x3 x4 x5   post  x6 _ _ _ _ h  hw (lv_sub hl [0, 1, 2, 3, 4, 5, 6] rfl)
          · have h := h.2 hc
            exact wk_X9_way_127 S V hr hlocks x1 x2 x3 x4 x5   post  x6 _ _ _ _ h  hw (lv_sub hl [0, 1, 2, 3, 4, 5, 6] rfl)
    · have h := h.2 hc
      refine lv_aload_n hx hb dX9_way_80 rfl (lv_at hl 0 rfl) ?_
      refine gM_0_41 S V hw (Nat.le_of_ble_eq_true rfl) fl_X9_87 dX9_way_81 ?_
      refine lv_iload hx hb dX9_way_84 (lv_at hl 7 rfl) ?_
      refine lv_ldcw (v := 268435456) hx hb S.2.2.2.1 (gw_S S _ kc_X9_311) dX9_way_86 ?_
      refine sM_19 S V hw (Nat.le_of_ble_eq_true rfl) h.1 dX9_way_89 (fun H locs hw => ?_)
      have h := h.2
      refine lv_iinc (v := (x7 + 1)) (lv' := [(7, .int (x7 + 1)), (0, .ref (ad 0 0)), (1, .int x1), (2, .int x2), (3, .int x3), (4, .int x4), (5, .int x5), (6, .int x6)]) hx hb dX9_way_90 hl (k := 7) rfl rfl (by decide) rfl (fun ls hl => ?_)
      refine lv_goto (tgt := 73) hx hb dX9_way_93 (by decide) ?_
      exact ih x6 (x7 + 1) _ _ _ _ h  hw (lv_sub hl [1, 2, 3, 4, 5, 6, 7, 0] rfl)
def wp_X9_way (x1 : Int32) (x2 : Int32) (x3 : Int32) (x4 : Int32) (x5 : Int32) (post : Int32 → St → Prop)  (σ : St) : Prop := wp_X9_isThing x1 (fun r1 σ1 => ((r1 = 0 → wp_X9_way_21 x1 x2 x3 x4 x5 post  σ1) ∧ (¬ r1 = 0 → wp_X9_isCell x2 (fun r2 σ2 => ((r2 = 0 → wp_X9_way_21 x1 x2 x3 x4 x5 post  σ2) ∧ (¬ r2 = 0 → wp_X9_isCell x3 (fun r3 σ3 => ((¬ r3 = 0 → wp_X9_in (Int32.toInt64 x4) 0 99 (fun r4 σ4 => ((r4 = 0 → wp_X9_way_48 x1 x2 x3 x4 x5 post  σ4) ∧ (¬ r4 = 0 → wp_X9_in (Int32.toInt64 x5) 0 1 (fun r5 σ5 => ((¬ r5 = 0 → (vp_in x1 4 ∧ ((¬ (σ5 5 0 x1.toNatClampNeg) = 0 → wp_X9_greatest x1 (fun r6 σ6 => ∃ nn, wp_X9_way_73 x1 x2 x3 x4 x5 post nn r6 0 σ6) σ5) ∧ ((σ5 5 0 x1.toNatClampNeg) = 0 → post (-4) σ5)))) ∧ (r5 = 0 → wp_X9_way_48 x1 x2 x3 x4 x5 post  σ5))) σ4))) σ3) ∧ (r3 = 0 → wp_X9_way_21 x1 x2 x3 x4 x5 post  σ3))) σ2))) σ1))) σ
set_option maxHeartbeats 4000000 in
set_option maxRecDepth 100000 in
theorem wk_X9_way_0 {p : Program} {l : Launch} {e : Env} {s : State} {m : MethodId} {below : List Frame} {meth : Method} {c : Code} {D : va_G} {q : ClassId × ClassId × ClassId × ClassId} {ad : Nat → Nat → Nat} {args : Array Value} (S : CallFix p m c cX9_way 13 s args GW "OnChinModel") (V : EvM D q ad s) (hr : meth.sig.returnType = (some .int)) (hlocks : meth.locks = false) (x1 : Int32) (x2 : Int32) (x3 : Int32) (x4 : Int32) (x5 : Int32) (post : Int32 → St → Prop)  : ∀ (σ : St) (H : Heap) (locs : List Loc) (ls : Array Slot), wp_X9_way x1 x2 x3 x4 x5 post  σ → wo D clA LM ad s.heap H locs (EM q ad σ) → lv_has ls 13 [(0, .ref (ad 0 0)), (1, .int x1), (2, .int x2), (3, .int x3), (4, .int x4), (5, .int x5)] → W p l e { frames := 2, cells := 0, slots := 0, locals := 45 } s m args below meth c H locs 0 0 (MQ below (zQi D clA LM ad (EM q ad) post) args s 0 0 (zA LM ad)) (F0 m 0 ls []) := by
  have hx := S.1
  have hb := S.2.1
  intro  σ H locs ls h  hw hl
  have h : wp_X9_isThing x1 (fun r1 σ1 => ((r1 = 0 → wp_X9_way_21 x1 x2 x3 x4 x5 post  σ1) ∧ (¬ r1 = 0 → wp_X9_isCell x2 (fun r2 σ2 => ((r2 = 0 → wp_X9_way_21 x1 x2 x3 x4 x5 post  σ2) ∧ (¬ r2 = 0 → wp_X9_isCell x3 (fun r3 σ3 => ((¬ r3 = 0 → wp_X9_in (Int32.toInt64 x4) 0 99 (fun r4 σ4 => ((r4 = 0 → wp_X9_way_48 x1 x2 x3 x4 x5 post  σ4) ∧ (¬ r4 = 0 → wp_X9_in (Int32.toInt64 x5) 0 1 (fun r5 σ5 => ((¬ r5 = 0 → (vp_in x1 4 ∧ ((¬ (σ5 5 0 x1.toNatClampNeg) = 0 → wp_X9_greatest x1 (fun r6 σ6 => ∃ nn, wp_X9_way_73 x1 x2 x3 x4 x5 post nn r6 0 σ6) σ5) ∧ ((σ5 5 0 x1.toNatClampNeg) = 0 → post (-4) σ5)))) ∧ (r5 = 0 → wp_X9_way_48 x1 x2 x3 x4 x5 post  σ5))) σ4))) σ3) ∧ (r3 = 0 → wp_X9_way_21 x1 x2 x3 x4 x5 post  σ3))) σ2))) σ1))) σ := h
  refine lv_iload_n hx hb dX9_way_0 rfl (lv_at hl 1 rfl) ?_
  refine call_Si (As := [.int x1]) (rest := []) EvM_ok S V hw (mt_X9_isThing l D q ad x1  σ _ h) ok_X9_isThing ml_X9_192 ⟨(Nat.le_of_ble_eq_true rfl), (Nat.le_of_ble_eq_true rfl)⟩ ⟨rfl, rfl⟩ rfl hl.1 rfl (Nat.le_of_ble_eq_true rfl) dX9_way_1 (fun r1 σ1 H locs h hw => ?_)
  refine lv_if_eq (tgt := 21) hx hb dX9_way_4 (by decide) (fun hc => ?_) (fun hc => ?_)
  · have h := h.1 hc
    exact wk_X9_way_21 S V hr hlocks x1 x2 x3 x4 x5   post   _ _ _ _ h  hw (lv_sub hl [0, 1, 2, 3, 4, 5] rfl)
  · have h := h.2 hc
    refine lv_iload_n hx hb dX9_way_7 rfl (lv_at hl 2 rfl) ?_
    refine call_Si (As := [.int x2]) (rest := []) EvM_ok S V hw (mt_X9_isCell l D q ad x2  σ1 _ h) ok_X9_isCell ml_X9_323 ⟨(Nat.le_of_ble_eq_true rfl), (Nat.le_of_ble_eq_true rfl)⟩ ⟨rfl, rfl⟩ rfl hl.1 rfl (Nat.le_of_ble_eq_true rfl) dX9_way_8 (fun r2 σ2 H locs h hw => ?_)
    refine lv_if_eq (tgt := 21) hx hb dX9_way_11 (by decide) (fun hc => ?_) (fun hc => ?_)
    · have h := h.1 hc
      exact wk_X9_way_21 S V hr hlocks x1 x2 x3 x4 x5   post   _ _ _ _ h  hw (lv_sub hl [0, 1, 2, 3, 4, 5] rfl)
    · have h := h.2 hc
      refine lv_iload_n hx hb dX9_way_14 rfl (lv_at hl 3 rfl) ?_
      refine call_Si (As := [.int x3]) (rest := []) EvM_ok S V hw (mt_X9_isCell l D q ad x3  σ2 _ h) ok_X9_isCell ml_X9_323 ⟨(Nat.le_of_ble_eq_true rfl), (Nat.le_of_ble_eq_true rfl)⟩ ⟨rfl, rfl⟩ rfl hl.1 rfl (Nat.le_of_ble_eq_true rfl) dX9_way_15 (fun r3 σ3 H locs h hw => ?_)
      refine lv_if_ne (tgt := 24) hx hb dX9_way_18 (by decide) (fun hc => ?_) (fun hc => ?_)
      · have h := h.1 hc
        refine lv_iload hx hb dX9_way_24 (lv_at hl 4 rfl) ?_
        refine lv_i2l (v := (Int32.toInt64 x4)) hx hb dX9_way_26 rfl ?_
        refine lv_lconst (v := 0) hx hb dX9_way_27 (by decide) ?_
        refine lv_ldc2 (v := 99) hx hb S.2.2.2.1 (gw_S S _ kc_X9_241) dX9_way_28 ?_
        refine call_Si (As := [.long (Int32.toInt64 x4), .long 0, .long 99]) (rest := []) EvM_ok S V hw (mt_X9_in l D q ad (Int32.toInt64 x4) 0 99  σ3 _ h) ok_X9_in ml_X9_92 ⟨(Nat.le_of_ble_eq_true rfl), (Nat.le_of_ble_eq_true rfl)⟩ ⟨rfl, rfl⟩ rfl hl.1 rfl (Nat.le_of_ble_eq_true rfl) dX9_way_31 (fun r4 σ4 H locs h hw => ?_)
        refine lv_if_eq (tgt := 48) hx hb dX9_way_34 (by decide) (fun hc => ?_) (fun hc => ?_)
        · have h := h.1 hc
          exact wk_X9_way_48 S V hr hlocks x1 x2 x3 x4 x5   post   _ _ _ _ h  hw (lv_sub hl [0, 1, 2, 3, 4, 5] rfl)
        · have h := h.2 hc
          refine lv_iload hx hb dX9_way_37 (lv_at hl 5 rfl) ?_
          refine lv_i2l (v := (Int32.toInt64 x5)) hx hb dX9_way_39 rfl ?_
          refine lv_lconst (v := 0) hx hb dX9_way_40 (by decide) ?_
          refine lv_lconst (v := 1) hx hb dX9_way_41 (by decide) ?_
          refine call_Si (As := [.long (Int32.toInt64 x5), .long 0, .long 1]) (rest := []) EvM_ok S V hw (mt_X9_in l D q ad (Int32.toInt64 x5) 0 1  σ4 _ h) ok_X9_in ml_X9_92 ⟨(Nat.le_of_ble_eq_true rfl), (Nat.le_of_ble_eq_true rfl)⟩ ⟨rfl, rfl⟩ rfl hl.1 rfl (Nat.le_of_ble_eq_true rfl) dX9_way_42 (fun r5 σ5 H locs h hw => ?_)
          refine lv_if_ne (tgt := 51) hx hb dX9_way_45 (by decide) (fun hc => ?_) (fun hc => ?_)
          · have h := h.1 hc
            refine lv_aload_n hx hb dX9_way_51 rfl (lv_at hl 0 rfl) ?_
            refine gM_0_6 S V hw (Nat.le_of_ble_eq_true rfl) fl_X9_22 dX9_way_52 ?_
            refine lv_iload_n hx hb dX9_way_55 rfl (lv_at hl 1 rfl) ?_
            refine aM_5 S V hw (Nat.le_of_ble_eq_true rfl) h.1 (z := (σ5 5 0 x1.toNatClampNeg)) rfl dX9_way_56 ?_
            have h := h.2
            refine lv_if_ne (tgt := 63) hx hb dX9_way_57 (by decide) (fun hc => ?_) (fun hc => ?_)
            · have h := h.1 hc
              refine lv_aload_n hx hb dX9_way_63 rfl (lv_at hl 0 rfl) ?_
              refine lv_iload_n hx hb dX9_way_64 rfl (lv_at hl 1 rfl) ?_
              refine call_Vi (As := [.int x1]) (rest := []) EvM_ok S V hw (mt_X9_greatest l D q ad x1  σ5 _ h) ok_X9_greatest ml_X9_198 (rM_0 S V hw (Nat.le_of_ble_eq_true rfl)) ⟨(Nat.le_of_ble_eq_true rfl), (Nat.le_of_ble_eq_true rfl)⟩ ⟨rfl, rfl⟩ rfl hl.1 rfl (Nat.le_of_ble_eq_true rfl) dX9_way_65 (fun r6 σ6 H locs h hw => ?_)
              refine lv_istore (lv' := [(6, .int r6), (0, .ref (ad 0 0)), (1, .int x1), (2, .int x2), (3, .int x3), (4, .int x4), (5, .int x5)]) hx hb dX9_way_68 hl (by decide) rfl (fun ls hl => ?_)
              refine lv_iconst (v := 0) hx hb dX9_way_70 (by decide) ?_
              refine lv_istore (lv' := [(7, .int 0), (6, .int r6), (0, .ref (ad 0 0)), (1, .int x1), (2, .int x2), (3, .int x3), (4, .int x4), (5, .int x5)]) hx hb dX9_way_71 hl (by decide) rfl (fun ls hl => ?_)
              obtain ⟨n9, h⟩ := h
              exact wk_X9_way_73 S V hr hlocks x1 x2 x3 x4 x5   post  n9 r6 0 _ _ _ _ h  hw (lv_sub hl [2, 3, 4, 5, 6, 7, 1, 0] rfl)
            · have h := h.2 hc
              refine lv_bipush (v := (-4)) hx hb dX9_way_60 (by decide) ?_
              exact ret_i S hr hlocks hw h dX9_way_62
          · have h := h.2 hc
            exact wk_X9_way_48 S V hr hlocks x1 x2 x3 x4 x5   post   _ _ _ _ h  hw (lv_sub hl [0, 1, 2, 3, 4, 5] rfl)
      · have h := h.2 hc
        exact wk_X9_way_21 S V hr hlocks x1 x2 x3 x4 x5   post   _ _ _ _ h  hw (lv_sub hl [0, 1, 2, 3, 4, 5] rfl)
theorem mt_X9_way (l : Launch) (D : va_G) (q : ClassId × ClassId × ClassId × ClassId) (ad : Nat → Nat → Nat) (x1 : Int32) (x2 : Int32) (x3 : Int32) (x4 : Int32) (x5 : Int32) (σ : St) (post : Int32 → St → Prop) (h : wp_X9_way x1 x2 x3 x4 x5 post σ) : cI l D clA LM ad (EM q ad) (EvM D q ad) yX9_way cX9_way 13 (some .int) { frames := 2, cells := 0, slots := 0, locals := 45 } [.ref (ad 0 0), .int x1, .int x2, .int x3, .int x4, .int x5] σ post :=
  ent_i (by decide) (Nat.le_of_ble_eq_true rfl) (fun p e s m below meth c S V hr hlocks hw ls hl => wk_X9_way_0 S V hr hlocks x1 x2 x3 x4 x5  post   σ _ _ ls h  hw (lv_sub hl [0, 1, 2, 3, 4, 5] rfl))
def wp_X9_count (x1 : Int32) (post : Int32 → St → Prop)  (σ : St) : Prop := ((x1 = 0 → post (σ 0 0 8) σ) ∧ (¬ x1 = 0 → ((x1 = 1 → post (σ 0 0 9) σ) ∧ (¬ x1 = 1 → ((x1 = 2 → post (σ 0 0 10) σ) ∧ (¬ x1 = 2 → ((x1 = 3 → post (σ 0 0 11) σ) ∧ (¬ x1 = 3 → ((x1 = 4 → post (σ 0 0 12) σ) ∧ (¬ x1 = 4 → ((x1 = 5 → post (σ 0 0 13) σ) ∧ (¬ x1 = 5 → ((x1 = 6 → post (σ 0 0 14) σ) ∧ (¬ x1 = 6 → ((x1 = 7 → post (σ 0 0 15) σ) ∧ (¬ x1 = 7 → ((x1 = 8 → post (σ 0 0 16) σ) ∧ (¬ x1 = 8 → ((x1 = 9 → post (σ 0 0 17) σ) ∧ (¬ x1 = 9 → ((x1 = 10 → post (σ 0 0 37) σ) ∧ (¬ x1 = 10 → ((x1 = 11 → post (σ 0 0 1) σ) ∧ (¬ x1 = 11 → post (-3) σ))))))))))))))))))))))))
set_option maxHeartbeats 4000000 in
set_option maxRecDepth 100000 in
theorem wk_X9_count_0 {p : Program} {l : Launch} {e : Env} {s : State} {m : MethodId} {below : List Frame} {meth : Method} {c : Code} {D : va_G} {q : ClassId × ClassId × ClassId × ClassId} {ad : Nat → Nat → Nat} {args : Array Value} (S : CallFix p m c cX9_count 2 s args GW "OnChinModel") (V : EvM D q ad s) (hr : meth.sig.returnType = (some .int)) (hlocks : meth.locks = false) (x1 : Int32) (post : Int32 → St → Prop)  : ∀ (σ : St) (H : Heap) (locs : List Loc) (ls : Array Slot), wp_X9_count x1 post  σ → wo D clA LM ad s.heap H locs (EM q ad σ) → lv_has ls 2 [(0, .ref (ad 0 0)), (1, .int x1)] → W p l e { frames := 0, cells := 0, slots := 0, locals := 0 } s m args below meth c H locs 0 0 (MQ below (zQi D clA LM ad (EM q ad) post) args s 0 0 (zA LM ad)) (F0 m 0 ls []) := by
  have hx := S.1
  have hb := S.2.1
  intro  σ H locs ls h  hw hl
  refine lv_iload_n hx hb dX9_count_0 rfl (lv_at hl 1 rfl) ?_
  by_cases hc0 : x1 = 0
  · have h := h.1 hc0
    refine lv_tableIn (tgt := 64) hx hb dX9_count_1 (by rw [hc0]; decide) (by rw [hc0]; decide) (by rw [hc0]; rfl) (by decide) ?_
    refine lv_aload_n hx hb dX9_count_64 rfl (lv_at hl 0 rfl) ?_
    refine gM_0_8 S V hw (Nat.le_of_ble_eq_true rfl) fl_X9_28 rfl dX9_count_65 ?_
    exact ret_i S hr hlocks hw h dX9_count_68
  · have h := h.2 hc0
    by_cases hc1 : x1 = 1
    · have h := h.1 hc1
      refine lv_tableIn (tgt := 69) hx hb dX9_count_1 (by rw [hc1]; decide) (by rw [hc1]; decide) (by rw [hc1]; rfl) (by decide) ?_
      refine lv_aload_n hx hb dX9_count_69 rfl (lv_at hl 0 rfl) ?_
      refine gM_0_9 S V hw (Nat.le_of_ble_eq_true rfl) fl_X9_32 rfl dX9_count_70 ?_
      exact ret_i S hr hlocks hw h dX9_count_73
    · have h := h.2 hc1
      by_cases hc2 : x1 = 2
      · have h := h.1 hc2
        refine lv_tableIn (tgt := 74) hx hb dX9_count_1 (by rw [hc2]; decide) (by rw [hc2]; decide) (by rw [hc2]; rfl) (by decide) ?_
        refine lv_aload_n hx hb dX9_count_74 rfl (lv_at hl 0 rfl) ?_
        refine gM_0_10 S V hw (Nat.le_of_ble_eq_true rfl) fl_X9_35 rfl dX9_count_75 ?_
        exact ret_i S hr hlocks hw h dX9_count_78
      · have h := h.2 hc2
        by_cases hc3 : x1 = 3
        · have h := h.1 hc3
          refine lv_tableIn (tgt := 79) hx hb dX9_count_1 (by rw [hc3]; decide) (by rw [hc3]; decide) (by rw [hc3]; rfl) (by decide) ?_
          refine lv_aload_n hx hb dX9_count_79 rfl (lv_at hl 0 rfl) ?_
          refine gM_0_11 S V hw (Nat.le_of_ble_eq_true rfl) fl_X9_38 rfl dX9_count_80 ?_
          exact ret_i S hr hlocks hw h dX9_count_83
        · have h := h.2 hc3
          by_cases hc4 : x1 = 4
          · have h := h.1 hc4
            refine lv_tableIn (tgt := 84) hx hb dX9_count_1 (by rw [hc4]; decide) (by rw [hc4]; decide) (by rw [hc4]; rfl) (by decide) ?_
            refine lv_aload_n hx hb dX9_count_84 rfl (lv_at hl 0 rfl) ?_
            refine gM_0_12 S V hw (Nat.le_of_ble_eq_true rfl) fl_X9_174 rfl dX9_count_85 ?_
            exact ret_i S hr hlocks hw h dX9_count_88
          · have h := h.2 hc4
            by_cases hc5 : x1 = 5
            · have h := h.1 hc5
              refine lv_tableIn (tgt := 89) hx hb dX9_count_1 (by rw [hc5]; decide) (by rw [hc5]; decide) (by rw [hc5]; rfl) (by decide) ?_
              refine lv_aload_n hx hb dX9_count_89 rfl (lv_at hl 0 rfl) ?_
              refine gM_0_13 S V hw (Nat.le_of_ble_eq_true rfl) fl_X9_41 rfl dX9_count_90 ?_
              exact ret_i S hr hlocks hw h dX9_count_93
            · have h := h.2 hc5
              by_cases hc6 : x1 = 6
              · have h := h.1 hc6
                refine lv_tableIn (tgt := 94) hx hb dX9_count_1 (by rw [hc6]; decide) (by rw [hc6]; decide) (by rw [hc6]; rfl) (by decide) ?_
                refine lv_aload_n hx hb dX9_count_94 rfl (lv_at hl 0 rfl) ?_
                refine gM_0_14 S V hw (Nat.le_of_ble_eq_true rfl) fl_X9_44 rfl dX9_count_95 ?_
                exact ret_i S hr hlocks hw h dX9_count_98
              · have h := h.2 hc6
                by_cases hc7 : x1 = 7
                · have h := h.1 hc7
                  refine lv_tableIn (tgt := 99) hx hb dX9_count_1 (by rw [hc7]; decide) (by rw [hc7]; decide) (by rw [hc7]; rfl) (by decide) ?_
                  refine lv_aload_n hx hb dX9_count_99 rfl (lv_at hl 0 rfl) ?_
                  refine gM_0_15 S V hw (Nat.le_of_ble_eq_true rfl) fl_X9_47 rfl dX9_count_100 ?_
                  exact ret_i S hr hlocks hw h dX9_count_103
                · have h := h.2 hc7
                  by_cases hc8 : x1 = 8
                  · have h := h.1 hc8
                    refine lv_tableIn (tgt := 104) hx hb dX9_count_1 (by rw [hc8]; decide) (by rw [hc8]; decide) (by rw [hc8]; rfl) (by decide) ?_
                    refine lv_aload_n hx hb dX9_count_104 rfl (lv_at hl 0 rfl) ?_
                    refine gM_0_16 S V hw (Nat.le_of_ble_eq_true rfl) fl_X9_177 rfl dX9_count_105 ?_
                    exact ret_i S hr hlocks hw h dX9_count_108
                  · have h := h.2 hc8
                    by_cases hc9 : x1 = 9
                    · have h := h.1 hc9
                      refine lv_tableIn (tgt := 109) hx hb dX9_count_1 (by rw [hc9]; decide) (by rw [hc9]; decide) (by rw [hc9]; rfl) (by decide) ?_
                      refine lv_aload_n hx hb dX9_count_109 rfl (lv_at hl 0 rfl) ?_
                      refine gM_0_17 S V hw (Nat.le_of_ble_eq_true rfl) fl_X9_180 rfl dX9_count_110 ?_
                      exact ret_i S hr hlocks hw h dX9_count_113
                    · have h := h.2 hc9
                      by_cases hc10 : x1 = 10
                      · have h := h.1 hc10
                        refine lv_tableIn (tgt := 114) hx hb dX9_count_1 (by rw [hc10]; decide) (by rw [hc10]; decide) (by rw [hc10]; rfl) (by decide) ?_
                        refine lv_aload_n hx hb dX9_count_114 rfl (lv_at hl 0 rfl) ?_
                        refine gM_0_37 S V hw (Nat.le_of_ble_eq_true rfl) fl_X9_302 rfl dX9_count_115 ?_
                        exact ret_i S hr hlocks hw h dX9_count_118
                      · have h := h.2 hc10
                        by_cases hc11 : x1 = 11
                        · have h := h.1 hc11
                          refine lv_tableIn (tgt := 119) hx hb dX9_count_1 (by rw [hc11]; decide) (by rw [hc11]; decide) (by rw [hc11]; rfl) (by decide) ?_
                          refine lv_aload_n hx hb dX9_count_119 rfl (lv_at hl 0 rfl) ?_
                          refine gM_0_1 S V hw (Nat.le_of_ble_eq_true rfl) fl_X9_96 rfl dX9_count_120 ?_
                          exact ret_i S hr hlocks hw h dX9_count_123
                        · have h := h.2 hc11
                          refine lv_tableOut (tgt := 124) hx hb dX9_count_1 (by have e0 := lv_neT (k := 0) (a := 0) hc0 rfl; have e1 := lv_neT (k := 1) (a := 1) hc1 rfl; have e2 := lv_neT (k := 2) (a := 2) hc2 rfl; have e3 := lv_neT (k := 3) (a := 3) hc3 rfl; have e4 := lv_neT (k := 4) (a := 4) hc4 rfl; have e5 := lv_neT (k := 5) (a := 5) hc5 rfl; have e6 := lv_neT (k := 6) (a := 6) hc6 rfl; have e7 := lv_neT (k := 7) (a := 7) hc7 rfl; have e8 := lv_neT (k := 8) (a := 8) hc8 rfl; have e9 := lv_neT (k := 9) (a := 9) hc9 rfl; have e10 := lv_neT (k := 10) (a := 10) hc10 rfl; have e11 := lv_neT (k := 11) (a := 11) hc11 rfl; omega) (by decide) ?_
                          refine lv_bipush (v := (-3)) hx hb dX9_count_124 (by decide) ?_
                          exact ret_i S hr hlocks hw h dX9_count_126
theorem mt_X9_count (l : Launch) (D : va_G) (q : ClassId × ClassId × ClassId × ClassId) (ad : Nat → Nat → Nat) (x1 : Int32) (σ : St) (post : Int32 → St → Prop) (h : wp_X9_count x1 post σ) : cI l D clA LM ad (EM q ad) (EvM D q ad) yX9_count cX9_count 2 (some .int) { frames := 0, cells := 0, slots := 0, locals := 0 } [.ref (ad 0 0), .int x1] σ post :=
  ent_i (by decide) (Nat.le_of_ble_eq_true rfl) (fun p e s m below meth c S V hr hlocks hw ls hl => wk_X9_count_0 S V hr hlocks x1  post   σ _ _ ls h  hw (lv_sub hl [0, 1] rfl))
