def wp_X5_append_30 (x1 : Int32) (post : St → Prop)  (σ : St) : Prop := post σ
set_option maxHeartbeats 4000000 in
set_option maxRecDepth 100000 in
theorem wk_X5_append_30 {p : Program} {l : Launch} {e : Env} {s : State} {m : MethodId} {below : List Frame} {meth : Method} {c : Code} {D : va_G} {q : ClassId × ClassId × ClassId × ClassId} {ad : Nat → Nat → Nat} {t : Nat × Nat} {aK aV : Nat → Nat} {args : Array Value} (S : CallFix p m c cX5_append 2 s args GW "OnChin$Text") (V : EvC D q ad t aK aV s) (hr : meth.sig.returnType = none) (hlocks : meth.locks = false) (x1 : Int32) (post : St → Prop)  : ∀ (σ : St) (H : Heap) (locs : List Loc) (ls : Array Slot), wp_X5_append_30 x1 post  σ → wo D clA LC ad s.heap H locs (EC q ad σ) → lv_has ls 2 [(0, .ref (ad 7 0)), (1, .int x1)] → W p l e { frames := 0, cells := 0, slots := 0, locals := 0 } s m args below meth c H locs 0 0 (MQ below (zQv D clA LC ad (EC q ad) post) args s 0 0 (zA LC ad)) (F0 m 30 ls []) := by
  have hx := S.1
  have hb := S.2.1
  intro  σ H locs ls h  hw hl
  exact ret_v S hr hlocks hw h dX5_append_30
def wp_X5_append (x1 : Int32) (post : St → Prop)  (σ : St) : Prop := ((200 ≤ (σ 7 0 1) → wp_X5_append_30 x1 post  σ) ∧ (¬ 200 ≤ (σ 7 0 1) → (vp_in (σ 7 0 1) 200 ∧ wp_X5_append_30 x1 post  (su (su σ 8 0 ((σ 7 0 1).toNatClampNeg) x1) 7 0 1 ((σ 7 0 1) + 1)))))
set_option maxHeartbeats 4000000 in
set_option maxRecDepth 100000 in
theorem wk_X5_append_0 {p : Program} {l : Launch} {e : Env} {s : State} {m : MethodId} {below : List Frame} {meth : Method} {c : Code} {D : va_G} {q : ClassId × ClassId × ClassId × ClassId} {ad : Nat → Nat → Nat} {t : Nat × Nat} {aK aV : Nat → Nat} {args : Array Value} (S : CallFix p m c cX5_append 2 s args GW "OnChin$Text") (V : EvC D q ad t aK aV s) (hr : meth.sig.returnType = none) (hlocks : meth.locks = false) (x1 : Int32) (post : St → Prop)  : ∀ (σ : St) (H : Heap) (locs : List Loc) (ls : Array Slot), wp_X5_append x1 post  σ → wo D clA LC ad s.heap H locs (EC q ad σ) → lv_has ls 2 [(0, .ref (ad 7 0)), (1, .int x1)] → W p l e { frames := 0, cells := 0, slots := 0, locals := 0 } s m args below meth c H locs 0 0 (MQ below (zQv D clA LC ad (EC q ad) post) args s 0 0 (zA LC ad)) (F0 m 0 ls []) := by
  have hx := S.1
  have hb := S.2.1
  intro  σ H locs ls h  hw hl
  refine lv_aload_n hx hb dX5_append_0 rfl (lv_at hl 0 rfl) ?_
  refine gC_7_1 S V hw (Nat.le_of_ble_eq_true rfl) fl_X5_15 rfl dX5_append_1 ?_
  refine lv_sipush (v := 200) hx hb dX5_append_4 (by decide) ?_
  refine lv_icmp_ge (tgt := 30) hx hb dX5_append_7 (by decide) (fun hc => ?_) (fun hc => ?_)
  · have h := h.1 hc
    exact wk_X5_append_30 S V hr hlocks x1   post   _ _ _ _ h  hw (lv_sub hl [0, 1] rfl)
  · have h := h.2 hc
    refine lv_aload_n hx hb dX5_append_10 rfl (lv_at hl 0 rfl) ?_
    refine gC_7_0 S V hw (Nat.le_of_ble_eq_true rfl) fl_X5_9 dX5_append_11 ?_
    refine lv_aload_n hx hb dX5_append_14 rfl (lv_at hl 0 rfl) ?_
    refine gC_7_1 S V hw (Nat.le_of_ble_eq_true rfl) fl_X5_15 rfl dX5_append_15 ?_
    refine lv_iload_n hx hb dX5_append_18 rfl (lv_at hl 1 rfl) ?_
    refine sC_8 S V hw (Nat.le_of_ble_eq_true rfl) h.1 dX5_append_19 (fun H locs hw => ?_)
    have h := h.2
    refine lv_aload_n hx hb dX5_append_20 rfl (lv_at hl 0 rfl) ?_
    refine lv_dup hx hb dX5_append_21 rfl ?_
    refine gC_7_1 S V hw (Nat.le_of_ble_eq_true rfl) fl_X5_15 (su_nc rfl) dX5_append_22 ?_
    refine lv_iconst (v := 1) hx hb dX5_append_25 (by decide) ?_
    refine lv_iadd hx hb dX5_append_26 ?_
    refine pC_7_1 S V hw (Nat.le_of_ble_eq_true rfl) fl_X5_15 dX5_append_27 (fun H locs hw => ?_)
    exact wk_X5_append_30 S V hr hlocks x1   post   _ _ _ _ h  hw (lv_sub hl [0, 1] rfl)
theorem mt_X5_append (l : Launch) (D : va_G) (q : ClassId × ClassId × ClassId × ClassId) (ad : Nat → Nat → Nat) (t : Nat × Nat) (aK aV : Nat → Nat) (x1 : Int32) (σ : St) (post : St → Prop) (h : wp_X5_append x1 post σ) : cV l D clA LC ad (EC q ad) (EvC D q ad t aK aV) yX5_append cX5_append 2 none { frames := 0, cells := 0, slots := 0, locals := 0 } [.ref (ad 7 0), .int x1] σ post :=
  ent_v (by decide) (Nat.le_of_ble_eq_true rfl) (fun p e s m below meth c S V hr hlocks hw ls hl => wk_X5_append_0 S V hr hlocks x1  post   σ _ _ ls h  hw (lv_sub hl [0, 1] rfl))
def wp_X5_sort_31 (x0 : Int32) (post : Int32 → St → Prop) (xs0 : Int32) (σ : St) : Prop := post xs0 σ
set_option maxHeartbeats 4000000 in
set_option maxRecDepth 100000 in
theorem wk_X5_sort_31 {p : Program} {l : Launch} {e : Env} {s : State} {m : MethodId} {below : List Frame} {meth : Method} {c : Code} {D : va_G} {q : ClassId × ClassId × ClassId × ClassId} {ad : Nat → Nat → Nat} {t : Nat × Nat} {aK aV : Nat → Nat} {args : Array Value} (S : CallFix p m c cX5_sort 1 s args GW "OnChin$Text") (V : EvC D q ad t aK aV s) (hr : meth.sig.returnType = (some .int)) (hlocks : meth.locks = false) (x0 : Int32) (post : Int32 → St → Prop)  : ∀ (xs0 : Int32) (σ : St) (H : Heap) (locs : List Loc) (ls : Array Slot), wp_X5_sort_31 x0 post xs0 σ → wo D clA LC ad s.heap H locs (EC q ad σ) → lv_has ls 1 [(0, .int x0)] → W p l e { frames := 0, cells := 0, slots := 0, locals := 0 } s m args below meth c H locs 0 0 (MQ below (zQi D clA LC ad (EC q ad) post) args s 0 0 (zA LC ad)) (F0 m 31 ls [.int xs0]) := by
  have hx := S.1
  have hb := S.2.1
  intro xs0 σ H locs ls h  hw hl
  exact ret_i S hr hlocks hw h dX5_sort_31
def wp_X5_sort_30 (x0 : Int32) (post : Int32 → St → Prop)  (σ : St) : Prop := wp_X5_sort_31 x0 post 3 σ
set_option maxHeartbeats 4000000 in
set_option maxRecDepth 100000 in
theorem wk_X5_sort_30 {p : Program} {l : Launch} {e : Env} {s : State} {m : MethodId} {below : List Frame} {meth : Method} {c : Code} {D : va_G} {q : ClassId × ClassId × ClassId × ClassId} {ad : Nat → Nat → Nat} {t : Nat × Nat} {aK aV : Nat → Nat} {args : Array Value} (S : CallFix p m c cX5_sort 1 s args GW "OnChin$Text") (V : EvC D q ad t aK aV s) (hr : meth.sig.returnType = (some .int)) (hlocks : meth.locks = false) (x0 : Int32) (post : Int32 → St → Prop)  : ∀ (σ : St) (H : Heap) (locs : List Loc) (ls : Array Slot), wp_X5_sort_30 x0 post  σ → wo D clA LC ad s.heap H locs (EC q ad σ) → lv_has ls 1 [(0, .int x0)] → W p l e { frames := 0, cells := 0, slots := 0, locals := 0 } s m args below meth c H locs 0 0 (MQ below (zQi D clA LC ad (EC q ad) post) args s 0 0 (zA LC ad)) (F0 m 30 ls []) := by
  have hx := S.1
  have hb := S.2.1
  intro  σ H locs ls h  hw hl
  have h : wp_X5_sort_31 x0 post 3 σ := h
  refine lv_iconst (v := 3) hx hb dX5_sort_30 (by decide) ?_
  exact wk_X5_sort_31 S V hr hlocks x0   post  3 _ _ _ _ h  hw (lv_sub hl [0] rfl)
def wp_X5_sort_14 (x0 : Int32) (post : Int32 → St → Prop)  (σ : St) : Prop := ((x0 < 48 → wp_X5_sort_30 x0 post  σ) ∧ (¬ x0 < 48 → ((57 < x0 → wp_X5_sort_30 x0 post  σ) ∧ (¬ 57 < x0 → wp_X5_sort_31 x0 post 2 σ))))
set_option maxHeartbeats 4000000 in
set_option maxRecDepth 100000 in
theorem wk_X5_sort_14 {p : Program} {l : Launch} {e : Env} {s : State} {m : MethodId} {below : List Frame} {meth : Method} {c : Code} {D : va_G} {q : ClassId × ClassId × ClassId × ClassId} {ad : Nat → Nat → Nat} {t : Nat × Nat} {aK aV : Nat → Nat} {args : Array Value} (S : CallFix p m c cX5_sort 1 s args GW "OnChin$Text") (V : EvC D q ad t aK aV s) (hr : meth.sig.returnType = (some .int)) (hlocks : meth.locks = false) (x0 : Int32) (post : Int32 → St → Prop)  : ∀ (σ : St) (H : Heap) (locs : List Loc) (ls : Array Slot), wp_X5_sort_14 x0 post  σ → wo D clA LC ad s.heap H locs (EC q ad σ) → lv_has ls 1 [(0, .int x0)] → W p l e { frames := 0, cells := 0, slots := 0, locals := 0 } s m args below meth c H locs 0 0 (MQ below (zQi D clA LC ad (EC q ad) post) args s 0 0 (zA LC ad)) (F0 m 14 ls []) := by
  have hx := S.1
  have hb := S.2.1
  intro  σ H locs ls h  hw hl
  refine lv_iload_n hx hb dX5_sort_14 rfl (lv_at hl 0 rfl) ?_
  refine lv_bipush (v := 48) hx hb dX5_sort_15 (by decide) ?_
  refine lv_icmp_lt (tgt := 30) hx hb dX5_sort_17 (by decide) (fun hc => ?_) (fun hc => ?_)
  · have h := h.1 hc
    exact wk_X5_sort_30 S V hr hlocks x0   post   _ _ _ _ h  hw (lv_sub hl [0] rfl)
  · have h := h.2 hc
    refine lv_iload_n hx hb dX5_sort_20 rfl (lv_at hl 0 rfl) ?_
    refine lv_bipush (v := 57) hx hb dX5_sort_21 (by decide) ?_
    refine lv_icmp_gt (tgt := 30) hx hb dX5_sort_23 (by decide) (fun hc => ?_) (fun hc => ?_)
    · have h := h.1 hc
      exact wk_X5_sort_30 S V hr hlocks x0   post   _ _ _ _ h  hw (lv_sub hl [0] rfl)
    · have h := h.2 hc
      refine lv_iconst (v := 2) hx hb dX5_sort_26 (by decide) ?_
      refine lv_goto (tgt := 31) hx hb dX5_sort_27 (by decide) ?_
      exact wk_X5_sort_31 S V hr hlocks x0   post  2 _ _ _ _ h  hw (lv_sub hl [0] rfl)
def wp_X5_sort (x0 : Int32) (post : Int32 → St → Prop)  (σ : St) : Prop := ((x0 < 97 → wp_X5_sort_14 x0 post  σ) ∧ (¬ x0 < 97 → ((122 < x0 → wp_X5_sort_14 x0 post  σ) ∧ (¬ 122 < x0 → post 1 σ))))
set_option maxHeartbeats 4000000 in
set_option maxRecDepth 100000 in
theorem wk_X5_sort_0 {p : Program} {l : Launch} {e : Env} {s : State} {m : MethodId} {below : List Frame} {meth : Method} {c : Code} {D : va_G} {q : ClassId × ClassId × ClassId × ClassId} {ad : Nat → Nat → Nat} {t : Nat × Nat} {aK aV : Nat → Nat} {args : Array Value} (S : CallFix p m c cX5_sort 1 s args GW "OnChin$Text") (V : EvC D q ad t aK aV s) (hr : meth.sig.returnType = (some .int)) (hlocks : meth.locks = false) (x0 : Int32) (post : Int32 → St → Prop)  : ∀ (σ : St) (H : Heap) (locs : List Loc) (ls : Array Slot), wp_X5_sort x0 post  σ → wo D clA LC ad s.heap H locs (EC q ad σ) → lv_has ls 1 [(0, .int x0)] → W p l e { frames := 0, cells := 0, slots := 0, locals := 0 } s m args below meth c H locs 0 0 (MQ below (zQi D clA LC ad (EC q ad) post) args s 0 0 (zA LC ad)) (F0 m 0 ls []) := by
  have hx := S.1
  have hb := S.2.1
  intro  σ H locs ls h  hw hl
  refine lv_iload_n hx hb dX5_sort_0 rfl (lv_at hl 0 rfl) ?_
  refine lv_bipush (v := 97) hx hb dX5_sort_1 (by decide) ?_
  refine lv_icmp_lt (tgt := 14) hx hb dX5_sort_3 (by decide) (fun hc => ?_) (fun hc => ?_)
  · have h := h.1 hc
    exact wk_X5_sort_14 S V hr hlocks x0   post   _ _ _ _ h  hw (lv_sub hl [0] rfl)
  · have h := h.2 hc
    refine lv_iload_n hx hb dX5_sort_6 rfl (lv_at hl 0 rfl) ?_
    refine lv_bipush (v := 122) hx hb dX5_sort_7 (by decide) ?_
    refine lv_icmp_gt (tgt := 14) hx hb dX5_sort_9 (by decide) (fun hc => ?_) (fun hc => ?_)
    · have h := h.1 hc
      exact wk_X5_sort_14 S V hr hlocks x0   post   _ _ _ _ h  hw (lv_sub hl [0] rfl)
    · have h := h.2 hc
      refine lv_iconst (v := 1) hx hb dX5_sort_12 (by decide) ?_
      exact ret_i S hr hlocks hw h dX5_sort_13
theorem mt_X5_sort (l : Launch) (D : va_G) (q : ClassId × ClassId × ClassId × ClassId) (ad : Nat → Nat → Nat) (t : Nat × Nat) (aK aV : Nat → Nat) (x0 : Int32) (σ : St) (post : Int32 → St → Prop) (h : wp_X5_sort x0 post σ) : cI l D clA LC ad (EC q ad) (EvC D q ad t aK aV) yX5_sort cX5_sort 1 (some .int) { frames := 0, cells := 0, slots := 0, locals := 0 } [.int x0] σ post :=
  ent_i (by decide) (Nat.le_of_ble_eq_true rfl) (fun p e s m below meth c S V hr hlocks hw ls hl => wk_X5_sort_0 S V hr hlocks x0  post   σ _ _ ls h  hw (lv_sub hl [0] rfl))
def wp_X5_readToken_153 (post : St → Prop)  (σ : St) : Prop := post σ
set_option maxHeartbeats 4000000 in
set_option maxRecDepth 100000 in
theorem wk_X5_readToken_153 {p : Program} {l : Launch} {e : Env} {s : State} {m : MethodId} {below : List Frame} {meth : Method} {c : Code} {D : va_G} {q : ClassId × ClassId × ClassId × ClassId} {ad : Nat → Nat → Nat} {t : Nat × Nat} {aK aV : Nat → Nat} {args : Array Value} (S : CallFix p m c cX5_readToken 1 s args GW "OnChin$Text") (V : EvC D q ad t aK aV s) (hr : meth.sig.returnType = none) (hlocks : meth.locks = false) (post : St → Prop)  : ∀ (σ : St) (H : Heap) (locs : List Loc) (ls : Array Slot), wp_X5_readToken_153 post  σ → wo D clA LC ad s.heap H locs (EC q ad σ) → lv_has ls 1 [(0, .ref (ad 7 0))] → W p l e { frames := 1, cells := 0, slots := 0, locals := 21 } s m args below meth c H locs 0 0 (MQ below (zQv D clA LC ad (EC q ad) post) args s 0 0 (zA LC ad)) (F0 m 153 ls []) := by
  have hx := S.1
  have hb := S.2.1
  intro  σ H locs ls h  hw hl
  exact ret_v S hr hlocks hw h dX5_readToken_153
def wp_X5_readToken_110 (post : St → Prop) : Nat → St → Prop
  | 0 => fun  _ => False
  | n + 1 => fun  σ => (((σ 7 0 1) ≤ (σ 7 0 10) → wp_X5_readToken_153 post  σ) ∧ (¬ (σ 7 0 1) ≤ (σ 7 0 10) → (vp_in (σ 7 0 10) 200 ∧ wp_X5_sort (σ 8 0 ((σ 7 0 10).toNatClampNeg)) (fun r1 σ1 => ((¬ r1 = (σ1 7 0 8) → wp_X5_readToken_153 post  σ1) ∧ (r1 = (σ1 7 0 8) → wp_X5_readToken_110 post n  (su σ1 7 0 10 ((σ1 7 0 10) + 1))))) σ)))
set_option maxHeartbeats 4000000 in
set_option maxRecDepth 100000 in
theorem wk_X5_readToken_110 {p : Program} {l : Launch} {e : Env} {s : State} {m : MethodId} {below : List Frame} {meth : Method} {c : Code} {D : va_G} {q : ClassId × ClassId × ClassId × ClassId} {ad : Nat → Nat → Nat} {t : Nat × Nat} {aK aV : Nat → Nat} {args : Array Value} (S : CallFix p m c cX5_readToken 1 s args GW "OnChin$Text") (V : EvC D q ad t aK aV s) (hr : meth.sig.returnType = none) (hlocks : meth.locks = false) (post : St → Prop)  : ∀ (n : Nat) (σ : St) (H : Heap) (locs : List Loc) (ls : Array Slot), wp_X5_readToken_110 post n  σ → wo D clA LC ad s.heap H locs (EC q ad σ) → lv_has ls 1 [(0, .ref (ad 7 0))] → W p l e { frames := 1, cells := 0, slots := 0, locals := 21 } s m args below meth c H locs 0 0 (MQ below (zQv D clA LC ad (EC q ad) post) args s 0 0 (zA LC ad)) (F0 m 110 ls []) := by
  have hx := S.1
  have hb := S.2.1
  intro n
  induction n with
  | zero => intro  σ H locs ls h; exact False.elim h
  | succ n ih =>
    intro  σ H locs ls h  hw hl
    refine lv_aload_n hx hb dX5_readToken_110 rfl (lv_at hl 0 rfl) ?_
    refine gC_7_10 S V hw (Nat.le_of_ble_eq_true rfl) fl_X5_43 rfl dX5_readToken_111 ?_
    refine lv_aload_n hx hb dX5_readToken_114 rfl (lv_at hl 0 rfl) ?_
    refine gC_7_1 S V hw (Nat.le_of_ble_eq_true rfl) fl_X5_15 rfl dX5_readToken_115 ?_
    refine lv_icmp_ge (tgt := 153) hx hb dX5_readToken_118 (by decide) (fun hc => ?_) (fun hc => ?_)
    · have h := h.1 hc
      exact wk_X5_readToken_153 S V hr hlocks    post   _ _ _ _ h  hw (lv_sub hl [0] rfl)
    · have h := h.2 hc
      refine lv_aload_n hx hb dX5_readToken_121 rfl (lv_at hl 0 rfl) ?_
      refine gC_7_0 S V hw (Nat.le_of_ble_eq_true rfl) fl_X5_9 dX5_readToken_122 ?_
      refine lv_aload_n hx hb dX5_readToken_125 rfl (lv_at hl 0 rfl) ?_
      refine gC_7_10 S V hw (Nat.le_of_ble_eq_true rfl) fl_X5_43 rfl dX5_readToken_126 ?_
      refine aC_8 S V hw (Nat.le_of_ble_eq_true rfl) h.1 (z := (σ 8 0 ((σ 7 0 10).toNatClampNeg))) rfl dX5_readToken_129 ?_
      have h := h.2
      refine call_Si (As := [.int (σ 8 0 ((σ 7 0 10).toNatClampNeg))]) (rest := []) EvC_ok S V hw (mt_X5_sort l D q ad t aK aV (σ 8 0 ((σ 7 0 10).toNatClampNeg))  σ _ h) ok_X5_sort ml_X5_63 ⟨(Nat.le_of_ble_eq_true rfl), (Nat.le_of_ble_eq_true rfl)⟩ ⟨rfl, rfl⟩ rfl hl.1 rfl (Nat.le_of_ble_eq_true rfl) dX5_readToken_130 (fun r1 σ1 H locs h hw => ?_)
      refine lv_aload_n hx hb dX5_readToken_133 rfl (lv_at hl 0 rfl) ?_
      refine gC_7_8 S V hw (Nat.le_of_ble_eq_true rfl) fl_X5_37 rfl dX5_readToken_134 ?_
      refine lv_icmp_ne (tgt := 153) hx hb dX5_readToken_137 (by decide) (fun hc => ?_) (fun hc => ?_)
      · have h := h.1 hc
        exact wk_X5_readToken_153 S V hr hlocks    post   _ _ _ _ h  hw (lv_sub hl [0] rfl)
      · have h := h.2 hc
        refine lv_aload_n hx hb dX5_readToken_140 rfl (lv_at hl 0 rfl) ?_
        refine lv_dup hx hb dX5_readToken_141 rfl ?_
        refine gC_7_10 S V hw (Nat.le_of_ble_eq_true rfl) fl_X5_43 rfl dX5_readToken_142 ?_
        refine lv_iconst (v := 1) hx hb dX5_readToken_145 (by decide) ?_
        refine lv_iadd hx hb dX5_readToken_146 ?_
        refine pC_7_10 S V hw (Nat.le_of_ble_eq_true rfl) fl_X5_43 dX5_readToken_147 (fun H locs hw => ?_)
        refine lv_goto (tgt := 110) hx hb dX5_readToken_150 (by decide) ?_
        exact ih  _ _ _ _ h  hw (lv_sub hl [0] rfl)
def wp_X5_readToken_74 (post : St → Prop) (xs1 : Int32) (σ : St) : Prop := ((xs1 = 1 → ∃ nn, wp_X5_readToken_110 post nn  (su (su σ 7 0 8 xs1) 7 0 10 (if (σ 7 0 1) < ((σ 7 0 9) + 1) then (σ 7 0 1) else ((σ 7 0 9) + 1)))) ∧ (¬ xs1 = 1 → ((¬ xs1 = 2 → wp_X5_readToken_153 post  (su (su σ 7 0 8 xs1) 7 0 10 (if (σ 7 0 1) < ((σ 7 0 9) + 1) then (σ 7 0 1) else ((σ 7 0 9) + 1)))) ∧ (xs1 = 2 → ∃ nn, wp_X5_readToken_110 post nn  (su (su σ 7 0 8 xs1) 7 0 10 (if (σ 7 0 1) < ((σ 7 0 9) + 1) then (σ 7 0 1) else ((σ 7 0 9) + 1)))))))
set_option maxHeartbeats 4000000 in
set_option maxRecDepth 100000 in
theorem wk_X5_readToken_74 {p : Program} {l : Launch} {e : Env} {s : State} {m : MethodId} {below : List Frame} {meth : Method} {c : Code} {D : va_G} {q : ClassId × ClassId × ClassId × ClassId} {ad : Nat → Nat → Nat} {t : Nat × Nat} {aK aV : Nat → Nat} {args : Array Value} (S : CallFix p m c cX5_readToken 1 s args GW "OnChin$Text") (V : EvC D q ad t aK aV s) (hr : meth.sig.returnType = none) (hlocks : meth.locks = false) (post : St → Prop)  : ∀ (xs1 : Int32) (σ : St) (H : Heap) (locs : List Loc) (ls : Array Slot), wp_X5_readToken_74 post xs1 σ → wo D clA LC ad s.heap H locs (EC q ad σ) → lv_has ls 1 [(0, .ref (ad 7 0))] → W p l e { frames := 1, cells := 0, slots := 0, locals := 21 } s m args below meth c H locs 0 0 (MQ below (zQv D clA LC ad (EC q ad) post) args s 0 0 (zA LC ad)) (F0 m 74 ls [.int xs1, .ref (ad 7 0)]) := by
  have hx := S.1
  have hb := S.2.1
  intro xs1 σ H locs ls h  hw hl
  refine pC_7_8 S V hw (Nat.le_of_ble_eq_true rfl) fl_X5_37 dX5_readToken_74 (fun H locs hw => ?_)
  refine lv_aload_n hx hb dX5_readToken_77 rfl (lv_at hl 0 rfl) ?_
  refine lv_aload_n hx hb dX5_readToken_78 rfl (lv_at hl 0 rfl) ?_
  refine gC_7_9 S V hw (Nat.le_of_ble_eq_true rfl) fl_X5_40 (su_nk rfl) dX5_readToken_79 ?_
  refine lv_iconst (v := 1) hx hb dX5_readToken_82 (by decide) ?_
  refine lv_iadd hx hb dX5_readToken_83 ?_
  refine lv_aload_n hx hb dX5_readToken_84 rfl (lv_at hl 0 rfl) ?_
  refine gC_7_1 S V hw (Nat.le_of_ble_eq_true rfl) fl_X5_15 (su_nk rfl) dX5_readToken_85 ?_
  refine x_min S hl.1 ml_X5_67 ws_min wi_J9 wc_min (Nat.le_of_ble_eq_true rfl) (Nat.le_of_ble_eq_true rfl) dX5_readToken_88 ?_
  refine pC_7_10 S V hw (Nat.le_of_ble_eq_true rfl) fl_X5_43 dX5_readToken_91 (fun H locs hw => ?_)
  refine lv_aload_n hx hb dX5_readToken_94 rfl (lv_at hl 0 rfl) ?_
  refine gC_7_8 S V hw (Nat.le_of_ble_eq_true rfl) fl_X5_37 ((su_nk rfl).trans su_eq) dX5_readToken_95 ?_
  refine lv_iconst (v := 1) hx hb dX5_readToken_98 (by decide) ?_
  refine lv_icmp_eq (tgt := 110) hx hb dX5_readToken_99 (by decide) (fun hc => ?_) (fun hc => ?_)
  · have h := h.1 hc
    obtain ⟨n9, h⟩ := h
    exact wk_X5_readToken_110 S V hr hlocks    post  n9  _ _ _ _ h  hw (lv_sub hl [0] rfl)
  · have h := h.2 hc
    refine lv_aload_n hx hb dX5_readToken_102 rfl (lv_at hl 0 rfl) ?_
    refine gC_7_8 S V hw (Nat.le_of_ble_eq_true rfl) fl_X5_37 ((su_nk rfl).trans su_eq) dX5_readToken_103 ?_
    refine lv_iconst (v := 2) hx hb dX5_readToken_106 (by decide) ?_
    refine lv_icmp_ne (tgt := 153) hx hb dX5_readToken_107 (by decide) (fun hc => ?_) (fun hc => ?_)
    · have h := h.1 hc
      exact wk_X5_readToken_153 S V hr hlocks    post   _ _ _ _ h  hw (lv_sub hl [0] rfl)
    · have h := h.2 hc
      obtain ⟨n9, h⟩ := h
      exact wk_X5_readToken_110 S V hr hlocks    post  n9  _ _ _ _ h  hw (lv_sub hl [0] rfl)
def wp_X5_readToken_46 (post : St → Prop)  (σ : St) : Prop := (((σ 7 0 1) ≤ (σ 7 0 9) → wp_X5_readToken_74 post 0 σ) ∧ (¬ (σ 7 0 1) ≤ (σ 7 0 9) → (vp_in (σ 7 0 9) 200 ∧ wp_X5_sort (σ 8 0 ((σ 7 0 9).toNatClampNeg)) (fun r1 σ1 => wp_X5_readToken_74 post r1 σ1) σ)))
set_option maxHeartbeats 4000000 in
set_option maxRecDepth 100000 in
theorem wk_X5_readToken_46 {p : Program} {l : Launch} {e : Env} {s : State} {m : MethodId} {below : List Frame} {meth : Method} {c : Code} {D : va_G} {q : ClassId × ClassId × ClassId × ClassId} {ad : Nat → Nat → Nat} {t : Nat × Nat} {aK aV : Nat → Nat} {args : Array Value} (S : CallFix p m c cX5_readToken 1 s args GW "OnChin$Text") (V : EvC D q ad t aK aV s) (hr : meth.sig.returnType = none) (hlocks : meth.locks = false) (post : St → Prop)  : ∀ (σ : St) (H : Heap) (locs : List Loc) (ls : Array Slot), wp_X5_readToken_46 post  σ → wo D clA LC ad s.heap H locs (EC q ad σ) → lv_has ls 1 [(0, .ref (ad 7 0))] → W p l e { frames := 1, cells := 0, slots := 0, locals := 21 } s m args below meth c H locs 0 0 (MQ below (zQv D clA LC ad (EC q ad) post) args s 0 0 (zA LC ad)) (F0 m 46 ls []) := by
  have hx := S.1
  have hb := S.2.1
  intro  σ H locs ls h  hw hl
  refine lv_aload_n hx hb dX5_readToken_46 rfl (lv_at hl 0 rfl) ?_
  refine lv_aload_n hx hb dX5_readToken_47 rfl (lv_at hl 0 rfl) ?_
  refine gC_7_9 S V hw (Nat.le_of_ble_eq_true rfl) fl_X5_40 rfl dX5_readToken_48 ?_
  refine lv_aload_n hx hb dX5_readToken_51 rfl (lv_at hl 0 rfl) ?_
  refine gC_7_1 S V hw (Nat.le_of_ble_eq_true rfl) fl_X5_15 rfl dX5_readToken_52 ?_
  refine lv_icmp_ge (tgt := 73) hx hb dX5_readToken_55 (by decide) (fun hc => ?_) (fun hc => ?_)
  · have h := h.1 hc
    refine lv_iconst (v := 0) hx hb dX5_readToken_73 (by decide) ?_
    exact wk_X5_readToken_74 S V hr hlocks    post  0 _ _ _ _ h  hw (lv_sub hl [0] rfl)
  · have h := h.2 hc
    refine lv_aload_n hx hb dX5_readToken_58 rfl (lv_at hl 0 rfl) ?_
    refine gC_7_0 S V hw (Nat.le_of_ble_eq_true rfl) fl_X5_9 dX5_readToken_59 ?_
    refine lv_aload_n hx hb dX5_readToken_62 rfl (lv_at hl 0 rfl) ?_
    refine gC_7_9 S V hw (Nat.le_of_ble_eq_true rfl) fl_X5_40 rfl dX5_readToken_63 ?_
    refine aC_8 S V hw (Nat.le_of_ble_eq_true rfl) h.1 (z := (σ 8 0 ((σ 7 0 9).toNatClampNeg))) rfl dX5_readToken_66 ?_
    have h := h.2
    refine call_Si (As := [.int (σ 8 0 ((σ 7 0 9).toNatClampNeg))]) (rest := [.ref (ad 7 0)]) EvC_ok S V hw (mt_X5_sort l D q ad t aK aV (σ 8 0 ((σ 7 0 9).toNatClampNeg))  σ _ h) ok_X5_sort ml_X5_63 ⟨(Nat.le_of_ble_eq_true rfl), (Nat.le_of_ble_eq_true rfl)⟩ ⟨rfl, rfl⟩ rfl hl.1 rfl (Nat.le_of_ble_eq_true rfl) dX5_readToken_67 (fun r1 σ1 H locs h hw => ?_)
    refine lv_goto (tgt := 74) hx hb dX5_readToken_70 (by decide) ?_
    exact wk_X5_readToken_74 S V hr hlocks    post  r1 _ _ _ _ h  hw (lv_sub hl [0] rfl)
def wp_X5_readToken_8 (post : St → Prop) : Nat → St → Prop
  | 0 => fun  _ => False
  | n + 1 => fun  σ => (((σ 7 0 1) ≤ (σ 7 0 9) → wp_X5_readToken_46 post  σ) ∧ (¬ (σ 7 0 1) ≤ (σ 7 0 9) → (vp_in (σ 7 0 9) 200 ∧ ((¬ (σ 8 0 ((σ 7 0 9).toNatClampNeg)) = 32 → wp_X5_readToken_46 post  σ) ∧ ((σ 8 0 ((σ 7 0 9).toNatClampNeg)) = 32 → wp_X5_readToken_8 post n  (su σ 7 0 9 ((σ 7 0 9) + 1)))))))
set_option maxHeartbeats 4000000 in
set_option maxRecDepth 100000 in
theorem wk_X5_readToken_8 {p : Program} {l : Launch} {e : Env} {s : State} {m : MethodId} {below : List Frame} {meth : Method} {c : Code} {D : va_G} {q : ClassId × ClassId × ClassId × ClassId} {ad : Nat → Nat → Nat} {t : Nat × Nat} {aK aV : Nat → Nat} {args : Array Value} (S : CallFix p m c cX5_readToken 1 s args GW "OnChin$Text") (V : EvC D q ad t aK aV s) (hr : meth.sig.returnType = none) (hlocks : meth.locks = false) (post : St → Prop)  : ∀ (n : Nat) (σ : St) (H : Heap) (locs : List Loc) (ls : Array Slot), wp_X5_readToken_8 post n  σ → wo D clA LC ad s.heap H locs (EC q ad σ) → lv_has ls 1 [(0, .ref (ad 7 0))] → W p l e { frames := 1, cells := 0, slots := 0, locals := 21 } s m args below meth c H locs 0 0 (MQ below (zQv D clA LC ad (EC q ad) post) args s 0 0 (zA LC ad)) (F0 m 8 ls []) := by
  have hx := S.1
  have hb := S.2.1
  intro n
  induction n with
  | zero => intro  σ H locs ls h; exact False.elim h
  | succ n ih =>
    intro  σ H locs ls h  hw hl
    refine lv_aload_n hx hb dX5_readToken_8 rfl (lv_at hl 0 rfl) ?_
    refine gC_7_9 S V hw (Nat.le_of_ble_eq_true rfl) fl_X5_40 rfl dX5_readToken_9 ?_
    refine lv_aload_n hx hb dX5_readToken_12 rfl (lv_at hl 0 rfl) ?_
    refine gC_7_1 S V hw (Nat.le_of_ble_eq_true rfl) fl_X5_15 rfl dX5_readToken_13 ?_
    refine lv_icmp_ge (tgt := 46) hx hb dX5_readToken_16 (by decide) (fun hc => ?_) (fun hc => ?_)
    · have h := h.1 hc
      exact wk_X5_readToken_46 S V hr hlocks    post   _ _ _ _ h  hw (lv_sub hl [0] rfl)
    · have h := h.2 hc
      refine lv_aload_n hx hb dX5_readToken_19 rfl (lv_at hl 0 rfl) ?_
      refine gC_7_0 S V hw (Nat.le_of_ble_eq_true rfl) fl_X5_9 dX5_readToken_20 ?_
      refine lv_aload_n hx hb dX5_readToken_23 rfl (lv_at hl 0 rfl) ?_
      refine gC_7_9 S V hw (Nat.le_of_ble_eq_true rfl) fl_X5_40 rfl dX5_readToken_24 ?_
      refine aC_8 S V hw (Nat.le_of_ble_eq_true rfl) h.1 (z := (σ 8 0 ((σ 7 0 9).toNatClampNeg))) rfl dX5_readToken_27 ?_
      have h := h.2
      refine lv_bipush (v := 32) hx hb dX5_readToken_28 (by decide) ?_
      refine lv_icmp_ne (tgt := 46) hx hb dX5_readToken_30 (by decide) (fun hc => ?_) (fun hc => ?_)
      · have h := h.1 hc
        exact wk_X5_readToken_46 S V hr hlocks    post   _ _ _ _ h  hw (lv_sub hl [0] rfl)
      · have h := h.2 hc
        refine lv_aload_n hx hb dX5_readToken_33 rfl (lv_at hl 0 rfl) ?_
        refine lv_dup hx hb dX5_readToken_34 rfl ?_
        refine gC_7_9 S V hw (Nat.le_of_ble_eq_true rfl) fl_X5_40 rfl dX5_readToken_35 ?_
        refine lv_iconst (v := 1) hx hb dX5_readToken_38 (by decide) ?_
        refine lv_iadd hx hb dX5_readToken_39 ?_
        refine pC_7_9 S V hw (Nat.le_of_ble_eq_true rfl) fl_X5_40 dX5_readToken_40 (fun H locs hw => ?_)
        refine lv_goto (tgt := 8) hx hb dX5_readToken_43 (by decide) ?_
        exact ih  _ _ _ _ h  hw (lv_sub hl [0] rfl)
def wp_X5_readToken (post : St → Prop)  (σ : St) : Prop := ∃ nn, wp_X5_readToken_8 post nn  (su σ 7 0 9 (σ 7 0 10))
set_option maxHeartbeats 4000000 in
set_option maxRecDepth 100000 in
theorem wk_X5_readToken_0 {p : Program} {l : Launch} {e : Env} {s : State} {m : MethodId} {below : List Frame} {meth : Method} {c : Code} {D : va_G} {q : ClassId × ClassId × ClassId × ClassId} {ad : Nat → Nat → Nat} {t : Nat × Nat} {aK aV : Nat → Nat} {args : Array Value} (S : CallFix p m c cX5_readToken 1 s args GW "OnChin$Text") (V : EvC D q ad t aK aV s) (hr : meth.sig.returnType = none) (hlocks : meth.locks = false) (post : St → Prop)  : ∀ (σ : St) (H : Heap) (locs : List Loc) (ls : Array Slot), wp_X5_readToken post  σ → wo D clA LC ad s.heap H locs (EC q ad σ) → lv_has ls 1 [(0, .ref (ad 7 0))] → W p l e { frames := 1, cells := 0, slots := 0, locals := 21 } s m args below meth c H locs 0 0 (MQ below (zQv D clA LC ad (EC q ad) post) args s 0 0 (zA LC ad)) (F0 m 0 ls []) := by
  have hx := S.1
  have hb := S.2.1
  intro  σ H locs ls h  hw hl
  refine lv_aload_n hx hb dX5_readToken_0 rfl (lv_at hl 0 rfl) ?_
  refine lv_aload_n hx hb dX5_readToken_1 rfl (lv_at hl 0 rfl) ?_
  refine gC_7_10 S V hw (Nat.le_of_ble_eq_true rfl) fl_X5_43 rfl dX5_readToken_2 ?_
  refine pC_7_9 S V hw (Nat.le_of_ble_eq_true rfl) fl_X5_40 dX5_readToken_5 (fun H locs hw => ?_)
  obtain ⟨n9, h⟩ := h
  exact wk_X5_readToken_8 S V hr hlocks    post  n9  _ _ _ _ h  hw (lv_sub hl [0] rfl)
theorem mt_X5_readToken (l : Launch) (D : va_G) (q : ClassId × ClassId × ClassId × ClassId) (ad : Nat → Nat → Nat) (t : Nat × Nat) (aK aV : Nat → Nat)  (σ : St) (post : St → Prop) (h : wp_X5_readToken post σ) : cV l D clA LC ad (EC q ad) (EvC D q ad t aK aV) yX5_readToken cX5_readToken 1 none { frames := 1, cells := 0, slots := 0, locals := 21 } [.ref (ad 7 0)] σ post :=
  ent_v (by decide) (Nat.le_of_ble_eq_true rfl) (fun p e s m below meth c S V hr hlocks hw ls hl => wk_X5_readToken_0 S V hr hlocks   post   σ _ _ ls h  hw (lv_sub hl [0] rfl))
def wp_X5_says_24 (o1 : Nat) (post : Int32 → St → Prop)  (σ : St) : Prop := post 0 σ
set_option maxHeartbeats 4000000 in
set_option maxRecDepth 100000 in
theorem wk_X5_says_24 {p : Program} {l : Launch} {e : Env} {s : State} {m : MethodId} {below : List Frame} {meth : Method} {c : Code} {D : va_G} {q : ClassId × ClassId × ClassId × ClassId} {ad : Nat → Nat → Nat} {t : Nat × Nat} {aK aV : Nat → Nat} {args : Array Value} (S : CallFix p m c cX5_says 3 s args GW "OnChin$Text") (V : EvC D q ad t aK aV s) (hr : meth.sig.returnType = (some .boolean)) (hlocks : meth.locks = false) (o1 : Nat) (ho1 : o1 < 13) (post : Int32 → St → Prop)  : ∀ (σ : St) (H : Heap) (locs : List Loc) (ls : Array Slot), wp_X5_says_24 o1 post  σ → wo D clA LC ad s.heap H locs (EC q ad σ) → lv_has ls 3 [(0, .ref (ad 7 0)), (1, .ref (aK o1))] → W p l e { frames := 4, cells := 0, slots := 0, locals := 141 } s m args below meth c H locs 0 0 (MQ below (zQi D clA LC ad (EC q ad) post) args s 0 0 (zA LC ad)) (F0 m 24 ls []) := by
  have hx := S.1
  have hb := S.2.1
  intro  σ H locs ls h  hw hl
  refine lv_iconst (v := 0) hx hb dX5_says_24 (by decide) ?_
  exact ret_z S hr hlocks hw (by decide) h dX5_says_25
def wp_X5_says_28 (o1 : Nat) (post : Int32 → St → Prop) : Nat → Int32 → St → Prop
  | 0 => fun _ _ => False
  | n + 1 => fun x2 σ => wp_J0_length_8abf5 o1 (fun r1 σ1 => ((r1 ≤ x2 → post 1 σ1) ∧ (¬ r1 ≤ x2 → (vp_in ((σ1 7 0 9) + x2) 200 ∧ wp_J0_charAt_5068e o1 x2 (fun r2 σ2 => (((σ1 8 0 (((σ1 7 0 9) + x2).toNatClampNeg)) = r2 → wp_X5_says_28 o1 post n (x2 + 1) σ2) ∧ (¬ (σ1 8 0 (((σ1 7 0 9) + x2).toNatClampNeg)) = r2 → post 0 σ2))) σ1)))) σ
set_option maxHeartbeats 4000000 in
set_option maxRecDepth 100000 in
theorem wk_X5_says_28 {p : Program} {l : Launch} {e : Env} {s : State} {m : MethodId} {below : List Frame} {meth : Method} {c : Code} {D : va_G} {q : ClassId × ClassId × ClassId × ClassId} {ad : Nat → Nat → Nat} {t : Nat × Nat} {aK aV : Nat → Nat} {args : Array Value} (S : CallFix p m c cX5_says 3 s args GW "OnChin$Text") (V : EvC D q ad t aK aV s) (hr : meth.sig.returnType = (some .boolean)) (hlocks : meth.locks = false) (o1 : Nat) (ho1 : o1 < 13) (post : Int32 → St → Prop)  : ∀ (n : Nat) (x2 : Int32) (σ : St) (H : Heap) (locs : List Loc) (ls : Array Slot), wp_X5_says_28 o1 post n x2 σ → wo D clA LC ad s.heap H locs (EC q ad σ) → lv_has ls 3 [(0, .ref (ad 7 0)), (1, .ref (aK o1)), (2, .int x2)] → W p l e { frames := 4, cells := 0, slots := 0, locals := 141 } s m args below meth c H locs 0 0 (MQ below (zQi D clA LC ad (EC q ad) post) args s 0 0 (zA LC ad)) (F0 m 28 ls []) := by
  have hx := S.1
  have hb := S.2.1
  intro n
  induction n with
  | zero => intro x2 σ H locs ls h; exact False.elim h
  | succ n ih =>
    intro x2 σ H locs ls h  hw hl
    have h : wp_J0_length_8abf5 o1 (fun r1 σ1 => ((r1 ≤ x2 → post 1 σ1) ∧ (¬ r1 ≤ x2 → (vp_in ((σ1 7 0 9) + x2) 200 ∧ wp_J0_charAt_5068e o1 x2 (fun r2 σ2 => (((σ1 8 0 (((σ1 7 0 9) + x2).toNatClampNeg)) = r2 → wp_X5_says_28 o1 post n (x2 + 1) σ2) ∧ (¬ (σ1 8 0 (((σ1 7 0 9) + x2).toNatClampNeg)) = r2 → post 0 σ2))) σ1)))) σ := h
    refine lv_iload_n hx hb dX5_says_28 rfl (lv_at hl 2 rfl) ?_
    refine lv_aload_n hx hb dX5_says_29 rfl (lv_at hl 1 rfl) ?_
    refine call_Vi (As := []) (rest := [.int x2]) EvC_ok S V hw (mt_J0_length_8abf5 l D q ad t aK aV o1 ho1 σ _ h) ok_J0_length_8abf5 ml_X5_73 (xr_str S V hw ho1) ⟨(Nat.le_of_ble_eq_true rfl), (Nat.le_of_ble_eq_true rfl)⟩ ⟨rfl, rfl⟩ rfl hl.1 rfl (Nat.le_of_ble_eq_true rfl) dX5_says_30 (fun r1 σ1 H locs h hw => ?_)
    refine lv_icmp_ge (tgt := 63) hx hb dX5_says_33 (by decide) (fun hc => ?_) (fun hc => ?_)
    · have h := h.1 hc
      refine lv_iconst (v := 1) hx hb dX5_says_63 (by decide) ?_
      exact ret_z S hr hlocks hw (by decide) h dX5_says_64
    · have h := h.2 hc
      refine lv_aload_n hx hb dX5_says_36 rfl (lv_at hl 0 rfl) ?_
      refine gC_7_0 S V hw (Nat.le_of_ble_eq_true rfl) fl_X5_9 dX5_says_37 ?_
      refine lv_aload_n hx hb dX5_says_40 rfl (lv_at hl 0 rfl) ?_
      refine gC_7_9 S V hw (Nat.le_of_ble_eq_true rfl) fl_X5_40 rfl dX5_says_41 ?_
      refine lv_iload_n hx hb dX5_says_44 rfl (lv_at hl 2 rfl) ?_
      refine lv_iadd hx hb dX5_says_45 ?_
      refine aC_8 S V hw (Nat.le_of_ble_eq_true rfl) h.1 (z := (σ1 8 0 (((σ1 7 0 9) + x2).toNatClampNeg))) rfl dX5_says_46 ?_
      have h := h.2
      refine lv_aload_n hx hb dX5_says_47 rfl (lv_at hl 1 rfl) ?_
      refine lv_iload_n hx hb dX5_says_48 rfl (lv_at hl 2 rfl) ?_
      refine call_Vi (As := [.int x2]) (rest := [.int (σ1 8 0 (((σ1 7 0 9) + x2).toNatClampNeg))]) EvC_ok S V hw (mt_J0_charAt_5068e l D q ad t aK aV o1 x2 ho1 σ1 _ h) ok_J0_charAt_5068e ml_X5_78 (xr_str S V hw ho1) ⟨(Nat.le_of_ble_eq_true rfl), (Nat.le_of_ble_eq_true rfl)⟩ ⟨rfl, rfl⟩ rfl hl.1 rfl (Nat.le_of_ble_eq_true rfl) dX5_says_49 (fun r2 σ2 H locs h hw => ?_)
      refine lv_icmp_eq (tgt := 57) hx hb dX5_says_52 (by decide) (fun hc => ?_) (fun hc => ?_)
      · have h := h.1 hc
        refine lv_iinc (v := (x2 + 1)) (lv' := [(2, .int (x2 + 1)), (0, .ref (ad 7 0)), (1, .ref (aK o1))]) hx hb dX5_says_57 hl (k := 2) rfl rfl (by decide) rfl (fun ls hl => ?_)
        refine lv_goto (tgt := 28) hx hb dX5_says_60 (by decide) ?_
        exact ih (x2 + 1) _ _ _ _ h  hw (lv_sub hl [1, 2, 0] rfl)
      · have h := h.2 hc
        refine lv_iconst (v := 0) hx hb dX5_says_55 (by decide) ?_
        exact ret_z S hr hlocks hw (by decide) h dX5_says_56
def wp_X5_says (o1 : Nat) (post : Int32 → St → Prop)  (σ : St) : Prop := ((¬ (σ 7 0 8) = 1 → wp_X5_says_24 o1 post  σ) ∧ ((σ 7 0 8) = 1 → wp_J0_length_8abf5 o1 (fun r1 σ1 => ((((σ 7 0 10) - (σ 7 0 9)) = r1 → ∃ nn, wp_X5_says_28 o1 post nn 0 σ1) ∧ (¬ ((σ 7 0 10) - (σ 7 0 9)) = r1 → wp_X5_says_24 o1 post  σ1))) σ))
set_option maxHeartbeats 4000000 in
set_option maxRecDepth 100000 in
theorem wk_X5_says_0 {p : Program} {l : Launch} {e : Env} {s : State} {m : MethodId} {below : List Frame} {meth : Method} {c : Code} {D : va_G} {q : ClassId × ClassId × ClassId × ClassId} {ad : Nat → Nat → Nat} {t : Nat × Nat} {aK aV : Nat → Nat} {args : Array Value} (S : CallFix p m c cX5_says 3 s args GW "OnChin$Text") (V : EvC D q ad t aK aV s) (hr : meth.sig.returnType = (some .boolean)) (hlocks : meth.locks = false) (o1 : Nat) (ho1 : o1 < 13) (post : Int32 → St → Prop)  : ∀ (σ : St) (H : Heap) (locs : List Loc) (ls : Array Slot), wp_X5_says o1 post  σ → wo D clA LC ad s.heap H locs (EC q ad σ) → lv_has ls 3 [(0, .ref (ad 7 0)), (1, .ref (aK o1))] → W p l e { frames := 4, cells := 0, slots := 0, locals := 141 } s m args below meth c H locs 0 0 (MQ below (zQi D clA LC ad (EC q ad) post) args s 0 0 (zA LC ad)) (F0 m 0 ls []) := by
  have hx := S.1
  have hb := S.2.1
  intro  σ H locs ls h  hw hl
  refine lv_aload_n hx hb dX5_says_0 rfl (lv_at hl 0 rfl) ?_
  refine gC_7_8 S V hw (Nat.le_of_ble_eq_true rfl) fl_X5_37 rfl dX5_says_1 ?_
  refine lv_iconst (v := 1) hx hb dX5_says_4 (by decide) ?_
  refine lv_icmp_ne (tgt := 24) hx hb dX5_says_5 (by decide) (fun hc => ?_) (fun hc => ?_)
  · have h := h.1 hc
    exact wk_X5_says_24 S V hr hlocks o1 ho1  post   _ _ _ _ h  hw (lv_sub hl [0, 1] rfl)
  · have h := h.2 hc
    refine lv_aload_n hx hb dX5_says_8 rfl (lv_at hl 0 rfl) ?_
    refine gC_7_10 S V hw (Nat.le_of_ble_eq_true rfl) fl_X5_43 rfl dX5_says_9 ?_
    refine lv_aload_n hx hb dX5_says_12 rfl (lv_at hl 0 rfl) ?_
    refine gC_7_9 S V hw (Nat.le_of_ble_eq_true rfl) fl_X5_40 rfl dX5_says_13 ?_
    refine lv_isub hx hb dX5_says_16 ?_
    refine lv_aload_n hx hb dX5_says_17 rfl (lv_at hl 1 rfl) ?_
    refine call_Vi (As := []) (rest := [.int ((σ 7 0 10) - (σ 7 0 9))]) EvC_ok S V hw (mt_J0_length_8abf5 l D q ad t aK aV o1 ho1 σ _ h) ok_J0_length_8abf5 ml_X5_73 (xr_str S V hw ho1) ⟨(Nat.le_of_ble_eq_true rfl), (Nat.le_of_ble_eq_true rfl)⟩ ⟨rfl, rfl⟩ rfl hl.1 rfl (Nat.le_of_ble_eq_true rfl) dX5_says_18 (fun r1 σ1 H locs h hw => ?_)
    refine lv_icmp_eq (tgt := 26) hx hb dX5_says_21 (by decide) (fun hc => ?_) (fun hc => ?_)
    · have h := h.1 hc
      refine lv_iconst (v := 0) hx hb dX5_says_26 (by decide) ?_
      refine lv_istore_n (lv' := [(2, .int 0), (0, .ref (ad 7 0)), (1, .ref (aK o1))]) hx hb dX5_says_27 rfl hl (by decide) rfl (fun ls hl => ?_)
      obtain ⟨n9, h⟩ := h
      exact wk_X5_says_28 S V hr hlocks o1 ho1  post  n9 0 _ _ _ _ h  hw (lv_sub hl [1, 2, 0] rfl)
    · have h := h.2 hc
      exact wk_X5_says_24 S V hr hlocks o1 ho1  post   _ _ _ _ h  hw (lv_sub hl [0, 1] rfl)
theorem mt_X5_says (l : Launch) (D : va_G) (q : ClassId × ClassId × ClassId × ClassId) (ad : Nat → Nat → Nat) (t : Nat × Nat) (aK aV : Nat → Nat) (o1 : Nat) (ho1 : o1 < 13) (σ : St) (post : Int32 → St → Prop) (h : wp_X5_says o1 post σ) : cI l D clA LC ad (EC q ad) (EvC D q ad t aK aV) yX5_says cX5_says 3 (some .boolean) { frames := 4, cells := 0, slots := 0, locals := 141 } [.ref (ad 7 0), .ref (aK o1)] σ post :=
  ent_i (by decide) (Nat.le_of_ble_eq_true rfl) (fun p e s m below meth c S V hr hlocks hw ls hl => wk_X5_says_0 S V hr hlocks o1 ho1 post   σ _ _ ls h  hw (lv_sub hl [0, 1] rfl))
def wp_X5_number_21 (post : Int32 → St → Prop)  (σ : St) : Prop := post (-1) σ
set_option maxHeartbeats 4000000 in
set_option maxRecDepth 100000 in
theorem wk_X5_number_21 {p : Program} {l : Launch} {e : Env} {s : State} {m : MethodId} {below : List Frame} {meth : Method} {c : Code} {D : va_G} {q : ClassId × ClassId × ClassId × ClassId} {ad : Nat → Nat → Nat} {t : Nat × Nat} {aK aV : Nat → Nat} {args : Array Value} (S : CallFix p m c cX5_number 3 s args GW "OnChin$Text") (V : EvC D q ad t aK aV s) (hr : meth.sig.returnType = (some .int)) (hlocks : meth.locks = false) (post : Int32 → St → Prop)  : ∀ (σ : St) (H : Heap) (locs : List Loc) (ls : Array Slot), wp_X5_number_21 post  σ → wo D clA LC ad s.heap H locs (EC q ad σ) → lv_has ls 3 [(0, .ref (ad 7 0))] → W p l e { frames := 0, cells := 0, slots := 0, locals := 0 } s m args below meth c H locs 0 0 (MQ below (zQi D clA LC ad (EC q ad) post) args s 0 0 (zA LC ad)) (F0 m 21 ls []) := by
  have hx := S.1
  have hb := S.2.1
  intro  σ H locs ls h  hw hl
  refine lv_iconst (v := (-1)) hx hb dX5_number_21 (by decide) ?_
  exact ret_i S hr hlocks hw h dX5_number_22
def wp_X5_number_30 (post : Int32 → St → Prop) : Nat → Int32 → Int32 → St → Prop
  | 0 => fun _ _ _ => False
  | n + 1 => fun x1 x2 σ => (((σ 7 0 10) ≤ x2 → post x1 σ) ∧ (¬ (σ 7 0 10) ≤ x2 → (vp_in x2 200 ∧ wp_X5_number_30 post n (((10 * x1) + (σ 8 0 x2.toNatClampNeg)) - 48) (x2 + 1) σ)))
set_option maxHeartbeats 4000000 in
set_option maxRecDepth 100000 in
theorem wk_X5_number_30 {p : Program} {l : Launch} {e : Env} {s : State} {m : MethodId} {below : List Frame} {meth : Method} {c : Code} {D : va_G} {q : ClassId × ClassId × ClassId × ClassId} {ad : Nat → Nat → Nat} {t : Nat × Nat} {aK aV : Nat → Nat} {args : Array Value} (S : CallFix p m c cX5_number 3 s args GW "OnChin$Text") (V : EvC D q ad t aK aV s) (hr : meth.sig.returnType = (some .int)) (hlocks : meth.locks = false) (post : Int32 → St → Prop)  : ∀ (n : Nat) (x1 : Int32) (x2 : Int32) (σ : St) (H : Heap) (locs : List Loc) (ls : Array Slot), wp_X5_number_30 post n x1 x2 σ → wo D clA LC ad s.heap H locs (EC q ad σ) → lv_has ls 3 [(0, .ref (ad 7 0)), (1, .int x1), (2, .int x2)] → W p l e { frames := 0, cells := 0, slots := 0, locals := 0 } s m args below meth c H locs 0 0 (MQ below (zQi D clA LC ad (EC q ad) post) args s 0 0 (zA LC ad)) (F0 m 30 ls []) := by
  have hx := S.1
  have hb := S.2.1
  intro n
  induction n with
  | zero => intro x1 x2 σ H locs ls h; exact False.elim h
  | succ n ih =>
    intro x1 x2 σ H locs ls h  hw hl
    refine lv_iload_n hx hb dX5_number_30 rfl (lv_at hl 2 rfl) ?_
    refine lv_aload_n hx hb dX5_number_31 rfl (lv_at hl 0 rfl) ?_
    refine gC_7_10 S V hw (Nat.le_of_ble_eq_true rfl) fl_X5_43 rfl dX5_number_32 ?_
    refine lv_icmp_ge (tgt := 59) hx hb dX5_number_35 (by decide) (fun hc => ?_) (fun hc => ?_)
    · have h := h.1 hc
      refine lv_iload_n hx hb dX5_number_59 rfl (lv_at hl 1 rfl) ?_
      exact ret_i S hr hlocks hw h dX5_number_60
    · have h := h.2 hc
      refine lv_bipush (v := 10) hx hb dX5_number_38 (by decide) ?_
      refine lv_iload_n hx hb dX5_number_40 rfl (lv_at hl 1 rfl) ?_
      refine lv_imul hx hb dX5_number_41 ?_
      refine lv_aload_n hx hb dX5_number_42 rfl (lv_at hl 0 rfl) ?_
      refine gC_7_0 S V hw (Nat.le_of_ble_eq_true rfl) fl_X5_9 dX5_number_43 ?_
      refine lv_iload_n hx hb dX5_number_46 rfl (lv_at hl 2 rfl) ?_
      refine aC_8 S V hw (Nat.le_of_ble_eq_true rfl) h.1 (z := (σ 8 0 x2.toNatClampNeg)) rfl dX5_number_47 ?_
      have h := h.2
      refine lv_iadd hx hb dX5_number_48 ?_
      refine lv_bipush (v := 48) hx hb dX5_number_49 (by decide) ?_
      refine lv_isub hx hb dX5_number_51 ?_
      refine lv_istore_n (lv' := [(1, .int (((10 * x1) + (σ 8 0 x2.toNatClampNeg)) - 48)), (0, .ref (ad 7 0)), (2, .int x2)]) hx hb dX5_number_52 rfl hl (by decide) rfl (fun ls hl => ?_)
      refine lv_iinc (v := (x2 + 1)) (lv' := [(2, .int (x2 + 1)), (1, .int (((10 * x1) + (σ 8 0 x2.toNatClampNeg)) - 48)), (0, .ref (ad 7 0))]) hx hb dX5_number_53 hl (k := 2) rfl rfl (by decide) rfl (fun ls hl => ?_)
      refine lv_goto (tgt := 30) hx hb dX5_number_56 (by decide) ?_
      exact ih (((10 * x1) + (σ 8 0 x2.toNatClampNeg)) - 48) (x2 + 1) _ _ _ _ h  hw (lv_sub hl [2, 1, 0] rfl)
def wp_X5_number (post : Int32 → St → Prop)  (σ : St) : Prop := ((¬ (σ 7 0 8) = 2 → wp_X5_number_21 post  σ) ∧ ((σ 7 0 8) = 2 → ((((σ 7 0 10) - (σ 7 0 9)) ≤ 3 → ∃ nn, wp_X5_number_30 post nn 0 (σ 7 0 9) σ) ∧ (¬ ((σ 7 0 10) - (σ 7 0 9)) ≤ 3 → wp_X5_number_21 post  σ))))
set_option maxHeartbeats 4000000 in
set_option maxRecDepth 100000 in
theorem wk_X5_number_0 {p : Program} {l : Launch} {e : Env} {s : State} {m : MethodId} {below : List Frame} {meth : Method} {c : Code} {D : va_G} {q : ClassId × ClassId × ClassId × ClassId} {ad : Nat → Nat → Nat} {t : Nat × Nat} {aK aV : Nat → Nat} {args : Array Value} (S : CallFix p m c cX5_number 3 s args GW "OnChin$Text") (V : EvC D q ad t aK aV s) (hr : meth.sig.returnType = (some .int)) (hlocks : meth.locks = false) (post : Int32 → St → Prop)  : ∀ (σ : St) (H : Heap) (locs : List Loc) (ls : Array Slot), wp_X5_number post  σ → wo D clA LC ad s.heap H locs (EC q ad σ) → lv_has ls 3 [(0, .ref (ad 7 0))] → W p l e { frames := 0, cells := 0, slots := 0, locals := 0 } s m args below meth c H locs 0 0 (MQ below (zQi D clA LC ad (EC q ad) post) args s 0 0 (zA LC ad)) (F0 m 0 ls []) := by
  have hx := S.1
  have hb := S.2.1
  intro  σ H locs ls h  hw hl
  refine lv_aload_n hx hb dX5_number_0 rfl (lv_at hl 0 rfl) ?_
  refine gC_7_8 S V hw (Nat.le_of_ble_eq_true rfl) fl_X5_37 rfl dX5_number_1 ?_
  refine lv_iconst (v := 2) hx hb dX5_number_4 (by decide) ?_
  refine lv_icmp_ne (tgt := 21) hx hb dX5_number_5 (by decide) (fun hc => ?_) (fun hc => ?_)
  · have h := h.1 hc
    exact wk_X5_number_21 S V hr hlocks    post   _ _ _ _ h  hw (lv_sub hl [0] rfl)
  · have h := h.2 hc
    refine lv_aload_n hx hb dX5_number_8 rfl (lv_at hl 0 rfl) ?_
    refine gC_7_10 S V hw (Nat.le_of_ble_eq_true rfl) fl_X5_43 rfl dX5_number_9 ?_
    refine lv_aload_n hx hb dX5_number_12 rfl (lv_at hl 0 rfl) ?_
    refine gC_7_9 S V hw (Nat.le_of_ble_eq_true rfl) fl_X5_40 rfl dX5_number_13 ?_
    refine lv_isub hx hb dX5_number_16 ?_
    refine lv_iconst (v := 3) hx hb dX5_number_17 (by decide) ?_
    refine lv_icmp_le (tgt := 23) hx hb dX5_number_18 (by decide) (fun hc => ?_) (fun hc => ?_)
    · have h := h.1 hc
      refine lv_iconst (v := 0) hx hb dX5_number_23 (by decide) ?_
      refine lv_istore_n (lv' := [(1, .int 0), (0, .ref (ad 7 0))]) hx hb dX5_number_24 rfl hl (by decide) rfl (fun ls hl => ?_)
      refine lv_aload_n hx hb dX5_number_25 rfl (lv_at hl 1 rfl) ?_
      refine gC_7_9 S V hw (Nat.le_of_ble_eq_true rfl) fl_X5_40 rfl dX5_number_26 ?_
      refine lv_istore_n (lv' := [(2, .int (σ 7 0 9)), (1, .int 0), (0, .ref (ad 7 0))]) hx hb dX5_number_29 rfl hl (by decide) rfl (fun ls hl => ?_)
      obtain ⟨n9, h⟩ := h
      exact wk_X5_number_30 S V hr hlocks    post  n9 0 (σ 7 0 9) _ _ _ _ h  hw (lv_sub hl [2, 1, 0] rfl)
    · have h := h.2 hc
      exact wk_X5_number_21 S V hr hlocks    post   _ _ _ _ h  hw (lv_sub hl [0] rfl)
theorem mt_X5_number (l : Launch) (D : va_G) (q : ClassId × ClassId × ClassId × ClassId) (ad : Nat → Nat → Nat) (t : Nat × Nat) (aK aV : Nat → Nat)  (σ : St) (post : Int32 → St → Prop) (h : wp_X5_number post σ) : cI l D clA LC ad (EC q ad) (EvC D q ad t aK aV) yX5_number cX5_number 3 (some .int) { frames := 0, cells := 0, slots := 0, locals := 0 } [.ref (ad 7 0)] σ post :=
  ent_i (by decide) (Nat.le_of_ble_eq_true rfl) (fun p e s m below meth c S V hr hlocks hw ls hl => wk_X5_number_0 S V hr hlocks   post   σ _ _ ls h  hw (lv_sub hl [0] rfl))
def wp_X5_store_32 (x1 : Int32) (post : St → Prop)  (σ : St) : Prop := post σ
set_option maxHeartbeats 4000000 in
set_option maxRecDepth 100000 in
theorem wk_X5_store_32 {p : Program} {l : Launch} {e : Env} {s : State} {m : MethodId} {below : List Frame} {meth : Method} {c : Code} {D : va_G} {q : ClassId × ClassId × ClassId × ClassId} {ad : Nat → Nat → Nat} {t : Nat × Nat} {aK aV : Nat → Nat} {args : Array Value} (S : CallFix p m c cX5_store 2 s args GW "OnChin$Text") (V : EvC D q ad t aK aV s) (hr : meth.sig.returnType = none) (hlocks : meth.locks = false) (x1 : Int32) (post : St → Prop)  : ∀ (σ : St) (H : Heap) (locs : List Loc) (ls : Array Slot), wp_X5_store_32 x1 post  σ → wo D clA LC ad s.heap H locs (EC q ad σ) → lv_has ls 2 [(0, .ref (ad 7 0)), (1, .int x1)] → W p l e { frames := 0, cells := 0, slots := 0, locals := 0 } s m args below meth c H locs 0 0 (MQ below (zQv D clA LC ad (EC q ad) post) args s 0 0 (zA LC ad)) (F0 m 32 ls []) := by
  have hx := S.1
  have hb := S.2.1
  intro  σ H locs ls h  hw hl
  exact ret_v S hr hlocks hw h dX5_store_32
def wp_X5_store (x1 : Int32) (post : St → Prop)  (σ : St) : Prop := ((40 ≤ (σ 7 0 5) → wp_X5_store_32 x1 post  σ) ∧ (¬ 40 ≤ (σ 7 0 5) → (vp_in (σ 7 0 5) 40 ∧ wp_X5_store_32 x1 post  (su (su σ 10 0 ((σ 7 0 5).toNatClampNeg) x1) 7 0 5 ((σ 7 0 5) + 1)))))
set_option maxHeartbeats 4000000 in
set_option maxRecDepth 100000 in
theorem wk_X5_store_0 {p : Program} {l : Launch} {e : Env} {s : State} {m : MethodId} {below : List Frame} {meth : Method} {c : Code} {D : va_G} {q : ClassId × ClassId × ClassId × ClassId} {ad : Nat → Nat → Nat} {t : Nat × Nat} {aK aV : Nat → Nat} {args : Array Value} (S : CallFix p m c cX5_store 2 s args GW "OnChin$Text") (V : EvC D q ad t aK aV s) (hr : meth.sig.returnType = none) (hlocks : meth.locks = false) (x1 : Int32) (post : St → Prop)  : ∀ (σ : St) (H : Heap) (locs : List Loc) (ls : Array Slot), wp_X5_store x1 post  σ → wo D clA LC ad s.heap H locs (EC q ad σ) → lv_has ls 2 [(0, .ref (ad 7 0)), (1, .int x1)] → W p l e { frames := 0, cells := 0, slots := 0, locals := 0 } s m args below meth c H locs 0 0 (MQ below (zQv D clA LC ad (EC q ad) post) args s 0 0 (zA LC ad)) (F0 m 0 ls []) := by
  have hx := S.1
  have hb := S.2.1
  intro  σ H locs ls h  hw hl
  refine lv_aload_n hx hb dX5_store_0 rfl (lv_at hl 0 rfl) ?_
  refine gC_7_5 S V hw (Nat.le_of_ble_eq_true rfl) fl_X5_28 rfl dX5_store_1 ?_
  refine lv_aload_n hx hb dX5_store_4 rfl (lv_at hl 0 rfl) ?_
  refine gC_7_4 S V hw (Nat.le_of_ble_eq_true rfl) fl_X5_25 dX5_store_5 ?_
  refine lC_10 S V hw (Nat.le_of_ble_eq_true rfl) dX5_store_8 ?_
  refine lv_icmp_ge (tgt := 32) hx hb dX5_store_9 (by decide) (fun hc => ?_) (fun hc => ?_)
  · have h := h.1 hc
    exact wk_X5_store_32 S V hr hlocks x1   post   _ _ _ _ h  hw (lv_sub hl [0, 1] rfl)
  · have h := h.2 hc
    refine lv_aload_n hx hb dX5_store_12 rfl (lv_at hl 0 rfl) ?_
    refine gC_7_4 S V hw (Nat.le_of_ble_eq_true rfl) fl_X5_25 dX5_store_13 ?_
    refine lv_aload_n hx hb dX5_store_16 rfl (lv_at hl 0 rfl) ?_
    refine gC_7_5 S V hw (Nat.le_of_ble_eq_true rfl) fl_X5_28 rfl dX5_store_17 ?_
    refine lv_iload_n hx hb dX5_store_20 rfl (lv_at hl 1 rfl) ?_
    refine sC_10 S V hw (Nat.le_of_ble_eq_true rfl) h.1 dX5_store_21 (fun H locs hw => ?_)
    have h := h.2
    refine lv_aload_n hx hb dX5_store_22 rfl (lv_at hl 0 rfl) ?_
    refine lv_dup hx hb dX5_store_23 rfl ?_
    refine gC_7_5 S V hw (Nat.le_of_ble_eq_true rfl) fl_X5_28 (su_nc rfl) dX5_store_24 ?_
    refine lv_iconst (v := 1) hx hb dX5_store_27 (by decide) ?_
    refine lv_iadd hx hb dX5_store_28 ?_
    refine pC_7_5 S V hw (Nat.le_of_ble_eq_true rfl) fl_X5_28 dX5_store_29 (fun H locs hw => ?_)
    exact wk_X5_store_32 S V hr hlocks x1   post   _ _ _ _ h  hw (lv_sub hl [0, 1] rfl)
theorem mt_X5_store (l : Launch) (D : va_G) (q : ClassId × ClassId × ClassId × ClassId) (ad : Nat → Nat → Nat) (t : Nat × Nat) (aK aV : Nat → Nat) (x1 : Int32) (σ : St) (post : St → Prop) (h : wp_X5_store x1 post σ) : cV l D clA LC ad (EC q ad) (EvC D q ad t aK aV) yX5_store cX5_store 2 none { frames := 0, cells := 0, slots := 0, locals := 0 } [.ref (ad 7 0), .int x1] σ post :=
  ent_v (by decide) (Nat.le_of_ble_eq_true rfl) (fun p e s m below meth c S V hr hlocks hw ls hl => wk_X5_store_0 S V hr hlocks x1  post   σ _ _ ls h  hw (lv_sub hl [0, 1] rfl))
def wp_X5_readNumber_19 (x1 : Int32) (x2 : Int32) (post : Int32 → St → Prop)  (σ : St) : Prop := post 0 σ
set_option maxHeartbeats 4000000 in
set_option maxRecDepth 100000 in
theorem wk_X5_readNumber_19 {p : Program} {l : Launch} {e : Env} {s : State} {m : MethodId} {below : List Frame} {meth : Method} {c : Code} {D : va_G} {q : ClassId × ClassId × ClassId × ClassId} {ad : Nat → Nat → Nat} {t : Nat × Nat} {aK aV : Nat → Nat} {args : Array Value} (S : CallFix p m c cX5_readNumber 4 s args GW "OnChin$Text") (V : EvC D q ad t aK aV s) (hr : meth.sig.returnType = (some .boolean)) (hlocks : meth.locks = false) (x1 : Int32) (x2 : Int32) (post : Int32 → St → Prop)  : ∀ (σ : St) (H : Heap) (locs : List Loc) (ls : Array Slot), wp_X5_readNumber_19 x1 x2 post  σ → wo D clA LC ad s.heap H locs (EC q ad σ) → lv_has ls 4 [(0, .ref (ad 7 0)), (1, .int x1), (2, .int x2)] → W p l e { frames := 2, cells := 0, slots := 0, locals := 41 } s m args below meth c H locs 0 0 (MQ below (zQi D clA LC ad (EC q ad) post) args s 0 0 (zA LC ad)) (F0 m 19 ls []) := by
  have hx := S.1
  have hb := S.2.1
  intro  σ H locs ls h  hw hl
  refine lv_iconst (v := 0) hx hb dX5_readNumber_19 (by decide) ?_
  exact ret_z S hr hlocks hw (by decide) h dX5_readNumber_20
def wp_X5_readNumber (x1 : Int32) (x2 : Int32) (post : Int32 → St → Prop)  (σ : St) : Prop := wp_X5_number (fun r1 σ1 => ((r1 = (-1) → wp_X5_readNumber_19 x1 x2 post  σ1) ∧ (¬ r1 = (-1) → wp_X8_within r1 x1 x2 (fun r2 σ2 => ((¬ r2 = 0 → wp_X5_store r1 (fun σ3 => wp_X5_readToken (fun σ4 => post 1 σ4) σ3) σ2) ∧ (r2 = 0 → wp_X5_readNumber_19 x1 x2 post  σ2))) σ1))) σ
set_option maxHeartbeats 4000000 in
set_option maxRecDepth 100000 in
theorem wk_X5_readNumber_0 {p : Program} {l : Launch} {e : Env} {s : State} {m : MethodId} {below : List Frame} {meth : Method} {c : Code} {D : va_G} {q : ClassId × ClassId × ClassId × ClassId} {ad : Nat → Nat → Nat} {t : Nat × Nat} {aK aV : Nat → Nat} {args : Array Value} (S : CallFix p m c cX5_readNumber 4 s args GW "OnChin$Text") (V : EvC D q ad t aK aV s) (hr : meth.sig.returnType = (some .boolean)) (hlocks : meth.locks = false) (x1 : Int32) (x2 : Int32) (post : Int32 → St → Prop)  : ∀ (σ : St) (H : Heap) (locs : List Loc) (ls : Array Slot), wp_X5_readNumber x1 x2 post  σ → wo D clA LC ad s.heap H locs (EC q ad σ) → lv_has ls 4 [(0, .ref (ad 7 0)), (1, .int x1), (2, .int x2)] → W p l e { frames := 2, cells := 0, slots := 0, locals := 41 } s m args below meth c H locs 0 0 (MQ below (zQi D clA LC ad (EC q ad) post) args s 0 0 (zA LC ad)) (F0 m 0 ls []) := by
  have hx := S.1
  have hb := S.2.1
  intro  σ H locs ls h  hw hl
  have h : wp_X5_number (fun r1 σ1 => ((r1 = (-1) → wp_X5_readNumber_19 x1 x2 post  σ1) ∧ (¬ r1 = (-1) → wp_X8_within r1 x1 x2 (fun r2 σ2 => ((¬ r2 = 0 → wp_X5_store r1 (fun σ3 => wp_X5_readToken (fun σ4 => post 1 σ4) σ3) σ2) ∧ (r2 = 0 → wp_X5_readNumber_19 x1 x2 post  σ2))) σ1))) σ := h
  refine lv_aload_n hx hb dX5_readNumber_0 rfl (lv_at hl 0 rfl) ?_
  refine call_Vi (As := []) (rest := []) EvC_ok S V hw (mt_X5_number l D q ad t aK aV   σ _ h) ok_X5_number ml_X5_138 (rC_7 S V hw (Nat.le_of_ble_eq_true rfl)) ⟨(Nat.le_of_ble_eq_true rfl), (Nat.le_of_ble_eq_true rfl)⟩ ⟨rfl, rfl⟩ rfl hl.1 rfl (Nat.le_of_ble_eq_true rfl) dX5_readNumber_1 (fun r1 σ1 H locs h hw => ?_)
  refine lv_istore_n (lv' := [(3, .int r1), (0, .ref (ad 7 0)), (1, .int x1), (2, .int x2)]) hx hb dX5_readNumber_4 rfl hl (by decide) rfl (fun ls hl => ?_)
  refine lv_iload_n hx hb dX5_readNumber_5 rfl (lv_at hl 0 rfl) ?_
  refine lv_iconst (v := (-1)) hx hb dX5_readNumber_6 (by decide) ?_
  refine lv_icmp_eq (tgt := 19) hx hb dX5_readNumber_7 (by decide) (fun hc => ?_) (fun hc => ?_)
  · have h := h.1 hc
    exact wk_X5_readNumber_19 S V hr hlocks x1 x2   post   _ _ _ _ h  hw (lv_sub hl [1, 2, 3] rfl)
  · have h := h.2 hc
    refine lv_iload_n hx hb dX5_readNumber_10 rfl (lv_at hl 0 rfl) ?_
    refine lv_iload_n hx hb dX5_readNumber_11 rfl (lv_at hl 2 rfl) ?_
    refine lv_iload_n hx hb dX5_readNumber_12 rfl (lv_at hl 3 rfl) ?_
    refine call_SNi (As := [.int r1, .int x1, .int x2]) (rest := []) EvC_ok S V hw (mt_X8_within l D q ad t aK aV r1 x1 x2  σ1 _ h) ok_X8_within (V.2.2.1 _ (List.mem_of_getElem? (i := 9) rfl)) ⟨(Nat.le_of_ble_eq_true rfl), (Nat.le_of_ble_eq_true rfl)⟩ ⟨rfl, rfl⟩ rfl hl.1 rfl (Nat.le_of_ble_eq_true rfl) dX5_readNumber_13 (fun r2 σ2 H locs h hw => ?_)
    refine lv_if_ne (tgt := 21) hx hb dX5_readNumber_16 (by decide) (fun hc => ?_) (fun hc => ?_)
    · have h := h.1 hc
      refine lv_aload_n hx hb dX5_readNumber_21 rfl (lv_at hl 1 rfl) ?_
      refine lv_iload_n hx hb dX5_readNumber_22 rfl (lv_at hl 0 rfl) ?_
      refine call_Vv (As := [.int r1]) (rest := []) EvC_ok S V hw (mt_X5_store l D q ad t aK aV r1  σ2 _ h) ok_X5_store ml_X5_126 (rC_7 S V hw (Nat.le_of_ble_eq_true rfl)) ⟨(Nat.le_of_ble_eq_true rfl), (Nat.le_of_ble_eq_true rfl)⟩ ⟨rfl, rfl⟩ rfl hl.1 rfl (Nat.le_of_ble_eq_true rfl) dX5_readNumber_23 (fun σ3 H locs h hw => ?_)
      refine lv_aload_n hx hb dX5_readNumber_26 rfl (lv_at hl 1 rfl) ?_
      refine call_Vv (As := []) (rest := []) EvC_ok S V hw (mt_X5_readToken l D q ad t aK aV   σ3 _ h) ok_X5_readToken ml_X5_56 (rC_7 S V hw (Nat.le_of_ble_eq_true rfl)) ⟨(Nat.le_of_ble_eq_true rfl), (Nat.le_of_ble_eq_true rfl)⟩ ⟨rfl, rfl⟩ rfl hl.1 rfl (Nat.le_of_ble_eq_true rfl) dX5_readNumber_27 (fun σ4 H locs h hw => ?_)
      refine lv_iconst (v := 1) hx hb dX5_readNumber_30 (by decide) ?_
      exact ret_z S hr hlocks hw (by decide) h dX5_readNumber_31
    · have h := h.2 hc
      exact wk_X5_readNumber_19 S V hr hlocks x1 x2   post   _ _ _ _ h  hw (lv_sub hl [1, 2, 3] rfl)
theorem mt_X5_readNumber (l : Launch) (D : va_G) (q : ClassId × ClassId × ClassId × ClassId) (ad : Nat → Nat → Nat) (t : Nat × Nat) (aK aV : Nat → Nat) (x1 : Int32) (x2 : Int32) (σ : St) (post : Int32 → St → Prop) (h : wp_X5_readNumber x1 x2 post σ) : cI l D clA LC ad (EC q ad) (EvC D q ad t aK aV) yX5_readNumber cX5_readNumber 4 (some .boolean) { frames := 2, cells := 0, slots := 0, locals := 41 } [.ref (ad 7 0), .int x1, .int x2] σ post :=
  ent_i (by decide) (Nat.le_of_ble_eq_true rfl) (fun p e s m below meth c S V hr hlocks hw ls hl => wk_X5_readNumber_0 S V hr hlocks x1 x2  post   σ _ _ ls h  hw (lv_sub hl [0, 1, 2] rfl))
def wp_X5_kindNamed_47 (post : Int32 → St → Prop) (xs0 : Int32) (σ : St) : Prop := post xs0 σ
set_option maxHeartbeats 4000000 in
set_option maxRecDepth 100000 in
theorem wk_X5_kindNamed_47 {p : Program} {l : Launch} {e : Env} {s : State} {m : MethodId} {below : List Frame} {meth : Method} {c : Code} {D : va_G} {q : ClassId × ClassId × ClassId × ClassId} {ad : Nat → Nat → Nat} {t : Nat × Nat} {aK aV : Nat → Nat} {args : Array Value} (S : CallFix p m c cX5_kindNamed 1 s args GW "OnChin$Text") (V : EvC D q ad t aK aV s) (hr : meth.sig.returnType = (some .int)) (hlocks : meth.locks = false) (post : Int32 → St → Prop)  : ∀ (xs0 : Int32) (σ : St) (H : Heap) (locs : List Loc) (ls : Array Slot), wp_X5_kindNamed_47 post xs0 σ → wo D clA LC ad s.heap H locs (EC q ad σ) → lv_has ls 1 [(0, .ref (ad 7 0))] → W p l e { frames := 5, cells := 0, slots := 0, locals := 163 } s m args below meth c H locs 0 0 (MQ below (zQi D clA LC ad (EC q ad) post) args s 0 0 (zA LC ad)) (F0 m 47 ls [.int xs0]) := by
  have hx := S.1
  have hb := S.2.1
  intro xs0 σ H locs ls h  hw hl
  exact ret_i S hr hlocks hw h dX5_kindNamed_47
def wp_X5_kindNamed (post : Int32 → St → Prop)  (σ : St) : Prop := wp_X5_says 1 (fun r1 σ1 => ((r1 = 0 → wp_X5_says 2 (fun r2 σ2 => ((r2 = 0 → wp_X5_says 3 (fun r3 σ3 => ((r3 = 0 → wp_X5_says 4 (fun r4 σ4 => ((r4 = 0 → wp_X5_kindNamed_47 post (-1) σ4) ∧ (¬ r4 = 0 → wp_X5_kindNamed_47 post 3 σ4))) σ3) ∧ (¬ r3 = 0 → post 2 σ3))) σ2) ∧ (¬ r2 = 0 → post 1 σ2))) σ1) ∧ (¬ r1 = 0 → post 0 σ1))) σ
set_option maxHeartbeats 4000000 in
set_option maxRecDepth 100000 in
theorem wk_X5_kindNamed_0 {p : Program} {l : Launch} {e : Env} {s : State} {m : MethodId} {below : List Frame} {meth : Method} {c : Code} {D : va_G} {q : ClassId × ClassId × ClassId × ClassId} {ad : Nat → Nat → Nat} {t : Nat × Nat} {aK aV : Nat → Nat} {args : Array Value} (S : CallFix p m c cX5_kindNamed 1 s args GW "OnChin$Text") (V : EvC D q ad t aK aV s) (hr : meth.sig.returnType = (some .int)) (hlocks : meth.locks = false) (post : Int32 → St → Prop)  : ∀ (σ : St) (H : Heap) (locs : List Loc) (ls : Array Slot), wp_X5_kindNamed post  σ → wo D clA LC ad s.heap H locs (EC q ad σ) → lv_has ls 1 [(0, .ref (ad 7 0))] → W p l e { frames := 5, cells := 0, slots := 0, locals := 163 } s m args below meth c H locs 0 0 (MQ below (zQi D clA LC ad (EC q ad) post) args s 0 0 (zA LC ad)) (F0 m 0 ls []) := by
  have hx := S.1
  have hb := S.2.1
  intro  σ H locs ls h  hw hl
  have h : wp_X5_says 1 (fun r1 σ1 => ((r1 = 0 → wp_X5_says 2 (fun r2 σ2 => ((r2 = 0 → wp_X5_says 3 (fun r3 σ3 => ((r3 = 0 → wp_X5_says 4 (fun r4 σ4 => ((r4 = 0 → wp_X5_kindNamed_47 post (-1) σ4) ∧ (¬ r4 = 0 → wp_X5_kindNamed_47 post 3 σ4))) σ3) ∧ (¬ r3 = 0 → post 2 σ3))) σ2) ∧ (¬ r2 = 0 → post 1 σ2))) σ1) ∧ (¬ r1 = 0 → post 0 σ1))) σ := h
  refine lv_aload_n hx hb dX5_kindNamed_0 rfl (lv_at hl 0 rfl) ?_
  refine xl_str S V (i := 1) (Nat.le_of_ble_eq_true rfl) rfl dX5_kindNamed_1 ?_
  refine call_Vi (As := [.ref (aK 1)]) (rest := []) EvC_ok S V hw (mt_X5_says l D q ad t aK aV 1 (Nat.le_of_ble_eq_true rfl) σ _ h) ok_X5_says ml_X5_84 (rC_7 S V hw (Nat.le_of_ble_eq_true rfl)) ⟨(Nat.le_of_ble_eq_true rfl), (Nat.le_of_ble_eq_true rfl)⟩ ⟨rfl, rfl⟩ rfl hl.1 rfl (Nat.le_of_ble_eq_true rfl) dX5_kindNamed_3 (fun r1 σ1 H locs h hw => ?_)
  refine lv_if_eq (tgt := 11) hx hb dX5_kindNamed_6 (by decide) (fun hc => ?_) (fun hc => ?_)
  · have h := h.1 hc
    refine lv_aload_n hx hb dX5_kindNamed_11 rfl (lv_at hl 0 rfl) ?_
    refine xl_str S V (i := 2) (Nat.le_of_ble_eq_true rfl) rfl dX5_kindNamed_12 ?_
    refine call_Vi (As := [.ref (aK 2)]) (rest := []) EvC_ok S V hw (mt_X5_says l D q ad t aK aV 2 (Nat.le_of_ble_eq_true rfl) σ1 _ h) ok_X5_says ml_X5_84 (rC_7 S V hw (Nat.le_of_ble_eq_true rfl)) ⟨(Nat.le_of_ble_eq_true rfl), (Nat.le_of_ble_eq_true rfl)⟩ ⟨rfl, rfl⟩ rfl hl.1 rfl (Nat.le_of_ble_eq_true rfl) dX5_kindNamed_14 (fun r2 σ2 H locs h hw => ?_)
    refine lv_if_eq (tgt := 22) hx hb dX5_kindNamed_17 (by decide) (fun hc => ?_) (fun hc => ?_)
    · have h := h.1 hc
      refine lv_aload_n hx hb dX5_kindNamed_22 rfl (lv_at hl 0 rfl) ?_
      refine xl_str S V (i := 3) (Nat.le_of_ble_eq_true rfl) rfl dX5_kindNamed_23 ?_
      refine call_Vi (As := [.ref (aK 3)]) (rest := []) EvC_ok S V hw (mt_X5_says l D q ad t aK aV 3 (Nat.le_of_ble_eq_true rfl) σ2 _ h) ok_X5_says ml_X5_84 (rC_7 S V hw (Nat.le_of_ble_eq_true rfl)) ⟨(Nat.le_of_ble_eq_true rfl), (Nat.le_of_ble_eq_true rfl)⟩ ⟨rfl, rfl⟩ rfl hl.1 rfl (Nat.le_of_ble_eq_true rfl) dX5_kindNamed_25 (fun r3 σ3 H locs h hw => ?_)
      refine lv_if_eq (tgt := 33) hx hb dX5_kindNamed_28 (by decide) (fun hc => ?_) (fun hc => ?_)
      · have h := h.1 hc
        refine lv_aload_n hx hb dX5_kindNamed_33 rfl (lv_at hl 0 rfl) ?_
        refine xl_str S V (i := 4) (Nat.le_of_ble_eq_true rfl) rfl dX5_kindNamed_34 ?_
        refine call_Vi (As := [.ref (aK 4)]) (rest := []) EvC_ok S V hw (mt_X5_says l D q ad t aK aV 4 (Nat.le_of_ble_eq_true rfl) σ3 _ h) ok_X5_says ml_X5_84 (rC_7 S V hw (Nat.le_of_ble_eq_true rfl)) ⟨(Nat.le_of_ble_eq_true rfl), (Nat.le_of_ble_eq_true rfl)⟩ ⟨rfl, rfl⟩ rfl hl.1 rfl (Nat.le_of_ble_eq_true rfl) dX5_kindNamed_36 (fun r4 σ4 H locs h hw => ?_)
        refine lv_if_eq (tgt := 46) hx hb dX5_kindNamed_39 (by decide) (fun hc => ?_) (fun hc => ?_)
        · have h := h.1 hc
          refine lv_iconst (v := (-1)) hx hb dX5_kindNamed_46 (by decide) ?_
          exact wk_X5_kindNamed_47 S V hr hlocks    post  (-1) _ _ _ _ h  hw (lv_sub hl [0] rfl)
        · have h := h.2 hc
          refine lv_iconst (v := 3) hx hb dX5_kindNamed_42 (by decide) ?_
          refine lv_goto (tgt := 47) hx hb dX5_kindNamed_43 (by decide) ?_
          exact wk_X5_kindNamed_47 S V hr hlocks    post  3 _ _ _ _ h  hw (lv_sub hl [0] rfl)
      · have h := h.2 hc
        refine lv_iconst (v := 2) hx hb dX5_kindNamed_31 (by decide) ?_
        exact ret_i S hr hlocks hw h dX5_kindNamed_32
    · have h := h.2 hc
      refine lv_iconst (v := 1) hx hb dX5_kindNamed_20 (by decide) ?_
      exact ret_i S hr hlocks hw h dX5_kindNamed_21
  · have h := h.2 hc
    refine lv_iconst (v := 0) hx hb dX5_kindNamed_9 (by decide) ?_
    exact ret_i S hr hlocks hw h dX5_kindNamed_10
theorem mt_X5_kindNamed (l : Launch) (D : va_G) (q : ClassId × ClassId × ClassId × ClassId) (ad : Nat → Nat → Nat) (t : Nat × Nat) (aK aV : Nat → Nat)  (σ : St) (post : Int32 → St → Prop) (h : wp_X5_kindNamed post σ) : cI l D clA LC ad (EC q ad) (EvC D q ad t aK aV) yX5_kindNamed cX5_kindNamed 1 (some .int) { frames := 5, cells := 0, slots := 0, locals := 163 } [.ref (ad 7 0)] σ post :=
  ent_i (by decide) (Nat.le_of_ble_eq_true rfl) (fun p e s m below meth c S V hr hlocks hw ls hl => wk_X5_kindNamed_0 S V hr hlocks   post   σ _ _ ls h  hw (lv_sub hl [0] rfl))
def wp_X5_readThing (post : Int32 → St → Prop)  (σ : St) : Prop := (vp_in (σ 7 0 2) 8 ∧ wp_X5_readToken (fun σ1 => wp_X5_readNumber 0 3 (fun r2 σ2 => ((¬ r2 = 0 → wp_X5_kindNamed (fun r3 σ3 => ((¬ r3 = (-1) → wp_X5_store r3 (fun σ4 => wp_X5_readToken (fun σ5 => ((¬ r3 = 0 → wp_X5_readNumber 1 9 (fun r6 σ6 => (narrow .boolean (.int r6) = .int r6 ∧ post r6 σ6)) σ5) ∧ (r3 = 0 → wp_X5_store 0 (fun σ7 => post 1 σ7) σ5))) σ4) σ3) ∧ (r3 = (-1) → post 0 σ3))) σ2) ∧ (r2 = 0 → post 0 σ2))) σ1) (su σ 9 0 ((σ 7 0 2).toNatClampNeg) 0))
set_option maxHeartbeats 4000000 in
set_option maxRecDepth 100000 in
theorem wk_X5_readThing_0 {p : Program} {l : Launch} {e : Env} {s : State} {m : MethodId} {below : List Frame} {meth : Method} {c : Code} {D : va_G} {q : ClassId × ClassId × ClassId × ClassId} {ad : Nat → Nat → Nat} {t : Nat × Nat} {aK aV : Nat → Nat} {args : Array Value} (S : CallFix p m c cX5_readThing 2 s args GW "OnChin$Text") (V : EvC D q ad t aK aV s) (hr : meth.sig.returnType = (some .boolean)) (hlocks : meth.locks = false) (post : Int32 → St → Prop)  : ∀ (σ : St) (H : Heap) (locs : List Loc) (ls : Array Slot), wp_X5_readThing post  σ → wo D clA LC ad s.heap H locs (EC q ad σ) → lv_has ls 2 [(0, .ref (ad 7 0))] → W p l e { frames := 6, cells := 0, slots := 0, locals := 183 } s m args below meth c H locs 0 0 (MQ below (zQi D clA LC ad (EC q ad) post) args s 0 0 (zA LC ad)) (F0 m 0 ls []) := by
  have hx := S.1
  have hb := S.2.1
  intro  σ H locs ls h  hw hl
  refine lv_aload_n hx hb dX5_readThing_0 rfl (lv_at hl 0 rfl) ?_
  refine gC_7_3 S V hw (Nat.le_of_ble_eq_true rfl) fl_X5_22 dX5_readThing_1 ?_
  refine lv_aload_n hx hb dX5_readThing_4 rfl (lv_at hl 0 rfl) ?_
  refine gC_7_2 S V hw (Nat.le_of_ble_eq_true rfl) fl_X5_19 rfl dX5_readThing_5 ?_
  refine lv_iconst (v := 0) hx hb dX5_readThing_8 (by decide) ?_
  refine sC_9 S V hw (Nat.le_of_ble_eq_true rfl) h.1 dX5_readThing_9 (fun H locs hw => ?_)
  have h := h.2
  refine lv_aload_n hx hb dX5_readThing_10 rfl (lv_at hl 0 rfl) ?_
  refine call_Vv (As := []) (rest := []) EvC_ok S V hw (mt_X5_readToken l D q ad t aK aV   (su σ 9 0 ((σ 7 0 2).toNatClampNeg) 0) _ h) ok_X5_readToken ml_X5_56 (rC_7 S V hw (Nat.le_of_ble_eq_true rfl)) ⟨(Nat.le_of_ble_eq_true rfl), (Nat.le_of_ble_eq_true rfl)⟩ ⟨rfl, rfl⟩ rfl hl.1 rfl (Nat.le_of_ble_eq_true rfl) dX5_readThing_11 (fun σ1 H locs h hw => ?_)
  refine lv_aload_n hx hb dX5_readThing_14 rfl (lv_at hl 0 rfl) ?_
  refine lv_iconst (v := 0) hx hb dX5_readThing_15 (by decide) ?_
  refine lv_iconst (v := 3) hx hb dX5_readThing_16 (by decide) ?_
  refine call_Vi (As := [.int 0, .int 3]) (rest := []) EvC_ok S V hw (mt_X5_readNumber l D q ad t aK aV 0 3  σ1 _ h) ok_X5_readNumber ml_X5_120 (rC_7 S V hw (Nat.le_of_ble_eq_true rfl)) ⟨(Nat.le_of_ble_eq_true rfl), (Nat.le_of_ble_eq_true rfl)⟩ ⟨rfl, rfl⟩ rfl hl.1 rfl (Nat.le_of_ble_eq_true rfl) dX5_readThing_17 (fun r2 σ2 H locs h hw => ?_)
  refine lv_if_ne (tgt := 25) hx hb dX5_readThing_20 (by decide) (fun hc => ?_) (fun hc => ?_)
  · have h := h.1 hc
    refine lv_aload_n hx hb dX5_readThing_25 rfl (lv_at hl 0 rfl) ?_
    refine call_Vi (As := []) (rest := []) EvC_ok S V hw (mt_X5_kindNamed l D q ad t aK aV   σ2 _ h) ok_X5_kindNamed ml_X5_123 (rC_7 S V hw (Nat.le_of_ble_eq_true rfl)) ⟨(Nat.le_of_ble_eq_true rfl), (Nat.le_of_ble_eq_true rfl)⟩ ⟨rfl, rfl⟩ rfl hl.1 rfl (Nat.le_of_ble_eq_true rfl) dX5_readThing_26 (fun r3 σ3 H locs h hw => ?_)
    refine lv_istore_n (lv' := [(1, .int r3), (0, .ref (ad 7 0))]) hx hb dX5_readThing_29 rfl hl (by decide) rfl (fun ls hl => ?_)
    refine lv_iload_n hx hb dX5_readThing_30 rfl (lv_at hl 0 rfl) ?_
    refine lv_iconst (v := (-1)) hx hb dX5_readThing_31 (by decide) ?_
    refine lv_icmp_ne (tgt := 37) hx hb dX5_readThing_32 (by decide) (fun hc => ?_) (fun hc => ?_)
    · have h := h.1 hc
      refine lv_aload_n hx hb dX5_readThing_37 rfl (lv_at hl 1 rfl) ?_
      refine lv_iload_n hx hb dX5_readThing_38 rfl (lv_at hl 0 rfl) ?_
      refine call_Vv (As := [.int r3]) (rest := []) EvC_ok S V hw (mt_X5_store l D q ad t aK aV r3  σ3 _ h) ok_X5_store ml_X5_126 (rC_7 S V hw (Nat.le_of_ble_eq_true rfl)) ⟨(Nat.le_of_ble_eq_true rfl), (Nat.le_of_ble_eq_true rfl)⟩ ⟨rfl, rfl⟩ rfl hl.1 rfl (Nat.le_of_ble_eq_true rfl) dX5_readThing_39 (fun σ4 H locs h hw => ?_)
      refine lv_aload_n hx hb dX5_readThing_42 rfl (lv_at hl 1 rfl) ?_
      refine call_Vv (As := []) (rest := []) EvC_ok S V hw (mt_X5_readToken l D q ad t aK aV   σ4 _ h) ok_X5_readToken ml_X5_56 (rC_7 S V hw (Nat.le_of_ble_eq_true rfl)) ⟨(Nat.le_of_ble_eq_true rfl), (Nat.le_of_ble_eq_true rfl)⟩ ⟨rfl, rfl⟩ rfl hl.1 rfl (Nat.le_of_ble_eq_true rfl) dX5_readThing_43 (fun σ5 H locs h hw => ?_)
      refine lv_iload_n hx hb dX5_readThing_46 rfl (lv_at hl 0 rfl) ?_
      refine lv_if_ne (tgt := 57) hx hb dX5_readThing_47 (by decide) (fun hc => ?_) (fun hc => ?_)
      · have h := h.1 hc
        refine lv_aload_n hx hb dX5_readThing_57 rfl (lv_at hl 1 rfl) ?_
        refine lv_iconst (v := 1) hx hb dX5_readThing_58 (by decide) ?_
        refine lv_bipush (v := 9) hx hb dX5_readThing_59 (by decide) ?_
        refine call_Vi (As := [.int 1, .int 9]) (rest := []) EvC_ok S V hw (mt_X5_readNumber l D q ad t aK aV 1 9  σ5 _ h) ok_X5_readNumber ml_X5_120 (rC_7 S V hw (Nat.le_of_ble_eq_true rfl)) ⟨(Nat.le_of_ble_eq_true rfl), (Nat.le_of_ble_eq_true rfl)⟩ ⟨rfl, rfl⟩ rfl hl.1 rfl (Nat.le_of_ble_eq_true rfl) dX5_readThing_61 (fun r6 σ6 H locs h hw => ?_)
        exact ret_z S hr hlocks hw h.1 h.2 dX5_readThing_64
      · have h := h.2 hc
        refine lv_aload_n hx hb dX5_readThing_50 rfl (lv_at hl 1 rfl) ?_
        refine lv_iconst (v := 0) hx hb dX5_readThing_51 (by decide) ?_
        refine call_Vv (As := [.int 0]) (rest := []) EvC_ok S V hw (mt_X5_store l D q ad t aK aV 0  σ5 _ h) ok_X5_store ml_X5_126 (rC_7 S V hw (Nat.le_of_ble_eq_true rfl)) ⟨(Nat.le_of_ble_eq_true rfl), (Nat.le_of_ble_eq_true rfl)⟩ ⟨rfl, rfl⟩ rfl hl.1 rfl (Nat.le_of_ble_eq_true rfl) dX5_readThing_52 (fun σ7 H locs h hw => ?_)
        refine lv_iconst (v := 1) hx hb dX5_readThing_55 (by decide) ?_
        exact ret_z S hr hlocks hw (by decide) h dX5_readThing_56
    · have h := h.2 hc
      refine lv_iconst (v := 0) hx hb dX5_readThing_35 (by decide) ?_
      exact ret_z S hr hlocks hw (by decide) h dX5_readThing_36
  · have h := h.2 hc
    refine lv_iconst (v := 0) hx hb dX5_readThing_23 (by decide) ?_
    exact ret_z S hr hlocks hw (by decide) h dX5_readThing_24
theorem mt_X5_readThing (l : Launch) (D : va_G) (q : ClassId × ClassId × ClassId × ClassId) (ad : Nat → Nat → Nat) (t : Nat × Nat) (aK aV : Nat → Nat)  (σ : St) (post : Int32 → St → Prop) (h : wp_X5_readThing post σ) : cI l D clA LC ad (EC q ad) (EvC D q ad t aK aV) yX5_readThing cX5_readThing 2 (some .boolean) { frames := 6, cells := 0, slots := 0, locals := 183 } [.ref (ad 7 0)] σ post :=
  ent_i (by decide) (Nat.le_of_ble_eq_true rfl) (fun p e s m below meth c S V hr hlocks hw ls hl => wk_X5_readThing_0 S V hr hlocks   post   σ _ _ ls h  hw (lv_sub hl [0] rfl))
def wp_X5_readLump_36 (post : Int32 → St → Prop)  (σ : St) : Prop := post 0 σ
set_option maxHeartbeats 4000000 in
set_option maxRecDepth 100000 in
theorem wk_X5_readLump_36 {p : Program} {l : Launch} {e : Env} {s : State} {m : MethodId} {below : List Frame} {meth : Method} {c : Code} {D : va_G} {q : ClassId × ClassId × ClassId × ClassId} {ad : Nat → Nat → Nat} {t : Nat × Nat} {aK aV : Nat → Nat} {args : Array Value} (S : CallFix p m c cX5_readLump 2 s args GW "OnChin$Text") (V : EvC D q ad t aK aV s) (hr : meth.sig.returnType = (some .boolean)) (hlocks : meth.locks = false) (post : Int32 → St → Prop)  : ∀ (σ : St) (H : Heap) (locs : List Loc) (ls : Array Slot), wp_X5_readLump_36 post  σ → wo D clA LC ad s.heap H locs (EC q ad σ) → lv_has ls 2 [(0, .ref (ad 7 0))] → W p l e { frames := 3, cells := 0, slots := 0, locals := 64 } s m args below meth c H locs 0 0 (MQ below (zQi D clA LC ad (EC q ad) post) args s 0 0 (zA LC ad)) (F0 m 36 ls []) := by
  have hx := S.1
  have hb := S.2.1
  intro  σ H locs ls h  hw hl
  refine lv_iconst (v := 0) hx hb dX5_readLump_36 (by decide) ?_
  exact ret_z S hr hlocks hw (by decide) h dX5_readLump_37
def wp_X5_readLump_83 (post : Int32 → St → Prop) (xs0 : Int32) (σ : St) : Prop := (narrow .boolean (.int xs0) = .int xs0 ∧ post xs0 σ)
set_option maxHeartbeats 4000000 in
set_option maxRecDepth 100000 in
theorem wk_X5_readLump_83 {p : Program} {l : Launch} {e : Env} {s : State} {m : MethodId} {below : List Frame} {meth : Method} {c : Code} {D : va_G} {q : ClassId × ClassId × ClassId × ClassId} {ad : Nat → Nat → Nat} {t : Nat × Nat} {aK aV : Nat → Nat} {args : Array Value} (S : CallFix p m c cX5_readLump 2 s args GW "OnChin$Text") (V : EvC D q ad t aK aV s) (hr : meth.sig.returnType = (some .boolean)) (hlocks : meth.locks = false) (post : Int32 → St → Prop)  : ∀ (xs0 : Int32) (σ : St) (H : Heap) (locs : List Loc) (ls : Array Slot), wp_X5_readLump_83 post xs0 σ → wo D clA LC ad s.heap H locs (EC q ad σ) → lv_has ls 2 [(0, .ref (ad 7 0))] → W p l e { frames := 3, cells := 0, slots := 0, locals := 64 } s m args below meth c H locs 0 0 (MQ below (zQi D clA LC ad (EC q ad) post) args s 0 0 (zA LC ad)) (F0 m 83 ls [.int xs0]) := by
  have hx := S.1
  have hb := S.2.1
  intro xs0 σ H locs ls h  hw hl
  exact ret_z S hr hlocks hw h.1 h.2 dX5_readLump_83
def wp_X5_readLump_82 (post : Int32 → St → Prop)  (σ : St) : Prop := wp_X5_readLump_83 post 0 σ
set_option maxHeartbeats 4000000 in
set_option maxRecDepth 100000 in
theorem wk_X5_readLump_82 {p : Program} {l : Launch} {e : Env} {s : State} {m : MethodId} {below : List Frame} {meth : Method} {c : Code} {D : va_G} {q : ClassId × ClassId × ClassId × ClassId} {ad : Nat → Nat → Nat} {t : Nat × Nat} {aK aV : Nat → Nat} {args : Array Value} (S : CallFix p m c cX5_readLump 2 s args GW "OnChin$Text") (V : EvC D q ad t aK aV s) (hr : meth.sig.returnType = (some .boolean)) (hlocks : meth.locks = false) (post : Int32 → St → Prop)  : ∀ (σ : St) (H : Heap) (locs : List Loc) (ls : Array Slot), wp_X5_readLump_82 post  σ → wo D clA LC ad s.heap H locs (EC q ad σ) → lv_has ls 2 [(0, .ref (ad 7 0))] → W p l e { frames := 3, cells := 0, slots := 0, locals := 64 } s m args below meth c H locs 0 0 (MQ below (zQi D clA LC ad (EC q ad) post) args s 0 0 (zA LC ad)) (F0 m 82 ls []) := by
  have hx := S.1
  have hb := S.2.1
  intro  σ H locs ls h  hw hl
  have h : wp_X5_readLump_83 post 0 σ := h
  refine lv_iconst (v := 0) hx hb dX5_readLump_82 (by decide) ?_
  exact wk_X5_readLump_83 S V hr hlocks    post  0 _ _ _ _ h  hw (lv_sub hl [0] rfl)
def wp_X5_readLump (post : Int32 → St → Prop)  (σ : St) : Prop := (vp_in (σ 7 0 2) 8 ∧ wp_X5_readToken (fun σ1 => wp_X5_number (fun r2 σ2 => wp_X8_isThing r2 (fun r3 σ3 => ((r3 = 0 → wp_X5_readLump_36 post  σ3) ∧ (¬ r3 = 0 → (vp_in r2 4 ∧ (((σ3 12 0 r2.toNatClampNeg) < 4 → (vp_in r2 4 ∧ (vp_in r2 4 ∧ wp_X5_readNumber 0 3 (fun r4 σ4 => ((r4 = 0 → wp_X5_readLump_82 post  σ4) ∧ (¬ r4 = 0 → wp_X5_readNumber 1 300 (fun r5 σ5 => ((r5 = 0 → wp_X5_readLump_82 post  σ5) ∧ (¬ r5 = 0 → wp_X5_readNumber 1 99 (fun r6 σ6 => ((r6 = 0 → wp_X5_readLump_82 post  σ6) ∧ (¬ r6 = 0 → wp_X5_readLump_83 post 1 σ6))) σ5))) σ4))) (su σ3 12 0 r2.toNatClampNeg ((σ3 12 0 r2.toNatClampNeg) + 1))))) ∧ (¬ (σ3 12 0 r2.toNatClampNeg) < 4 → wp_X5_readLump_36 post  σ3)))))) σ2) σ1) (su σ 9 0 ((σ 7 0 2).toNatClampNeg) 1))
set_option maxHeartbeats 4000000 in
set_option maxRecDepth 100000 in
theorem wk_X5_readLump_0 {p : Program} {l : Launch} {e : Env} {s : State} {m : MethodId} {below : List Frame} {meth : Method} {c : Code} {D : va_G} {q : ClassId × ClassId × ClassId × ClassId} {ad : Nat → Nat → Nat} {t : Nat × Nat} {aK aV : Nat → Nat} {args : Array Value} (S : CallFix p m c cX5_readLump 2 s args GW "OnChin$Text") (V : EvC D q ad t aK aV s) (hr : meth.sig.returnType = (some .boolean)) (hlocks : meth.locks = false) (post : Int32 → St → Prop)  : ∀ (σ : St) (H : Heap) (locs : List Loc) (ls : Array Slot), wp_X5_readLump post  σ → wo D clA LC ad s.heap H locs (EC q ad σ) → lv_has ls 2 [(0, .ref (ad 7 0))] → W p l e { frames := 3, cells := 0, slots := 0, locals := 64 } s m args below meth c H locs 0 0 (MQ below (zQi D clA LC ad (EC q ad) post) args s 0 0 (zA LC ad)) (F0 m 0 ls []) := by
  have hx := S.1
  have hb := S.2.1
  intro  σ H locs ls h  hw hl
  refine lv_aload_n hx hb dX5_readLump_0 rfl (lv_at hl 0 rfl) ?_
  refine gC_7_3 S V hw (Nat.le_of_ble_eq_true rfl) fl_X5_22 dX5_readLump_1 ?_
  refine lv_aload_n hx hb dX5_readLump_4 rfl (lv_at hl 0 rfl) ?_
  refine gC_7_2 S V hw (Nat.le_of_ble_eq_true rfl) fl_X5_19 rfl dX5_readLump_5 ?_
  refine lv_iconst (v := 1) hx hb dX5_readLump_8 (by decide) ?_
  refine sC_9 S V hw (Nat.le_of_ble_eq_true rfl) h.1 dX5_readLump_9 (fun H locs hw => ?_)
  have h := h.2
  refine lv_aload_n hx hb dX5_readLump_10 rfl (lv_at hl 0 rfl) ?_
  refine call_Vv (As := []) (rest := []) EvC_ok S V hw (mt_X5_readToken l D q ad t aK aV   (su σ 9 0 ((σ 7 0 2).toNatClampNeg) 1) _ h) ok_X5_readToken ml_X5_56 (rC_7 S V hw (Nat.le_of_ble_eq_true rfl)) ⟨(Nat.le_of_ble_eq_true rfl), (Nat.le_of_ble_eq_true rfl)⟩ ⟨rfl, rfl⟩ rfl hl.1 rfl (Nat.le_of_ble_eq_true rfl) dX5_readLump_11 (fun σ1 H locs h hw => ?_)
  refine lv_aload_n hx hb dX5_readLump_14 rfl (lv_at hl 0 rfl) ?_
  refine call_Vi (As := []) (rest := []) EvC_ok S V hw (mt_X5_number l D q ad t aK aV   σ1 _ h) ok_X5_number ml_X5_138 (rC_7 S V hw (Nat.le_of_ble_eq_true rfl)) ⟨(Nat.le_of_ble_eq_true rfl), (Nat.le_of_ble_eq_true rfl)⟩ ⟨rfl, rfl⟩ rfl hl.1 rfl (Nat.le_of_ble_eq_true rfl) dX5_readLump_15 (fun r2 σ2 H locs h hw => ?_)
  refine lv_istore_n (lv' := [(1, .int r2), (0, .ref (ad 7 0))]) hx hb dX5_readLump_18 rfl hl (by decide) rfl (fun ls hl => ?_)
  refine lv_iload_n hx hb dX5_readLump_19 rfl (lv_at hl 0 rfl) ?_
  refine call_SNi (As := [.int r2]) (rest := []) EvC_ok S V hw (mt_X8_isThing l D q ad t aK aV r2  σ2 _ h) ok_X8_isThing (V.2.2.1 _ (List.mem_of_getElem? (i := 10) rfl)) ⟨(Nat.le_of_ble_eq_true rfl), (Nat.le_of_ble_eq_true rfl)⟩ ⟨rfl, rfl⟩ rfl hl.1 rfl (Nat.le_of_ble_eq_true rfl) dX5_readLump_20 (fun r3 σ3 H locs h hw => ?_)
  refine lv_if_eq (tgt := 36) hx hb dX5_readLump_23 (by decide) (fun hc => ?_) (fun hc => ?_)
  · have h := h.1 hc
    exact wk_X5_readLump_36 S V hr hlocks    post   _ _ _ _ h  hw (lv_sub hl [1] rfl)
  · have h := h.2 hc
    refine lv_aload_n hx hb dX5_readLump_26 rfl (lv_at hl 1 rfl) ?_
    refine gC_7_7 S V hw (Nat.le_of_ble_eq_true rfl) fl_X5_34 dX5_readLump_27 ?_
    refine lv_iload_n hx hb dX5_readLump_30 rfl (lv_at hl 0 rfl) ?_
    refine aC_12 S V hw (Nat.le_of_ble_eq_true rfl) h.1 (z := (σ3 12 0 r2.toNatClampNeg)) rfl dX5_readLump_31 ?_
    have h := h.2
    refine lv_iconst (v := 4) hx hb dX5_readLump_32 (by decide) ?_
    refine lv_icmp_lt (tgt := 38) hx hb dX5_readLump_33 (by decide) (fun hc => ?_) (fun hc => ?_)
    · have h := h.1 hc
      refine lv_aload_n hx hb dX5_readLump_38 rfl (lv_at hl 1 rfl) ?_
      refine gC_7_7 S V hw (Nat.le_of_ble_eq_true rfl) fl_X5_34 dX5_readLump_39 ?_
      refine lv_iload_n hx hb dX5_readLump_42 rfl (lv_at hl 0 rfl) ?_
      refine lv_dup2_11 hx hb dX5_readLump_43 rfl rfl ?_
      refine aC_12 S V hw (Nat.le_of_ble_eq_true rfl) h.1 (z := (σ3 12 0 r2.toNatClampNeg)) rfl dX5_readLump_44 ?_
      have h := h.2
      refine lv_iconst (v := 1) hx hb dX5_readLump_45 (by decide) ?_
      refine lv_iadd hx hb dX5_readLump_46 ?_
      refine sC_12 S V hw (Nat.le_of_ble_eq_true rfl) h.1 dX5_readLump_47 (fun H locs hw => ?_)
      have h := h.2
      refine lv_aload_n hx hb dX5_readLump_48 rfl (lv_at hl 1 rfl) ?_
      refine lv_iconst (v := 0) hx hb dX5_readLump_49 (by decide) ?_
      refine lv_iconst (v := 3) hx hb dX5_readLump_50 (by decide) ?_
      refine call_Vi (As := [.int 0, .int 3]) (rest := []) EvC_ok S V hw (mt_X5_readNumber l D q ad t aK aV 0 3  (su σ3 12 0 r2.toNatClampNeg ((σ3 12 0 r2.toNatClampNeg) + 1)) _ h) ok_X5_readNumber ml_X5_120 (rC_7 S V hw (Nat.le_of_ble_eq_true rfl)) ⟨(Nat.le_of_ble_eq_true rfl), (Nat.le_of_ble_eq_true rfl)⟩ ⟨rfl, rfl⟩ rfl hl.1 rfl (Nat.le_of_ble_eq_true rfl) dX5_readLump_51 (fun r4 σ4 H locs h hw => ?_)
      refine lv_if_eq (tgt := 82) hx hb dX5_readLump_54 (by decide) (fun hc => ?_) (fun hc => ?_)
      · have h := h.1 hc
        exact wk_X5_readLump_82 S V hr hlocks    post   _ _ _ _ h  hw (lv_sub hl [1] rfl)
      · have h := h.2 hc
        refine lv_aload_n hx hb dX5_readLump_57 rfl (lv_at hl 1 rfl) ?_
        refine lv_iconst (v := 1) hx hb dX5_readLump_58 (by decide) ?_
        refine lv_sipush (v := 300) hx hb dX5_readLump_59 (by decide) ?_
        refine call_Vi (As := [.int 1, .int 300]) (rest := []) EvC_ok S V hw (mt_X5_readNumber l D q ad t aK aV 1 300  σ4 _ h) ok_X5_readNumber ml_X5_120 (rC_7 S V hw (Nat.le_of_ble_eq_true rfl)) ⟨(Nat.le_of_ble_eq_true rfl), (Nat.le_of_ble_eq_true rfl)⟩ ⟨rfl, rfl⟩ rfl hl.1 rfl (Nat.le_of_ble_eq_true rfl) dX5_readLump_62 (fun r5 σ5 H locs h hw => ?_)
        refine lv_if_eq (tgt := 82) hx hb dX5_readLump_65 (by decide) (fun hc => ?_) (fun hc => ?_)
        · have h := h.1 hc
          exact wk_X5_readLump_82 S V hr hlocks    post   _ _ _ _ h  hw (lv_sub hl [1] rfl)
        · have h := h.2 hc
          refine lv_aload_n hx hb dX5_readLump_68 rfl (lv_at hl 1 rfl) ?_
          refine lv_iconst (v := 1) hx hb dX5_readLump_69 (by decide) ?_
          refine lv_bipush (v := 99) hx hb dX5_readLump_70 (by decide) ?_
          refine call_Vi (As := [.int 1, .int 99]) (rest := []) EvC_ok S V hw (mt_X5_readNumber l D q ad t aK aV 1 99  σ5 _ h) ok_X5_readNumber ml_X5_120 (rC_7 S V hw (Nat.le_of_ble_eq_true rfl)) ⟨(Nat.le_of_ble_eq_true rfl), (Nat.le_of_ble_eq_true rfl)⟩ ⟨rfl, rfl⟩ rfl hl.1 rfl (Nat.le_of_ble_eq_true rfl) dX5_readLump_72 (fun r6 σ6 H locs h hw => ?_)
          refine lv_if_eq (tgt := 82) hx hb dX5_readLump_75 (by decide) (fun hc => ?_) (fun hc => ?_)
          · have h := h.1 hc
            exact wk_X5_readLump_82 S V hr hlocks    post   _ _ _ _ h  hw (lv_sub hl [1] rfl)
          · have h := h.2 hc
            refine lv_iconst (v := 1) hx hb dX5_readLump_78 (by decide) ?_
            refine lv_goto (tgt := 83) hx hb dX5_readLump_79 (by decide) ?_
            exact wk_X5_readLump_83 S V hr hlocks    post  1 _ _ _ _ h  hw (lv_sub hl [1] rfl)
    · have h := h.2 hc
      exact wk_X5_readLump_36 S V hr hlocks    post   _ _ _ _ h  hw (lv_sub hl [1] rfl)
theorem mt_X5_readLump (l : Launch) (D : va_G) (q : ClassId × ClassId × ClassId × ClassId) (ad : Nat → Nat → Nat) (t : Nat × Nat) (aK aV : Nat → Nat)  (σ : St) (post : Int32 → St → Prop) (h : wp_X5_readLump post σ) : cI l D clA LC ad (EC q ad) (EvC D q ad t aK aV) yX5_readLump cX5_readLump 2 (some .boolean) { frames := 3, cells := 0, slots := 0, locals := 64 } [.ref (ad 7 0)] σ post :=
  ent_i (by decide) (Nat.le_of_ble_eq_true rfl) (fun p e s m below meth c S V hr hlocks hw ls hl => wk_X5_readLump_0 S V hr hlocks   post   σ _ _ ls h  hw (lv_sub hl [0] rfl))
def wp_X5_readBare (post : Int32 → St → Prop)  (σ : St) : Prop := (vp_in (σ 7 0 2) 8 ∧ wp_X5_readToken (fun σ1 => wp_X5_number (fun r2 σ2 => wp_X8_isThing r2 (fun r3 σ3 => ((¬ r3 = 0 → (vp_in r2 4 ∧ wp_X5_readNumber 0 3 (fun r4 σ4 => (narrow .boolean (.int r4) = .int r4 ∧ post r4 σ4)) (su σ3 12 0 r2.toNatClampNeg 0))) ∧ (r3 = 0 → post 0 σ3))) σ2) σ1) (su σ 9 0 ((σ 7 0 2).toNatClampNeg) 2))
set_option maxHeartbeats 4000000 in
set_option maxRecDepth 100000 in
theorem wk_X5_readBare_0 {p : Program} {l : Launch} {e : Env} {s : State} {m : MethodId} {below : List Frame} {meth : Method} {c : Code} {D : va_G} {q : ClassId × ClassId × ClassId × ClassId} {ad : Nat → Nat → Nat} {t : Nat × Nat} {aK aV : Nat → Nat} {args : Array Value} (S : CallFix p m c cX5_readBare 2 s args GW "OnChin$Text") (V : EvC D q ad t aK aV s) (hr : meth.sig.returnType = (some .boolean)) (hlocks : meth.locks = false) (post : Int32 → St → Prop)  : ∀ (σ : St) (H : Heap) (locs : List Loc) (ls : Array Slot), wp_X5_readBare post  σ → wo D clA LC ad s.heap H locs (EC q ad σ) → lv_has ls 2 [(0, .ref (ad 7 0))] → W p l e { frames := 3, cells := 0, slots := 0, locals := 64 } s m args below meth c H locs 0 0 (MQ below (zQi D clA LC ad (EC q ad) post) args s 0 0 (zA LC ad)) (F0 m 0 ls []) := by
  have hx := S.1
  have hb := S.2.1
  intro  σ H locs ls h  hw hl
  refine lv_aload_n hx hb dX5_readBare_0 rfl (lv_at hl 0 rfl) ?_
  refine gC_7_3 S V hw (Nat.le_of_ble_eq_true rfl) fl_X5_22 dX5_readBare_1 ?_
  refine lv_aload_n hx hb dX5_readBare_4 rfl (lv_at hl 0 rfl) ?_
  refine gC_7_2 S V hw (Nat.le_of_ble_eq_true rfl) fl_X5_19 rfl dX5_readBare_5 ?_
  refine lv_iconst (v := 2) hx hb dX5_readBare_8 (by decide) ?_
  refine sC_9 S V hw (Nat.le_of_ble_eq_true rfl) h.1 dX5_readBare_9 (fun H locs hw => ?_)
  have h := h.2
  refine lv_aload_n hx hb dX5_readBare_10 rfl (lv_at hl 0 rfl) ?_
  refine call_Vv (As := []) (rest := []) EvC_ok S V hw (mt_X5_readToken l D q ad t aK aV   (su σ 9 0 ((σ 7 0 2).toNatClampNeg) 2) _ h) ok_X5_readToken ml_X5_56 (rC_7 S V hw (Nat.le_of_ble_eq_true rfl)) ⟨(Nat.le_of_ble_eq_true rfl), (Nat.le_of_ble_eq_true rfl)⟩ ⟨rfl, rfl⟩ rfl hl.1 rfl (Nat.le_of_ble_eq_true rfl) dX5_readBare_11 (fun σ1 H locs h hw => ?_)
  refine lv_aload_n hx hb dX5_readBare_14 rfl (lv_at hl 0 rfl) ?_
  refine call_Vi (As := []) (rest := []) EvC_ok S V hw (mt_X5_number l D q ad t aK aV   σ1 _ h) ok_X5_number ml_X5_138 (rC_7 S V hw (Nat.le_of_ble_eq_true rfl)) ⟨(Nat.le_of_ble_eq_true rfl), (Nat.le_of_ble_eq_true rfl)⟩ ⟨rfl, rfl⟩ rfl hl.1 rfl (Nat.le_of_ble_eq_true rfl) dX5_readBare_15 (fun r2 σ2 H locs h hw => ?_)
  refine lv_istore_n (lv' := [(1, .int r2), (0, .ref (ad 7 0))]) hx hb dX5_readBare_18 rfl hl (by decide) rfl (fun ls hl => ?_)
  refine lv_iload_n hx hb dX5_readBare_19 rfl (lv_at hl 0 rfl) ?_
  refine call_SNi (As := [.int r2]) (rest := []) EvC_ok S V hw (mt_X8_isThing l D q ad t aK aV r2  σ2 _ h) ok_X8_isThing (V.2.2.1 _ (List.mem_of_getElem? (i := 10) rfl)) ⟨(Nat.le_of_ble_eq_true rfl), (Nat.le_of_ble_eq_true rfl)⟩ ⟨rfl, rfl⟩ rfl hl.1 rfl (Nat.le_of_ble_eq_true rfl) dX5_readBare_20 (fun r3 σ3 H locs h hw => ?_)
  refine lv_if_ne (tgt := 28) hx hb dX5_readBare_23 (by decide) (fun hc => ?_) (fun hc => ?_)
  · have h := h.1 hc
    refine lv_aload_n hx hb dX5_readBare_28 rfl (lv_at hl 1 rfl) ?_
    refine gC_7_7 S V hw (Nat.le_of_ble_eq_true rfl) fl_X5_34 dX5_readBare_29 ?_
    refine lv_iload_n hx hb dX5_readBare_32 rfl (lv_at hl 0 rfl) ?_
    refine lv_iconst (v := 0) hx hb dX5_readBare_33 (by decide) ?_
    refine sC_12 S V hw (Nat.le_of_ble_eq_true rfl) h.1 dX5_readBare_34 (fun H locs hw => ?_)
    have h := h.2
    refine lv_aload_n hx hb dX5_readBare_35 rfl (lv_at hl 1 rfl) ?_
    refine lv_iconst (v := 0) hx hb dX5_readBare_36 (by decide) ?_
    refine lv_iconst (v := 3) hx hb dX5_readBare_37 (by decide) ?_
    refine call_Vi (As := [.int 0, .int 3]) (rest := []) EvC_ok S V hw (mt_X5_readNumber l D q ad t aK aV 0 3  (su σ3 12 0 r2.toNatClampNeg 0) _ h) ok_X5_readNumber ml_X5_120 (rC_7 S V hw (Nat.le_of_ble_eq_true rfl)) ⟨(Nat.le_of_ble_eq_true rfl), (Nat.le_of_ble_eq_true rfl)⟩ ⟨rfl, rfl⟩ rfl hl.1 rfl (Nat.le_of_ble_eq_true rfl) dX5_readBare_38 (fun r4 σ4 H locs h hw => ?_)
    exact ret_z S hr hlocks hw h.1 h.2 dX5_readBare_41
  · have h := h.2 hc
    refine lv_iconst (v := 0) hx hb dX5_readBare_26 (by decide) ?_
    exact ret_z S hr hlocks hw (by decide) h dX5_readBare_27
theorem mt_X5_readBare (l : Launch) (D : va_G) (q : ClassId × ClassId × ClassId × ClassId) (ad : Nat → Nat → Nat) (t : Nat × Nat) (aK aV : Nat → Nat)  (σ : St) (post : Int32 → St → Prop) (h : wp_X5_readBare post σ) : cI l D clA LC ad (EC q ad) (EvC D q ad t aK aV) yX5_readBare cX5_readBare 2 (some .boolean) { frames := 3, cells := 0, slots := 0, locals := 64 } [.ref (ad 7 0)] σ post :=
  ent_i (by decide) (Nat.le_of_ble_eq_true rfl) (fun p e s m below meth c S V hr hlocks hw ls hl => wk_X5_readBare_0 S V hr hlocks   post   σ _ _ ls h  hw (lv_sub hl [0] rfl))
def wp_X5_readNumbers_26 (x1 : Int32) (x2 : Int32) (post : Int32 → St → Prop) : Nat → Int32 → St → Prop
  | 0 => fun _ _ => False
  | n + 1 => fun x3 σ => ((x2 < x3 → post 1 σ) ∧ (¬ x2 < x3 → (vp_in x3 10 ∧ (vp_in x3 10 ∧ wp_X5_readNumber (tLeast.getD x3.toNatClampNeg 0) (tMost.getD x3.toNatClampNeg 0) (fun r1 σ1 => ((¬ r1 = 0 → wp_X5_readNumbers_26 x1 x2 post n (x3 + 1) σ1) ∧ (r1 = 0 → post 0 σ1))) σ))))
set_option maxHeartbeats 4000000 in
set_option maxRecDepth 100000 in
theorem wk_X5_readNumbers_26 {p : Program} {l : Launch} {e : Env} {s : State} {m : MethodId} {below : List Frame} {meth : Method} {c : Code} {D : va_G} {q : ClassId × ClassId × ClassId × ClassId} {ad : Nat → Nat → Nat} {t : Nat × Nat} {aK aV : Nat → Nat} {args : Array Value} (S : CallFix p m c cX5_readNumbers 4 s args GW "OnChin$Text") (V : EvC D q ad t aK aV s) (hr : meth.sig.returnType = (some .boolean)) (hlocks : meth.locks = false) (x1 : Int32) (x2 : Int32) (post : Int32 → St → Prop)  : ∀ (n : Nat) (x3 : Int32) (σ : St) (H : Heap) (locs : List Loc) (ls : Array Slot), wp_X5_readNumbers_26 x1 x2 post n x3 σ → wo D clA LC ad s.heap H locs (EC q ad σ) → lv_has ls 4 [(0, .ref (ad 7 0)), (1, .int x1), (2, .int x2), (3, .int x3)] → W p l e { frames := 3, cells := 0, slots := 0, locals := 64 } s m args below meth c H locs 0 0 (MQ below (zQi D clA LC ad (EC q ad) post) args s 0 0 (zA LC ad)) (F0 m 26 ls []) := by
  have hx := S.1
  have hb := S.2.1
  intro n
  induction n with
  | zero => intro x3 σ H locs ls h; exact False.elim h
  | succ n ih =>
    intro x3 σ H locs ls h  hw hl
    refine lv_iload_n hx hb dX5_readNumbers_26 rfl (lv_at hl 3 rfl) ?_
    refine lv_iload_n hx hb dX5_readNumbers_27 rfl (lv_at hl 2 rfl) ?_
    refine lv_icmp_gt (tgt := 56) hx hb dX5_readNumbers_28 (by decide) (fun hc => ?_) (fun hc => ?_)
    · have h := h.1 hc
      refine lv_iconst (v := 1) hx hb dX5_readNumbers_56 (by decide) ?_
      exact ret_z S hr hlocks hw (by decide) h dX5_readNumbers_57
    · have h := h.2 hc
      refine lv_aload_n hx hb dX5_readNumbers_31 rfl (lv_at hl 0 rfl) ?_
      refine xs_1 S V hw (List.mem_of_getElem? (i := 1) rfl) dX5_readNumbers_32 ?_
      refine lv_iload_n hx hb dX5_readNumbers_35 rfl (lv_at hl 3 rfl) ?_
      refine xt_1 S V hw h.1 (z := (tLeast.getD x3.toNatClampNeg 0)) rfl dX5_readNumbers_36 ?_
      have h := h.2
      refine xs_2 S V hw (List.mem_of_getElem? (i := 2) rfl) dX5_readNumbers_37 ?_
      refine lv_iload_n hx hb dX5_readNumbers_40 rfl (lv_at hl 3 rfl) ?_
      refine xt_2 S V hw h.1 (z := (tMost.getD x3.toNatClampNeg 0)) rfl dX5_readNumbers_41 ?_
      have h := h.2
      refine call_Vi (As := [.int (tLeast.getD x3.toNatClampNeg 0), .int (tMost.getD x3.toNatClampNeg 0)]) (rest := []) EvC_ok S V hw (mt_X5_readNumber l D q ad t aK aV (tLeast.getD x3.toNatClampNeg 0) (tMost.getD x3.toNatClampNeg 0)  σ _ h) ok_X5_readNumber ml_X5_120 (rC_7 S V hw (Nat.le_of_ble_eq_true rfl)) ⟨(Nat.le_of_ble_eq_true rfl), (Nat.le_of_ble_eq_true rfl)⟩ ⟨rfl, rfl⟩ rfl hl.1 rfl (Nat.le_of_ble_eq_true rfl) dX5_readNumbers_42 (fun r1 σ1 H locs h hw => ?_)
      refine lv_if_ne (tgt := 50) hx hb dX5_readNumbers_45 (by decide) (fun hc => ?_) (fun hc => ?_)
      · have h := h.1 hc
        refine lv_iinc (v := (x3 + 1)) (lv' := [(3, .int (x3 + 1)), (0, .ref (ad 7 0)), (1, .int x1), (2, .int x2)]) hx hb dX5_readNumbers_50 hl (k := 3) rfl rfl (by decide) rfl (fun ls hl => ?_)
        refine lv_goto (tgt := 26) hx hb dX5_readNumbers_53 (by decide) ?_
        exact ih (x3 + 1) _ _ _ _ h  hw (lv_sub hl [1, 2, 3, 0] rfl)
      · have h := h.2 hc
        refine lv_iconst (v := 0) hx hb dX5_readNumbers_48 (by decide) ?_
        exact ret_z S hr hlocks hw (by decide) h dX5_readNumbers_49
def wp_X5_readNumbers (x1 : Int32) (x2 : Int32) (post : Int32 → St → Prop)  (σ : St) : Prop := (vp_in (σ 7 0 2) 8 ∧ (vp_in (σ 7 0 2) 8 ∧ wp_X5_readToken (fun σ1 => ∃ nn, wp_X5_readNumbers_26 x1 x2 post nn x1 σ1) (su (su σ 9 0 ((σ 7 0 2).toNatClampNeg) 3) 11 0 ((σ 7 0 2).toNatClampNeg) x1)))
set_option maxHeartbeats 4000000 in
set_option maxRecDepth 100000 in
theorem wk_X5_readNumbers_0 {p : Program} {l : Launch} {e : Env} {s : State} {m : MethodId} {below : List Frame} {meth : Method} {c : Code} {D : va_G} {q : ClassId × ClassId × ClassId × ClassId} {ad : Nat → Nat → Nat} {t : Nat × Nat} {aK aV : Nat → Nat} {args : Array Value} (S : CallFix p m c cX5_readNumbers 4 s args GW "OnChin$Text") (V : EvC D q ad t aK aV s) (hr : meth.sig.returnType = (some .boolean)) (hlocks : meth.locks = false) (x1 : Int32) (x2 : Int32) (post : Int32 → St → Prop)  : ∀ (σ : St) (H : Heap) (locs : List Loc) (ls : Array Slot), wp_X5_readNumbers x1 x2 post  σ → wo D clA LC ad s.heap H locs (EC q ad σ) → lv_has ls 4 [(0, .ref (ad 7 0)), (1, .int x1), (2, .int x2)] → W p l e { frames := 3, cells := 0, slots := 0, locals := 64 } s m args below meth c H locs 0 0 (MQ below (zQi D clA LC ad (EC q ad) post) args s 0 0 (zA LC ad)) (F0 m 0 ls []) := by
  have hx := S.1
  have hb := S.2.1
  intro  σ H locs ls h  hw hl
  refine lv_aload_n hx hb dX5_readNumbers_0 rfl (lv_at hl 0 rfl) ?_
  refine gC_7_3 S V hw (Nat.le_of_ble_eq_true rfl) fl_X5_22 dX5_readNumbers_1 ?_
  refine lv_aload_n hx hb dX5_readNumbers_4 rfl (lv_at hl 0 rfl) ?_
  refine gC_7_2 S V hw (Nat.le_of_ble_eq_true rfl) fl_X5_19 rfl dX5_readNumbers_5 ?_
  refine lv_iconst (v := 3) hx hb dX5_readNumbers_8 (by decide) ?_
  refine sC_9 S V hw (Nat.le_of_ble_eq_true rfl) h.1 dX5_readNumbers_9 (fun H locs hw => ?_)
  have h := h.2
  refine lv_aload_n hx hb dX5_readNumbers_10 rfl (lv_at hl 0 rfl) ?_
  refine gC_7_6 S V hw (Nat.le_of_ble_eq_true rfl) fl_X5_31 dX5_readNumbers_11 ?_
  refine lv_aload_n hx hb dX5_readNumbers_14 rfl (lv_at hl 0 rfl) ?_
  refine gC_7_2 S V hw (Nat.le_of_ble_eq_true rfl) fl_X5_19 (su_nc rfl) dX5_readNumbers_15 ?_
  refine lv_iload_n hx hb dX5_readNumbers_18 rfl (lv_at hl 1 rfl) ?_
  refine sC_11 S V hw (Nat.le_of_ble_eq_true rfl) h.1 dX5_readNumbers_19 (fun H locs hw => ?_)
  have h := h.2
  refine lv_aload_n hx hb dX5_readNumbers_20 rfl (lv_at hl 0 rfl) ?_
  refine call_Vv (As := []) (rest := []) EvC_ok S V hw (mt_X5_readToken l D q ad t aK aV   (su (su σ 9 0 ((σ 7 0 2).toNatClampNeg) 3) 11 0 ((σ 7 0 2).toNatClampNeg) x1) _ h) ok_X5_readToken ml_X5_56 (rC_7 S V hw (Nat.le_of_ble_eq_true rfl)) ⟨(Nat.le_of_ble_eq_true rfl), (Nat.le_of_ble_eq_true rfl)⟩ ⟨rfl, rfl⟩ rfl hl.1 rfl (Nat.le_of_ble_eq_true rfl) dX5_readNumbers_21 (fun σ1 H locs h hw => ?_)
  refine lv_iload_n hx hb dX5_readNumbers_24 rfl (lv_at hl 1 rfl) ?_
  refine lv_istore_n (lv' := [(3, .int x1), (0, .ref (ad 7 0)), (1, .int x1), (2, .int x2)]) hx hb dX5_readNumbers_25 rfl hl (by decide) rfl (fun ls hl => ?_)
  obtain ⟨n9, h⟩ := h
  exact wk_X5_readNumbers_26 S V hr hlocks x1 x2   post  n9 x1 _ _ _ _ h  hw (lv_sub hl [1, 2, 3, 0] rfl)
theorem mt_X5_readNumbers (l : Launch) (D : va_G) (q : ClassId × ClassId × ClassId × ClassId) (ad : Nat → Nat → Nat) (t : Nat × Nat) (aK aV : Nat → Nat) (x1 : Int32) (x2 : Int32) (σ : St) (post : Int32 → St → Prop) (h : wp_X5_readNumbers x1 x2 post σ) : cI l D clA LC ad (EC q ad) (EvC D q ad t aK aV) yX5_readNumbers cX5_readNumbers 4 (some .boolean) { frames := 3, cells := 0, slots := 0, locals := 64 } [.ref (ad 7 0), .int x1, .int x2] σ post :=
  ent_i (by decide) (Nat.le_of_ble_eq_true rfl) (fun p e s m below meth c S V hr hlocks hw ls hl => wk_X5_readNumbers_0 S V hr hlocks x1 x2  post   σ _ _ ls h  hw (lv_sub hl [0, 1, 2] rfl))
def wp_X5_placeNamed_62 (post : Int32 → St → Prop) (xs0 : Int32) (σ : St) : Prop := post xs0 σ
set_option maxHeartbeats 4000000 in
set_option maxRecDepth 100000 in
theorem wk_X5_placeNamed_62 {p : Program} {l : Launch} {e : Env} {s : State} {m : MethodId} {below : List Frame} {meth : Method} {c : Code} {D : va_G} {q : ClassId × ClassId × ClassId × ClassId} {ad : Nat → Nat → Nat} {t : Nat × Nat} {aK aV : Nat → Nat} {args : Array Value} (S : CallFix p m c cX5_placeNamed 1 s args GW "OnChin$Text") (V : EvC D q ad t aK aV s) (hr : meth.sig.returnType = (some .int)) (hlocks : meth.locks = false) (post : Int32 → St → Prop)  : ∀ (xs0 : Int32) (σ : St) (H : Heap) (locs : List Loc) (ls : Array Slot), wp_X5_placeNamed_62 post xs0 σ → wo D clA LC ad s.heap H locs (EC q ad σ) → lv_has ls 1 [(0, .ref (ad 7 0))] → W p l e { frames := 5, cells := 0, slots := 0, locals := 163 } s m args below meth c H locs 0 0 (MQ below (zQi D clA LC ad (EC q ad) post) args s 0 0 (zA LC ad)) (F0 m 62 ls [.int xs0]) := by
  have hx := S.1
  have hb := S.2.1
  intro xs0 σ H locs ls h  hw hl
  exact ret_i S hr hlocks hw h dX5_placeNamed_62
def wp_X5_placeNamed (post : Int32 → St → Prop)  (σ : St) : Prop := wp_X5_says 8 (fun r1 σ1 => ((r1 = 0 → wp_X5_says 9 (fun r2 σ2 => ((r2 = 0 → wp_X5_says 10 (fun r3 σ3 => ((r3 = 0 → wp_X5_says 11 (fun r4 σ4 => ((r4 = 0 → wp_X5_says 12 (fun r5 σ5 => ((r5 = 0 → wp_X5_placeNamed_62 post (-1) σ5) ∧ (¬ r5 = 0 → wp_X5_placeNamed_62 post 9 σ5))) σ4) ∧ (¬ r4 = 0 → post 8 σ4))) σ3) ∧ (¬ r3 = 0 → post 7 σ3))) σ2) ∧ (¬ r2 = 0 → post 6 σ2))) σ1) ∧ (¬ r1 = 0 → post 5 σ1))) σ
set_option maxHeartbeats 4000000 in
set_option maxRecDepth 100000 in
theorem wk_X5_placeNamed_0 {p : Program} {l : Launch} {e : Env} {s : State} {m : MethodId} {below : List Frame} {meth : Method} {c : Code} {D : va_G} {q : ClassId × ClassId × ClassId × ClassId} {ad : Nat → Nat → Nat} {t : Nat × Nat} {aK aV : Nat → Nat} {args : Array Value} (S : CallFix p m c cX5_placeNamed 1 s args GW "OnChin$Text") (V : EvC D q ad t aK aV s) (hr : meth.sig.returnType = (some .int)) (hlocks : meth.locks = false) (post : Int32 → St → Prop)  : ∀ (σ : St) (H : Heap) (locs : List Loc) (ls : Array Slot), wp_X5_placeNamed post  σ → wo D clA LC ad s.heap H locs (EC q ad σ) → lv_has ls 1 [(0, .ref (ad 7 0))] → W p l e { frames := 5, cells := 0, slots := 0, locals := 163 } s m args below meth c H locs 0 0 (MQ below (zQi D clA LC ad (EC q ad) post) args s 0 0 (zA LC ad)) (F0 m 0 ls []) := by
  have hx := S.1
  have hb := S.2.1
  intro  σ H locs ls h  hw hl
  have h : wp_X5_says 8 (fun r1 σ1 => ((r1 = 0 → wp_X5_says 9 (fun r2 σ2 => ((r2 = 0 → wp_X5_says 10 (fun r3 σ3 => ((r3 = 0 → wp_X5_says 11 (fun r4 σ4 => ((r4 = 0 → wp_X5_says 12 (fun r5 σ5 => ((r5 = 0 → wp_X5_placeNamed_62 post (-1) σ5) ∧ (¬ r5 = 0 → wp_X5_placeNamed_62 post 9 σ5))) σ4) ∧ (¬ r4 = 0 → post 8 σ4))) σ3) ∧ (¬ r3 = 0 → post 7 σ3))) σ2) ∧ (¬ r2 = 0 → post 6 σ2))) σ1) ∧ (¬ r1 = 0 → post 5 σ1))) σ := h
  refine lv_aload_n hx hb dX5_placeNamed_0 rfl (lv_at hl 0 rfl) ?_
  refine xl_str S V (i := 8) (Nat.le_of_ble_eq_true rfl) rfl dX5_placeNamed_1 ?_
  refine call_Vi (As := [.ref (aK 8)]) (rest := []) EvC_ok S V hw (mt_X5_says l D q ad t aK aV 8 (Nat.le_of_ble_eq_true rfl) σ _ h) ok_X5_says ml_X5_84 (rC_7 S V hw (Nat.le_of_ble_eq_true rfl)) ⟨(Nat.le_of_ble_eq_true rfl), (Nat.le_of_ble_eq_true rfl)⟩ ⟨rfl, rfl⟩ rfl hl.1 rfl (Nat.le_of_ble_eq_true rfl) dX5_placeNamed_3 (fun r1 σ1 H locs h hw => ?_)
  refine lv_if_eq (tgt := 11) hx hb dX5_placeNamed_6 (by decide) (fun hc => ?_) (fun hc => ?_)
  · have h := h.1 hc
    refine lv_aload_n hx hb dX5_placeNamed_11 rfl (lv_at hl 0 rfl) ?_
    refine xl_str S V (i := 9) (Nat.le_of_ble_eq_true rfl) rfl dX5_placeNamed_12 ?_
    refine call_Vi (As := [.ref (aK 9)]) (rest := []) EvC_ok S V hw (mt_X5_says l D q ad t aK aV 9 (Nat.le_of_ble_eq_true rfl) σ1 _ h) ok_X5_says ml_X5_84 (rC_7 S V hw (Nat.le_of_ble_eq_true rfl)) ⟨(Nat.le_of_ble_eq_true rfl), (Nat.le_of_ble_eq_true rfl)⟩ ⟨rfl, rfl⟩ rfl hl.1 rfl (Nat.le_of_ble_eq_true rfl) dX5_placeNamed_14 (fun r2 σ2 H locs h hw => ?_)
    refine lv_if_eq (tgt := 23) hx hb dX5_placeNamed_17 (by decide) (fun hc => ?_) (fun hc => ?_)
    · have h := h.1 hc
      refine lv_aload_n hx hb dX5_placeNamed_23 rfl (lv_at hl 0 rfl) ?_
      refine xl_str S V (i := 10) (Nat.le_of_ble_eq_true rfl) rfl dX5_placeNamed_24 ?_
      refine call_Vi (As := [.ref (aK 10)]) (rest := []) EvC_ok S V hw (mt_X5_says l D q ad t aK aV 10 (Nat.le_of_ble_eq_true rfl) σ2 _ h) ok_X5_says ml_X5_84 (rC_7 S V hw (Nat.le_of_ble_eq_true rfl)) ⟨(Nat.le_of_ble_eq_true rfl), (Nat.le_of_ble_eq_true rfl)⟩ ⟨rfl, rfl⟩ rfl hl.1 rfl (Nat.le_of_ble_eq_true rfl) dX5_placeNamed_26 (fun r3 σ3 H locs h hw => ?_)
      refine lv_if_eq (tgt := 35) hx hb dX5_placeNamed_29 (by decide) (fun hc => ?_) (fun hc => ?_)
      · have h := h.1 hc
        refine lv_aload_n hx hb dX5_placeNamed_35 rfl (lv_at hl 0 rfl) ?_
        refine xl_str S V (i := 11) (Nat.le_of_ble_eq_true rfl) rfl dX5_placeNamed_36 ?_
        refine call_Vi (As := [.ref (aK 11)]) (rest := []) EvC_ok S V hw (mt_X5_says l D q ad t aK aV 11 (Nat.le_of_ble_eq_true rfl) σ3 _ h) ok_X5_says ml_X5_84 (rC_7 S V hw (Nat.le_of_ble_eq_true rfl)) ⟨(Nat.le_of_ble_eq_true rfl), (Nat.le_of_ble_eq_true rfl)⟩ ⟨rfl, rfl⟩ rfl hl.1 rfl (Nat.le_of_ble_eq_true rfl) dX5_placeNamed_38 (fun r4 σ4 H locs h hw => ?_)
        refine lv_if_eq (tgt := 47) hx hb dX5_placeNamed_41 (by decide) (fun hc => ?_) (fun hc => ?_)
        · have h := h.1 hc
          refine lv_aload_n hx hb dX5_placeNamed_47 rfl (lv_at hl 0 rfl) ?_
          refine xl_str S V (i := 12) (Nat.le_of_ble_eq_true rfl) rfl dX5_placeNamed_48 ?_
          refine call_Vi (As := [.ref (aK 12)]) (rest := []) EvC_ok S V hw (mt_X5_says l D q ad t aK aV 12 (Nat.le_of_ble_eq_true rfl) σ4 _ h) ok_X5_says ml_X5_84 (rC_7 S V hw (Nat.le_of_ble_eq_true rfl)) ⟨(Nat.le_of_ble_eq_true rfl), (Nat.le_of_ble_eq_true rfl)⟩ ⟨rfl, rfl⟩ rfl hl.1 rfl (Nat.le_of_ble_eq_true rfl) dX5_placeNamed_50 (fun r5 σ5 H locs h hw => ?_)
          refine lv_if_eq (tgt := 61) hx hb dX5_placeNamed_53 (by decide) (fun hc => ?_) (fun hc => ?_)
          · have h := h.1 hc
            refine lv_iconst (v := (-1)) hx hb dX5_placeNamed_61 (by decide) ?_
            exact wk_X5_placeNamed_62 S V hr hlocks    post  (-1) _ _ _ _ h  hw (lv_sub hl [0] rfl)
          · have h := h.2 hc
            refine lv_bipush (v := 9) hx hb dX5_placeNamed_56 (by decide) ?_
            refine lv_goto (tgt := 62) hx hb dX5_placeNamed_58 (by decide) ?_
            exact wk_X5_placeNamed_62 S V hr hlocks    post  9 _ _ _ _ h  hw (lv_sub hl [0] rfl)
        · have h := h.2 hc
          refine lv_bipush (v := 8) hx hb dX5_placeNamed_44 (by decide) ?_
          exact ret_i S hr hlocks hw h dX5_placeNamed_46
      · have h := h.2 hc
        refine lv_bipush (v := 7) hx hb dX5_placeNamed_32 (by decide) ?_
        exact ret_i S hr hlocks hw h dX5_placeNamed_34
    · have h := h.2 hc
      refine lv_bipush (v := 6) hx hb dX5_placeNamed_20 (by decide) ?_
      exact ret_i S hr hlocks hw h dX5_placeNamed_22
  · have h := h.2 hc
    refine lv_iconst (v := 5) hx hb dX5_placeNamed_9 (by decide) ?_
    exact ret_i S hr hlocks hw h dX5_placeNamed_10
theorem mt_X5_placeNamed (l : Launch) (D : va_G) (q : ClassId × ClassId × ClassId × ClassId) (ad : Nat → Nat → Nat) (t : Nat × Nat) (aK aV : Nat → Nat)  (σ : St) (post : Int32 → St → Prop) (h : wp_X5_placeNamed post σ) : cI l D clA LC ad (EC q ad) (EvC D q ad t aK aV) yX5_placeNamed cX5_placeNamed 1 (some .int) { frames := 5, cells := 0, slots := 0, locals := 163 } [.ref (ad 7 0)] σ post :=
  ent_i (by decide) (Nat.le_of_ble_eq_true rfl) (fun p e s m below meth c S V hr hlocks hw ls hl => wk_X5_placeNamed_0 S V hr hlocks   post   σ _ _ ls h  hw (lv_sub hl [0] rfl))
def wp_X5_readLine_82 (post : Int32 → St → Prop) (xs0 : Int32) (σ : St) : Prop := (narrow .boolean (.int xs0) = .int xs0 ∧ post xs0 σ)
set_option maxHeartbeats 4000000 in
set_option maxRecDepth 100000 in
theorem wk_X5_readLine_82 {p : Program} {l : Launch} {e : Env} {s : State} {m : MethodId} {below : List Frame} {meth : Method} {c : Code} {D : va_G} {q : ClassId × ClassId × ClassId × ClassId} {ad : Nat → Nat → Nat} {t : Nat × Nat} {aK aV : Nat → Nat} {args : Array Value} (S : CallFix p m c cX5_readLine 2 s args GW "OnChin$Text") (V : EvC D q ad t aK aV s) (hr : meth.sig.returnType = (some .boolean)) (hlocks : meth.locks = false) (post : Int32 → St → Prop)  : ∀ (xs0 : Int32) (σ : St) (H : Heap) (locs : List Loc) (ls : Array Slot), wp_X5_readLine_82 post xs0 σ → wo D clA LC ad s.heap H locs (EC q ad σ) → lv_has ls 2 [(0, .ref (ad 7 0))] → W p l e { frames := 7, cells := 0, slots := 0, locals := 204 } s m args below meth c H locs 0 0 (MQ below (zQi D clA LC ad (EC q ad) post) args s 0 0 (zA LC ad)) (F0 m 82 ls [.int xs0]) := by
  have hx := S.1
  have hb := S.2.1
  intro xs0 σ H locs ls h  hw hl
  exact ret_z S hr hlocks hw h.1 h.2 dX5_readLine_82
def wp_X5_readLine_81 (post : Int32 → St → Prop)  (σ : St) : Prop := wp_X5_readLine_82 post 0 σ
set_option maxHeartbeats 4000000 in
set_option maxRecDepth 100000 in
theorem wk_X5_readLine_81 {p : Program} {l : Launch} {e : Env} {s : State} {m : MethodId} {below : List Frame} {meth : Method} {c : Code} {D : va_G} {q : ClassId × ClassId × ClassId × ClassId} {ad : Nat → Nat → Nat} {t : Nat × Nat} {aK aV : Nat → Nat} {args : Array Value} (S : CallFix p m c cX5_readLine 2 s args GW "OnChin$Text") (V : EvC D q ad t aK aV s) (hr : meth.sig.returnType = (some .boolean)) (hlocks : meth.locks = false) (post : Int32 → St → Prop)  : ∀ (σ : St) (H : Heap) (locs : List Loc) (ls : Array Slot), wp_X5_readLine_81 post  σ → wo D clA LC ad s.heap H locs (EC q ad σ) → lv_has ls 2 [(0, .ref (ad 7 0))] → W p l e { frames := 7, cells := 0, slots := 0, locals := 204 } s m args below meth c H locs 0 0 (MQ below (zQi D clA LC ad (EC q ad) post) args s 0 0 (zA LC ad)) (F0 m 81 ls []) := by
  have hx := S.1
  have hb := S.2.1
  intro  σ H locs ls h  hw hl
  have h : wp_X5_readLine_82 post 0 σ := h
  refine lv_iconst (v := 0) hx hb dX5_readLine_81 (by decide) ?_
  exact wk_X5_readLine_82 S V hr hlocks    post  0 _ _ _ _ h  hw (lv_sub hl [0] rfl)
def wp_X5_readLine (post : Int32 → St → Prop)  (σ : St) : Prop := wp_X5_says 0 (fun r1 σ1 => ((r1 = 0 → wp_X5_says 5 (fun r2 σ2 => ((r2 = 0 → wp_X5_says 6 (fun r3 σ3 => ((r3 = 0 → wp_X5_says 7 (fun r4 σ4 => ((r4 = 0 → wp_X5_placeNamed (fun r5 σ5 => ((r5 = (-1) → wp_X5_readLine_81 post  σ5) ∧ (¬ r5 = (-1) → wp_X5_readNumbers r5 r5 (fun r6 σ6 => ((r6 = 0 → wp_X5_readLine_81 post  σ6) ∧ (¬ r6 = 0 → wp_X5_readLine_82 post 1 σ6))) σ5))) σ4) ∧ (¬ r4 = 0 → wp_X5_readNumbers 0 4 (fun r7 σ7 => (narrow .boolean (.int r7) = .int r7 ∧ post r7 σ7)) σ4))) σ3) ∧ (¬ r3 = 0 → wp_X5_readBare (fun r8 σ8 => (narrow .boolean (.int r8) = .int r8 ∧ post r8 σ8)) σ3))) σ2) ∧ (¬ r2 = 0 → wp_X5_readLump (fun r9 σ9 => (narrow .boolean (.int r9) = .int r9 ∧ post r9 σ9)) σ2))) σ1) ∧ (¬ r1 = 0 → wp_X5_readThing (fun r10 σ10 => (narrow .boolean (.int r10) = .int r10 ∧ post r10 σ10)) σ1))) σ
set_option maxHeartbeats 4000000 in
set_option maxRecDepth 100000 in
theorem wk_X5_readLine_0 {p : Program} {l : Launch} {e : Env} {s : State} {m : MethodId} {below : List Frame} {meth : Method} {c : Code} {D : va_G} {q : ClassId × ClassId × ClassId × ClassId} {ad : Nat → Nat → Nat} {t : Nat × Nat} {aK aV : Nat → Nat} {args : Array Value} (S : CallFix p m c cX5_readLine 2 s args GW "OnChin$Text") (V : EvC D q ad t aK aV s) (hr : meth.sig.returnType = (some .boolean)) (hlocks : meth.locks = false) (post : Int32 → St → Prop)  : ∀ (σ : St) (H : Heap) (locs : List Loc) (ls : Array Slot), wp_X5_readLine post  σ → wo D clA LC ad s.heap H locs (EC q ad σ) → lv_has ls 2 [(0, .ref (ad 7 0))] → W p l e { frames := 7, cells := 0, slots := 0, locals := 204 } s m args below meth c H locs 0 0 (MQ below (zQi D clA LC ad (EC q ad) post) args s 0 0 (zA LC ad)) (F0 m 0 ls []) := by
  have hx := S.1
  have hb := S.2.1
  intro  σ H locs ls h  hw hl
  have h : wp_X5_says 0 (fun r1 σ1 => ((r1 = 0 → wp_X5_says 5 (fun r2 σ2 => ((r2 = 0 → wp_X5_says 6 (fun r3 σ3 => ((r3 = 0 → wp_X5_says 7 (fun r4 σ4 => ((r4 = 0 → wp_X5_placeNamed (fun r5 σ5 => ((r5 = (-1) → wp_X5_readLine_81 post  σ5) ∧ (¬ r5 = (-1) → wp_X5_readNumbers r5 r5 (fun r6 σ6 => ((r6 = 0 → wp_X5_readLine_81 post  σ6) ∧ (¬ r6 = 0 → wp_X5_readLine_82 post 1 σ6))) σ5))) σ4) ∧ (¬ r4 = 0 → wp_X5_readNumbers 0 4 (fun r7 σ7 => (narrow .boolean (.int r7) = .int r7 ∧ post r7 σ7)) σ4))) σ3) ∧ (¬ r3 = 0 → wp_X5_readBare (fun r8 σ8 => (narrow .boolean (.int r8) = .int r8 ∧ post r8 σ8)) σ3))) σ2) ∧ (¬ r2 = 0 → wp_X5_readLump (fun r9 σ9 => (narrow .boolean (.int r9) = .int r9 ∧ post r9 σ9)) σ2))) σ1) ∧ (¬ r1 = 0 → wp_X5_readThing (fun r10 σ10 => (narrow .boolean (.int r10) = .int r10 ∧ post r10 σ10)) σ1))) σ := h
  refine lv_aload_n hx hb dX5_readLine_0 rfl (lv_at hl 0 rfl) ?_
  refine xl_str S V (i := 0) (Nat.le_of_ble_eq_true rfl) rfl dX5_readLine_1 ?_
  refine call_Vi (As := [.ref (aK 0)]) (rest := []) EvC_ok S V hw (mt_X5_says l D q ad t aK aV 0 (Nat.le_of_ble_eq_true rfl) σ _ h) ok_X5_says ml_X5_84 (rC_7 S V hw (Nat.le_of_ble_eq_true rfl)) ⟨(Nat.le_of_ble_eq_true rfl), (Nat.le_of_ble_eq_true rfl)⟩ ⟨rfl, rfl⟩ rfl hl.1 rfl (Nat.le_of_ble_eq_true rfl) dX5_readLine_3 (fun r1 σ1 H locs h hw => ?_)
  refine lv_if_eq (tgt := 14) hx hb dX5_readLine_6 (by decide) (fun hc => ?_) (fun hc => ?_)
  · have h := h.1 hc
    refine lv_aload_n hx hb dX5_readLine_14 rfl (lv_at hl 0 rfl) ?_
    refine xl_str S V (i := 5) (Nat.le_of_ble_eq_true rfl) rfl dX5_readLine_15 ?_
    refine call_Vi (As := [.ref (aK 5)]) (rest := []) EvC_ok S V hw (mt_X5_says l D q ad t aK aV 5 (Nat.le_of_ble_eq_true rfl) σ1 _ h) ok_X5_says ml_X5_84 (rC_7 S V hw (Nat.le_of_ble_eq_true rfl)) ⟨(Nat.le_of_ble_eq_true rfl), (Nat.le_of_ble_eq_true rfl)⟩ ⟨rfl, rfl⟩ rfl hl.1 rfl (Nat.le_of_ble_eq_true rfl) dX5_readLine_17 (fun r2 σ2 H locs h hw => ?_)
    refine lv_if_eq (tgt := 28) hx hb dX5_readLine_20 (by decide) (fun hc => ?_) (fun hc => ?_)
    · have h := h.1 hc
      refine lv_aload_n hx hb dX5_readLine_28 rfl (lv_at hl 0 rfl) ?_
      refine xl_str S V (i := 6) (Nat.le_of_ble_eq_true rfl) rfl dX5_readLine_29 ?_
      refine call_Vi (As := [.ref (aK 6)]) (rest := []) EvC_ok S V hw (mt_X5_says l D q ad t aK aV 6 (Nat.le_of_ble_eq_true rfl) σ2 _ h) ok_X5_says ml_X5_84 (rC_7 S V hw (Nat.le_of_ble_eq_true rfl)) ⟨(Nat.le_of_ble_eq_true rfl), (Nat.le_of_ble_eq_true rfl)⟩ ⟨rfl, rfl⟩ rfl hl.1 rfl (Nat.le_of_ble_eq_true rfl) dX5_readLine_31 (fun r3 σ3 H locs h hw => ?_)
      refine lv_if_eq (tgt := 42) hx hb dX5_readLine_34 (by decide) (fun hc => ?_) (fun hc => ?_)
      · have h := h.1 hc
        refine lv_aload_n hx hb dX5_readLine_42 rfl (lv_at hl 0 rfl) ?_
        refine xl_str S V (i := 7) (Nat.le_of_ble_eq_true rfl) rfl dX5_readLine_43 ?_
        refine call_Vi (As := [.ref (aK 7)]) (rest := []) EvC_ok S V hw (mt_X5_says l D q ad t aK aV 7 (Nat.le_of_ble_eq_true rfl) σ3 _ h) ok_X5_says ml_X5_84 (rC_7 S V hw (Nat.le_of_ble_eq_true rfl)) ⟨(Nat.le_of_ble_eq_true rfl), (Nat.le_of_ble_eq_true rfl)⟩ ⟨rfl, rfl⟩ rfl hl.1 rfl (Nat.le_of_ble_eq_true rfl) dX5_readLine_45 (fun r4 σ4 H locs h hw => ?_)
        refine lv_if_eq (tgt := 58) hx hb dX5_readLine_48 (by decide) (fun hc => ?_) (fun hc => ?_)
        · have h := h.1 hc
          refine lv_aload_n hx hb dX5_readLine_58 rfl (lv_at hl 0 rfl) ?_
          refine call_Vi (As := []) (rest := []) EvC_ok S V hw (mt_X5_placeNamed l D q ad t aK aV   σ4 _ h) ok_X5_placeNamed ml_X5_107 (rC_7 S V hw (Nat.le_of_ble_eq_true rfl)) ⟨(Nat.le_of_ble_eq_true rfl), (Nat.le_of_ble_eq_true rfl)⟩ ⟨rfl, rfl⟩ rfl hl.1 rfl (Nat.le_of_ble_eq_true rfl) dX5_readLine_59 (fun r5 σ5 H locs h hw => ?_)
          refine lv_istore_n (lv' := [(1, .int r5), (0, .ref (ad 7 0))]) hx hb dX5_readLine_62 rfl hl (by decide) rfl (fun ls hl => ?_)
          refine lv_iload_n hx hb dX5_readLine_63 rfl (lv_at hl 0 rfl) ?_
          refine lv_iconst (v := (-1)) hx hb dX5_readLine_64 (by decide) ?_
          refine lv_icmp_eq (tgt := 81) hx hb dX5_readLine_65 (by decide) (fun hc => ?_) (fun hc => ?_)
          · have h := h.1 hc
            exact wk_X5_readLine_81 S V hr hlocks    post   _ _ _ _ h  hw (lv_sub hl [1] rfl)
          · have h := h.2 hc
            refine lv_aload_n hx hb dX5_readLine_68 rfl (lv_at hl 1 rfl) ?_
            refine lv_iload_n hx hb dX5_readLine_69 rfl (lv_at hl 0 rfl) ?_
            refine lv_iload_n hx hb dX5_readLine_70 rfl (lv_at hl 0 rfl) ?_
            refine call_Vi (As := [.int r5, .int r5]) (rest := []) EvC_ok S V hw (mt_X5_readNumbers l D q ad t aK aV r5 r5  σ5 _ h) ok_X5_readNumbers ml_X5_103 (rC_7 S V hw (Nat.le_of_ble_eq_true rfl)) ⟨(Nat.le_of_ble_eq_true rfl), (Nat.le_of_ble_eq_true rfl)⟩ ⟨rfl, rfl⟩ rfl hl.1 rfl (Nat.le_of_ble_eq_true rfl) dX5_readLine_71 (fun r6 σ6 H locs h hw => ?_)
            refine lv_if_eq (tgt := 81) hx hb dX5_readLine_74 (by decide) (fun hc => ?_) (fun hc => ?_)
            · have h := h.1 hc
              exact wk_X5_readLine_81 S V hr hlocks    post   _ _ _ _ h  hw (lv_sub hl [1] rfl)
            · have h := h.2 hc
              refine lv_iconst (v := 1) hx hb dX5_readLine_77 (by decide) ?_
              refine lv_goto (tgt := 82) hx hb dX5_readLine_78 (by decide) ?_
              exact wk_X5_readLine_82 S V hr hlocks    post  1 _ _ _ _ h  hw (lv_sub hl [1] rfl)
        · have h := h.2 hc
          refine lv_aload_n hx hb dX5_readLine_51 rfl (lv_at hl 0 rfl) ?_
          refine lv_iconst (v := 0) hx hb dX5_readLine_52 (by decide) ?_
          refine lv_iconst (v := 4) hx hb dX5_readLine_53 (by decide) ?_
          refine call_Vi (As := [.int 0, .int 4]) (rest := []) EvC_ok S V hw (mt_X5_readNumbers l D q ad t aK aV 0 4  σ4 _ h) ok_X5_readNumbers ml_X5_103 (rC_7 S V hw (Nat.le_of_ble_eq_true rfl)) ⟨(Nat.le_of_ble_eq_true rfl), (Nat.le_of_ble_eq_true rfl)⟩ ⟨rfl, rfl⟩ rfl hl.1 rfl (Nat.le_of_ble_eq_true rfl) dX5_readLine_54 (fun r7 σ7 H locs h hw => ?_)
          exact ret_z S hr hlocks hw h.1 h.2 dX5_readLine_57
      · have h := h.2 hc
        refine lv_aload_n hx hb dX5_readLine_37 rfl (lv_at hl 0 rfl) ?_
        refine call_Vi (As := []) (rest := []) EvC_ok S V hw (mt_X5_readBare l D q ad t aK aV   σ3 _ h) ok_X5_readBare ml_X5_98 (rC_7 S V hw (Nat.le_of_ble_eq_true rfl)) ⟨(Nat.le_of_ble_eq_true rfl), (Nat.le_of_ble_eq_true rfl)⟩ ⟨rfl, rfl⟩ rfl hl.1 rfl (Nat.le_of_ble_eq_true rfl) dX5_readLine_38 (fun r8 σ8 H locs h hw => ?_)
        exact ret_z S hr hlocks hw h.1 h.2 dX5_readLine_41
    · have h := h.2 hc
      refine lv_aload_n hx hb dX5_readLine_23 rfl (lv_at hl 0 rfl) ?_
      refine call_Vi (As := []) (rest := []) EvC_ok S V hw (mt_X5_readLump l D q ad t aK aV   σ2 _ h) ok_X5_readLump ml_X5_93 (rC_7 S V hw (Nat.le_of_ble_eq_true rfl)) ⟨(Nat.le_of_ble_eq_true rfl), (Nat.le_of_ble_eq_true rfl)⟩ ⟨rfl, rfl⟩ rfl hl.1 rfl (Nat.le_of_ble_eq_true rfl) dX5_readLine_24 (fun r9 σ9 H locs h hw => ?_)
      exact ret_z S hr hlocks hw h.1 h.2 dX5_readLine_27
  · have h := h.2 hc
    refine lv_aload_n hx hb dX5_readLine_9 rfl (lv_at hl 0 rfl) ?_
    refine call_Vi (As := []) (rest := []) EvC_ok S V hw (mt_X5_readThing l D q ad t aK aV   σ1 _ h) ok_X5_readThing ml_X5_88 (rC_7 S V hw (Nat.le_of_ble_eq_true rfl)) ⟨(Nat.le_of_ble_eq_true rfl), (Nat.le_of_ble_eq_true rfl)⟩ ⟨rfl, rfl⟩ rfl hl.1 rfl (Nat.le_of_ble_eq_true rfl) dX5_readLine_10 (fun r10 σ10 H locs h hw => ?_)
    exact ret_z S hr hlocks hw h.1 h.2 dX5_readLine_13
theorem mt_X5_readLine (l : Launch) (D : va_G) (q : ClassId × ClassId × ClassId × ClassId) (ad : Nat → Nat → Nat) (t : Nat × Nat) (aK aV : Nat → Nat)  (σ : St) (post : Int32 → St → Prop) (h : wp_X5_readLine post σ) : cI l D clA LC ad (EC q ad) (EvC D q ad t aK aV) yX5_readLine cX5_readLine 2 (some .boolean) { frames := 7, cells := 0, slots := 0, locals := 204 } [.ref (ad 7 0)] σ post :=
  ent_i (by decide) (Nat.le_of_ble_eq_true rfl) (fun p e s m below meth c S V hr hlocks hw ls hl => wk_X5_readLine_0 S V hr hlocks   post   σ _ _ ls h  hw (lv_sub hl [0] rfl))
def wp_X5_firstFault_107 (post : Int32 → St → Prop)  (σ : St) : Prop := post (σ 7 0 9) σ
set_option maxHeartbeats 4000000 in
set_option maxRecDepth 100000 in
theorem wk_X5_firstFault_107 {p : Program} {l : Launch} {e : Env} {s : State} {m : MethodId} {below : List Frame} {meth : Method} {c : Code} {D : va_G} {q : ClassId × ClassId × ClassId × ClassId} {ad : Nat → Nat → Nat} {t : Nat × Nat} {aK aV : Nat → Nat} {args : Array Value} (S : CallFix p m c cX5_firstFault 3 s args GW "OnChin$Text") (V : EvC D q ad t aK aV s) (hr : meth.sig.returnType = (some .int)) (hlocks : meth.locks = false) (post : Int32 → St → Prop)  : ∀ (σ : St) (H : Heap) (locs : List Loc) (ls : Array Slot), wp_X5_firstFault_107 post  σ → wo D clA LC ad s.heap H locs (EC q ad σ) → lv_has ls 3 [(0, .ref (ad 7 0)), (1, .ref (ad 1 0))] → W p l e { frames := 8, cells := 0, slots := 0, locals := 225 } s m args below meth c H locs 0 0 (MQ below (zQi D clA LC ad (EC q ad) post) args s 0 0 (zA LC ad)) (F0 m 107 ls []) := by
  have hx := S.1
  have hb := S.2.1
  intro  σ H locs ls h  hw hl
  refine lv_aload_n hx hb dX5_firstFault_107 rfl (lv_at hl 0 rfl) ?_
  refine gC_7_9 S V hw (Nat.le_of_ble_eq_true rfl) fl_X5_40 rfl dX5_firstFault_108 ?_
  exact ret_i S hr hlocks hw h dX5_firstFault_111
def wp_X5_firstFault_35 (post : Int32 → St → Prop) : Nat → Int32 → St → Prop
  | 0 => fun _ _ => False
  | n + 1 => fun x2 σ => ((8 ≤ x2 → post (σ 7 0 9) σ) ∧ (¬ 8 ≤ x2 → wp_X5_readToken (fun σ1 => wp_X5_readLine (fun r2 σ2 => ((¬ r2 = 0 → ((¬ (σ2 7 0 8) = 0 → ((¬ (σ2 7 0 8) = 3 → wp_X5_firstFault_107 post  σ2) ∧ ((σ2 7 0 8) = 3 → (vp_in (σ2 7 0 9) 200 ∧ (((σ2 8 0 ((σ2 7 0 9).toNatClampNeg)) = 59 → wp_X5_firstFault_35 post n (x2 + 1) σ2) ∧ (¬ (σ2 8 0 ((σ2 7 0 9).toNatClampNeg)) = 59 → wp_X5_firstFault_107 post  σ2)))))) ∧ ((σ2 7 0 8) = 0 → post (-1) (su σ2 7 0 2 (x2 + 1))))) ∧ (r2 = 0 → post (σ2 7 0 9) σ2))) σ1) (su (su σ 7 0 2 x2) 7 0 5 (x2 * 5))))
set_option maxHeartbeats 4000000 in
set_option maxRecDepth 100000 in
theorem wk_X5_firstFault_35 {p : Program} {l : Launch} {e : Env} {s : State} {m : MethodId} {below : List Frame} {meth : Method} {c : Code} {D : va_G} {q : ClassId × ClassId × ClassId × ClassId} {ad : Nat → Nat → Nat} {t : Nat × Nat} {aK aV : Nat → Nat} {args : Array Value} (S : CallFix p m c cX5_firstFault 3 s args GW "OnChin$Text") (V : EvC D q ad t aK aV s) (hr : meth.sig.returnType = (some .int)) (hlocks : meth.locks = false) (post : Int32 → St → Prop)  : ∀ (n : Nat) (x2 : Int32) (σ : St) (H : Heap) (locs : List Loc) (ls : Array Slot), wp_X5_firstFault_35 post n x2 σ → wo D clA LC ad s.heap H locs (EC q ad σ) → lv_has ls 3 [(0, .ref (ad 7 0)), (1, .ref (ad 1 0)), (2, .int x2)] → W p l e { frames := 8, cells := 0, slots := 0, locals := 225 } s m args below meth c H locs 0 0 (MQ below (zQi D clA LC ad (EC q ad) post) args s 0 0 (zA LC ad)) (F0 m 35 ls []) := by
  have hx := S.1
  have hb := S.2.1
  intro n
  induction n with
  | zero => intro x2 σ H locs ls h; exact False.elim h
  | succ n ih =>
    intro x2 σ H locs ls h  hw hl
    refine lv_iload_n hx hb dX5_firstFault_35 rfl (lv_at hl 2 rfl) ?_
    refine lv_bipush (v := 8) hx hb dX5_firstFault_36 (by decide) ?_
    refine lv_icmp_ge (tgt := 118) hx hb dX5_firstFault_38 (by decide) (fun hc => ?_) (fun hc => ?_)
    · have h := h.1 hc
      refine lv_aload_n hx hb dX5_firstFault_118 rfl (lv_at hl 0 rfl) ?_
      refine gC_7_9 S V hw (Nat.le_of_ble_eq_true rfl) fl_X5_40 rfl dX5_firstFault_119 ?_
      exact ret_i S hr hlocks hw h dX5_firstFault_122
    · have h := h.2 hc
      refine lv_aload_n hx hb dX5_firstFault_41 rfl (lv_at hl 0 rfl) ?_
      refine lv_iload_n hx hb dX5_firstFault_42 rfl (lv_at hl 2 rfl) ?_
      refine pC_7_2 S V hw (Nat.le_of_ble_eq_true rfl) fl_X5_19 dX5_firstFault_43 (fun H locs hw => ?_)
      refine lv_aload_n hx hb dX5_firstFault_46 rfl (lv_at hl 0 rfl) ?_
      refine lv_iload_n hx hb dX5_firstFault_47 rfl (lv_at hl 2 rfl) ?_
      refine lv_iconst (v := 5) hx hb dX5_firstFault_48 (by decide) ?_
      refine lv_imul hx hb dX5_firstFault_49 ?_
      refine pC_7_5 S V hw (Nat.le_of_ble_eq_true rfl) fl_X5_28 dX5_firstFault_50 (fun H locs hw => ?_)
      refine lv_aload_n hx hb dX5_firstFault_53 rfl (lv_at hl 0 rfl) ?_
      refine call_Vv (As := []) (rest := []) EvC_ok S V hw (mt_X5_readToken l D q ad t aK aV   (su (su σ 7 0 2 x2) 7 0 5 (x2 * 5)) _ h) ok_X5_readToken ml_X5_56 (rC_7 S V hw (Nat.le_of_ble_eq_true rfl)) ⟨(Nat.le_of_ble_eq_true rfl), (Nat.le_of_ble_eq_true rfl)⟩ ⟨rfl, rfl⟩ rfl hl.1 rfl (Nat.le_of_ble_eq_true rfl) dX5_firstFault_54 (fun σ1 H locs h hw => ?_)
      refine lv_aload_n hx hb dX5_firstFault_57 rfl (lv_at hl 0 rfl) ?_
      refine call_Vi (As := []) (rest := []) EvC_ok S V hw (mt_X5_readLine l D q ad t aK aV   σ1 _ h) ok_X5_readLine ml_X5_59 (rC_7 S V hw (Nat.le_of_ble_eq_true rfl)) ⟨(Nat.le_of_ble_eq_true rfl), (Nat.le_of_ble_eq_true rfl)⟩ ⟨rfl, rfl⟩ rfl hl.1 rfl (Nat.le_of_ble_eq_true rfl) dX5_firstFault_58 (fun r2 σ2 H locs h hw => ?_)
      refine lv_if_ne (tgt := 69) hx hb dX5_firstFault_61 (by decide) (fun hc => ?_) (fun hc => ?_)
      · have h := h.1 hc
        refine lv_aload_n hx hb dX5_firstFault_69 rfl (lv_at hl 0 rfl) ?_
        refine gC_7_8 S V hw (Nat.le_of_ble_eq_true rfl) fl_X5_37 rfl dX5_firstFault_70 ?_
        refine lv_if_ne (tgt := 85) hx hb dX5_firstFault_73 (by decide) (fun hc => ?_) (fun hc => ?_)
        · have h := h.1 hc
          refine lv_aload_n hx hb dX5_firstFault_85 rfl (lv_at hl 0 rfl) ?_
          refine gC_7_8 S V hw (Nat.le_of_ble_eq_true rfl) fl_X5_37 rfl dX5_firstFault_86 ?_
          refine lv_iconst (v := 3) hx hb dX5_firstFault_89 (by decide) ?_
          refine lv_icmp_ne (tgt := 107) hx hb dX5_firstFault_90 (by decide) (fun hc => ?_) (fun hc => ?_)
          · have h := h.1 hc
            exact wk_X5_firstFault_107 S V hr hlocks    post   _ _ _ _ h  hw (lv_sub hl [0, 1] rfl)
          · have h := h.2 hc
            refine lv_aload_n hx hb dX5_firstFault_93 rfl (lv_at hl 0 rfl) ?_
            refine gC_7_0 S V hw (Nat.le_of_ble_eq_true rfl) fl_X5_9 dX5_firstFault_94 ?_
            refine lv_aload_n hx hb dX5_firstFault_97 rfl (lv_at hl 0 rfl) ?_
            refine gC_7_9 S V hw (Nat.le_of_ble_eq_true rfl) fl_X5_40 rfl dX5_firstFault_98 ?_
            refine aC_8 S V hw (Nat.le_of_ble_eq_true rfl) h.1 (z := (σ2 8 0 ((σ2 7 0 9).toNatClampNeg))) rfl dX5_firstFault_101 ?_
            have h := h.2
            refine lv_bipush (v := 59) hx hb dX5_firstFault_102 (by decide) ?_
            refine lv_icmp_eq (tgt := 112) hx hb dX5_firstFault_104 (by decide) (fun hc => ?_) (fun hc => ?_)
            · have h := h.1 hc
              refine lv_iinc (v := (x2 + 1)) (lv' := [(2, .int (x2 + 1)), (0, .ref (ad 7 0)), (1, .ref (ad 1 0))]) hx hb dX5_firstFault_112 hl (k := 2) rfl rfl (by decide) rfl (fun ls hl => ?_)
              refine lv_goto (tgt := 35) hx hb dX5_firstFault_115 (by decide) ?_
              exact ih (x2 + 1) _ _ _ _ h  hw (lv_sub hl [1, 2, 0] rfl)
            · have h := h.2 hc
              exact wk_X5_firstFault_107 S V hr hlocks    post   _ _ _ _ h  hw (lv_sub hl [0, 1] rfl)
        · have h := h.2 hc
          refine lv_aload_n hx hb dX5_firstFault_76 rfl (lv_at hl 0 rfl) ?_
          refine lv_iload_n hx hb dX5_firstFault_77 rfl (lv_at hl 2 rfl) ?_
          refine lv_iconst (v := 1) hx hb dX5_firstFault_78 (by decide) ?_
          refine lv_iadd hx hb dX5_firstFault_79 ?_
          refine pC_7_2 S V hw (Nat.le_of_ble_eq_true rfl) fl_X5_19 dX5_firstFault_80 (fun H locs hw => ?_)
          refine lv_iconst (v := (-1)) hx hb dX5_firstFault_83 (by decide) ?_
          exact ret_i S hr hlocks hw h dX5_firstFault_84
      · have h := h.2 hc
        refine lv_aload_n hx hb dX5_firstFault_64 rfl (lv_at hl 0 rfl) ?_
        refine gC_7_9 S V hw (Nat.le_of_ble_eq_true rfl) fl_X5_40 rfl dX5_firstFault_65 ?_
        exact ret_i S hr hlocks hw h dX5_firstFault_68
def wp_X5_firstFault_2 (post : Int32 → St → Prop) : Nat → Int32 → St → Prop
  | 0 => fun _ _ => False
  | n + 1 => fun x2 σ => ((4 ≤ x2 → ∃ nn, wp_X5_firstFault_35 post nn 0 (su σ 7 0 10 0)) ∧ (¬ 4 ≤ x2 → (vp_in x2 4 ∧ (vp_in x2 4 ∧ wp_X5_firstFault_2 post n (x2 + 1) (su σ 12 0 x2.toNatClampNeg (σ 2 x2.toNatClampNeg 2))))))
set_option maxHeartbeats 4000000 in
set_option maxRecDepth 100000 in
theorem wk_X5_firstFault_2 {p : Program} {l : Launch} {e : Env} {s : State} {m : MethodId} {below : List Frame} {meth : Method} {c : Code} {D : va_G} {q : ClassId × ClassId × ClassId × ClassId} {ad : Nat → Nat → Nat} {t : Nat × Nat} {aK aV : Nat → Nat} {args : Array Value} (S : CallFix p m c cX5_firstFault 3 s args GW "OnChin$Text") (V : EvC D q ad t aK aV s) (hr : meth.sig.returnType = (some .int)) (hlocks : meth.locks = false) (post : Int32 → St → Prop)  : ∀ (n : Nat) (x2 : Int32) (σ : St) (H : Heap) (locs : List Loc) (ls : Array Slot), wp_X5_firstFault_2 post n x2 σ → wo D clA LC ad s.heap H locs (EC q ad σ) → lv_has ls 3 [(0, .ref (ad 7 0)), (1, .ref (ad 1 0)), (2, .int x2)] → W p l e { frames := 8, cells := 0, slots := 0, locals := 225 } s m args below meth c H locs 0 0 (MQ below (zQi D clA LC ad (EC q ad) post) args s 0 0 (zA LC ad)) (F0 m 2 ls []) := by
  have hx := S.1
  have hb := S.2.1
  intro n
  induction n with
  | zero => intro x2 σ H locs ls h; exact False.elim h
  | succ n ih =>
    intro x2 σ H locs ls h  hw hl
    refine lv_iload_n hx hb dX5_firstFault_2 rfl (lv_at hl 2 rfl) ?_
    refine lv_iconst (v := 4) hx hb dX5_firstFault_3 (by decide) ?_
    refine lv_icmp_ge (tgt := 28) hx hb dX5_firstFault_4 (by decide) (fun hc => ?_) (fun hc => ?_)
    · have h := h.1 hc
      refine lv_aload_n hx hb dX5_firstFault_28 rfl (lv_at hl 0 rfl) ?_
      refine lv_iconst (v := 0) hx hb dX5_firstFault_29 (by decide) ?_
      refine pC_7_10 S V hw (Nat.le_of_ble_eq_true rfl) fl_X5_43 dX5_firstFault_30 (fun H locs hw => ?_)
      refine lv_iconst (v := 0) hx hb dX5_firstFault_33 (by decide) ?_
      refine lv_istore_n (lv' := [(2, .int 0), (0, .ref (ad 7 0)), (1, .ref (ad 1 0))]) hx hb dX5_firstFault_34 rfl hl (by decide) rfl (fun ls hl => ?_)
      obtain ⟨n9, h⟩ := h
      exact wk_X5_firstFault_35 S V hr hlocks    post  n9 0 _ _ _ _ h  hw (lv_sub hl [1, 2, 0] rfl)
    · have h := h.2 hc
      refine lv_aload_n hx hb dX5_firstFault_7 rfl (lv_at hl 0 rfl) ?_
      refine gC_7_7 S V hw (Nat.le_of_ble_eq_true rfl) fl_X5_34 dX5_firstFault_8 ?_
      refine lv_iload_n hx hb dX5_firstFault_11 rfl (lv_at hl 2 rfl) ?_
      refine lv_aload_n hx hb dX5_firstFault_12 rfl (lv_at hl 1 rfl) ?_
      refine gC_1_0 S V hw (Nat.le_of_ble_eq_true rfl) fl_X5_46 dX5_firstFault_13 ?_
      refine lv_iload_n hx hb dX5_firstFault_16 rfl (lv_at hl 2 rfl) ?_
      have hv1 := h.1
      have h := h.2
      refine aC_5 S V hw (Nat.le_of_ble_eq_true rfl) hv1 dX5_firstFault_17 ?_
      refine gC_2_2 S V hw (vin_lt hv1 (Nat.le_of_ble_eq_true rfl)) fl_X5_52 rfl dX5_firstFault_18 ?_
      refine sC_12 S V hw (Nat.le_of_ble_eq_true rfl) h.1 dX5_firstFault_21 (fun H locs hw => ?_)
      have h := h.2
      refine lv_iinc (v := (x2 + 1)) (lv' := [(2, .int (x2 + 1)), (0, .ref (ad 7 0)), (1, .ref (ad 1 0))]) hx hb dX5_firstFault_22 hl (k := 2) rfl rfl (by decide) rfl (fun ls hl => ?_)
      refine lv_goto (tgt := 2) hx hb dX5_firstFault_25 (by decide) ?_
      exact ih (x2 + 1) _ _ _ _ h  hw (lv_sub hl [1, 2, 0] rfl)
def wp_X5_firstFault (post : Int32 → St → Prop)  (σ : St) : Prop := ∃ nn, wp_X5_firstFault_2 post nn 0 σ
set_option maxHeartbeats 4000000 in
set_option maxRecDepth 100000 in
theorem wk_X5_firstFault_0 {p : Program} {l : Launch} {e : Env} {s : State} {m : MethodId} {below : List Frame} {meth : Method} {c : Code} {D : va_G} {q : ClassId × ClassId × ClassId × ClassId} {ad : Nat → Nat → Nat} {t : Nat × Nat} {aK aV : Nat → Nat} {args : Array Value} (S : CallFix p m c cX5_firstFault 3 s args GW "OnChin$Text") (V : EvC D q ad t aK aV s) (hr : meth.sig.returnType = (some .int)) (hlocks : meth.locks = false) (post : Int32 → St → Prop)  : ∀ (σ : St) (H : Heap) (locs : List Loc) (ls : Array Slot), wp_X5_firstFault post  σ → wo D clA LC ad s.heap H locs (EC q ad σ) → lv_has ls 3 [(0, .ref (ad 7 0)), (1, .ref (ad 1 0))] → W p l e { frames := 8, cells := 0, slots := 0, locals := 225 } s m args below meth c H locs 0 0 (MQ below (zQi D clA LC ad (EC q ad) post) args s 0 0 (zA LC ad)) (F0 m 0 ls []) := by
  have hx := S.1
  have hb := S.2.1
  intro  σ H locs ls h  hw hl
  refine lv_iconst (v := 0) hx hb dX5_firstFault_0 (by decide) ?_
  refine lv_istore_n (lv' := [(2, .int 0), (0, .ref (ad 7 0)), (1, .ref (ad 1 0))]) hx hb dX5_firstFault_1 rfl hl (by decide) rfl (fun ls hl => ?_)
  obtain ⟨n9, h⟩ := h
  exact wk_X5_firstFault_2 S V hr hlocks    post  n9 0 _ _ _ _ h  hw (lv_sub hl [1, 2, 0] rfl)
theorem mt_X5_firstFault (l : Launch) (D : va_G) (q : ClassId × ClassId × ClassId × ClassId) (ad : Nat → Nat → Nat) (t : Nat × Nat) (aK aV : Nat → Nat)  (σ : St) (post : Int32 → St → Prop) (h : wp_X5_firstFault post σ) : cI l D clA LC ad (EC q ad) (EvC D q ad t aK aV) yX5_firstFault cX5_firstFault 3 (some .int) { frames := 8, cells := 0, slots := 0, locals := 225 } [.ref (ad 7 0), .ref (ad 1 0)] σ post :=
  ent_i (by decide) (Nat.le_of_ble_eq_true rfl) (fun p e s m below meth c S V hr hlocks hw ls hl => wk_X5_firstFault_0 S V hr hlocks   post   σ _ _ ls h  hw (lv_sub hl [0, 1] rfl))
def wp_X5_tellThing_59 (o1 : Nat) (x2 : Int32) (x3 : Int32) (post : St → Prop)  (σ : St) : Prop := post σ
set_option maxHeartbeats 4000000 in
set_option maxRecDepth 100000 in
theorem wk_X5_tellThing_59 {p : Program} {l : Launch} {e : Env} {s : State} {m : MethodId} {below : List Frame} {meth : Method} {c : Code} {D : va_G} {q : ClassId × ClassId × ClassId × ClassId} {ad : Nat → Nat → Nat} {t : Nat × Nat} {aK aV : Nat → Nat} {args : Array Value} (S : CallFix p m c cX5_tellThing 4 s args GW "OnChin$Text") (V : EvC D q ad t aK aV s) (hr : meth.sig.returnType = none) (hlocks : meth.locks = false) (o1 : Nat) (x2 : Int32) (x3 : Int32) (ho1 : o1 < 5) (post : St → Prop)  : ∀ (σ : St) (H : Heap) (locs : List Loc) (ls : Array Slot), wp_X5_tellThing_59 o1 x2 x3 post  σ → wo D clA LC ad s.heap H locs (EC q ad σ) → lv_has ls 4 [(0, .ref (ad 7 0)), (1, .ref (ad 2 o1)), (2, .int x2), (3, .int x3)] → W p l e { frames := 3, cells := 0, slots := 0, locals := 66 } s m args below meth c H locs 0 0 (MQ below (zQv D clA LC ad (EC q ad) post) args s 0 0 (zA LC ad)) (F0 m 59 ls []) := by
  have hx := S.1
  have hb := S.2.1
  intro  σ H locs ls h  hw hl
  exact ret_v S hr hlocks hw h dX5_tellThing_59
def wp_X5_tellThing (o1 : Nat) (x2 : Int32) (x3 : Int32) (post : St → Prop)  (σ : St) : Prop := ((¬ x2 = 0 → ((¬ x2 = 1 → wp_X6_strip o1 (fun σ1 => wp_X5_tellThing_59 o1 x2 x3 post  σ1) σ) ∧ (x2 = 1 → (vp_in (x3 + 1) 40 ∧ (vp_in (x3 + 2) 40 ∧ wp_X6_addLump o1 (σ 10 0 ((x3 + 1).toNatClampNeg)) (σ 10 0 ((x3 + 2).toNatClampNeg)) (fun σ2 => wp_X5_tellThing_59 o1 x2 x3 post  σ2) σ))))) ∧ (x2 = 0 → (vp_in (x3 + 1) 40 ∧ (vp_in (x3 + 2) 40 ∧ wp_X6_become o1 (σ 10 0 ((x3 + 1).toNatClampNeg)) (σ 10 0 ((x3 + 2).toNatClampNeg)) (fun σ3 => wp_X5_tellThing_59 o1 x2 x3 post  σ3) σ))))
set_option maxHeartbeats 4000000 in
set_option maxRecDepth 100000 in
theorem wk_X5_tellThing_0 {p : Program} {l : Launch} {e : Env} {s : State} {m : MethodId} {below : List Frame} {meth : Method} {c : Code} {D : va_G} {q : ClassId × ClassId × ClassId × ClassId} {ad : Nat → Nat → Nat} {t : Nat × Nat} {aK aV : Nat → Nat} {args : Array Value} (S : CallFix p m c cX5_tellThing 4 s args GW "OnChin$Text") (V : EvC D q ad t aK aV s) (hr : meth.sig.returnType = none) (hlocks : meth.locks = false) (o1 : Nat) (x2 : Int32) (x3 : Int32) (ho1 : o1 < 5) (post : St → Prop)  : ∀ (σ : St) (H : Heap) (locs : List Loc) (ls : Array Slot), wp_X5_tellThing o1 x2 x3 post  σ → wo D clA LC ad s.heap H locs (EC q ad σ) → lv_has ls 4 [(0, .ref (ad 7 0)), (1, .ref (ad 2 o1)), (2, .int x2), (3, .int x3)] → W p l e { frames := 3, cells := 0, slots := 0, locals := 66 } s m args below meth c H locs 0 0 (MQ below (zQv D clA LC ad (EC q ad) post) args s 0 0 (zA LC ad)) (F0 m 0 ls []) := by
  have hx := S.1
  have hb := S.2.1
  intro  σ H locs ls h  hw hl
  refine lv_iload_n hx hb dX5_tellThing_0 rfl (lv_at hl 2 rfl) ?_
  refine lv_if_ne (tgt := 27) hx hb dX5_tellThing_1 (by decide) (fun hc => ?_) (fun hc => ?_)
  · have h := h.1 hc
    refine lv_iload_n hx hb dX5_tellThing_27 rfl (lv_at hl 2 rfl) ?_
    refine lv_iconst (v := 1) hx hb dX5_tellThing_28 (by decide) ?_
    refine lv_icmp_ne (tgt := 55) hx hb dX5_tellThing_29 (by decide) (fun hc => ?_) (fun hc => ?_)
    · have h := h.1 hc
      refine lv_aload_n hx hb dX5_tellThing_55 rfl (lv_at hl 1 rfl) ?_
      refine call_Vv (As := []) (rest := []) EvC_ok S V hw (mt_X6_strip l D q ad t aK aV o1 ho1 σ _ h) ok_X6_strip ml_X5_173 (rC_2 S V hw ho1) ⟨(Nat.le_of_ble_eq_true rfl), (Nat.le_of_ble_eq_true rfl)⟩ ⟨rfl, rfl⟩ rfl hl.1 rfl (Nat.le_of_ble_eq_true rfl) dX5_tellThing_56 (fun σ1 H locs h hw => ?_)
      exact wk_X5_tellThing_59 S V hr hlocks o1 x2 x3 ho1  post   _ _ _ _ h  hw (lv_sub hl [0, 1, 2, 3] rfl)
    · have h := h.2 hc
      refine lv_aload_n hx hb dX5_tellThing_32 rfl (lv_at hl 1 rfl) ?_
      refine lv_aload_n hx hb dX5_tellThing_33 rfl (lv_at hl 0 rfl) ?_
      refine gC_7_4 S V hw (Nat.le_of_ble_eq_true rfl) fl_X5_25 dX5_tellThing_34 ?_
      refine lv_iload_n hx hb dX5_tellThing_37 rfl (lv_at hl 3 rfl) ?_
      refine lv_iconst (v := 1) hx hb dX5_tellThing_38 (by decide) ?_
      refine lv_iadd hx hb dX5_tellThing_39 ?_
      refine aC_10 S V hw (Nat.le_of_ble_eq_true rfl) h.1 (z := (σ 10 0 ((x3 + 1).toNatClampNeg))) rfl dX5_tellThing_40 ?_
      have h := h.2
      refine lv_aload_n hx hb dX5_tellThing_41 rfl (lv_at hl 0 rfl) ?_
      refine gC_7_4 S V hw (Nat.le_of_ble_eq_true rfl) fl_X5_25 dX5_tellThing_42 ?_
      refine lv_iload_n hx hb dX5_tellThing_45 rfl (lv_at hl 3 rfl) ?_
      refine lv_iconst (v := 2) hx hb dX5_tellThing_46 (by decide) ?_
      refine lv_iadd hx hb dX5_tellThing_47 ?_
      refine aC_10 S V hw (Nat.le_of_ble_eq_true rfl) h.1 (z := (σ 10 0 ((x3 + 2).toNatClampNeg))) rfl dX5_tellThing_48 ?_
      have h := h.2
      refine call_Vv (As := [.int (σ 10 0 ((x3 + 1).toNatClampNeg)), .int (σ 10 0 ((x3 + 2).toNatClampNeg))]) (rest := []) EvC_ok S V hw (mt_X6_addLump l D q ad t aK aV o1 (σ 10 0 ((x3 + 1).toNatClampNeg)) (σ 10 0 ((x3 + 2).toNatClampNeg)) ho1 σ _ h) ok_X6_addLump ml_X5_170 (rC_2 S V hw ho1) ⟨(Nat.le_of_ble_eq_true rfl), (Nat.le_of_ble_eq_true rfl)⟩ ⟨rfl, rfl⟩ rfl hl.1 rfl (Nat.le_of_ble_eq_true rfl) dX5_tellThing_49 (fun σ2 H locs h hw => ?_)
      refine lv_goto (tgt := 59) hx hb dX5_tellThing_52 (by decide) ?_
      exact wk_X5_tellThing_59 S V hr hlocks o1 x2 x3 ho1  post   _ _ _ _ h  hw (lv_sub hl [0, 1, 2, 3] rfl)
  · have h := h.2 hc
    refine lv_aload_n hx hb dX5_tellThing_4 rfl (lv_at hl 1 rfl) ?_
    refine lv_aload_n hx hb dX5_tellThing_5 rfl (lv_at hl 0 rfl) ?_
    refine gC_7_4 S V hw (Nat.le_of_ble_eq_true rfl) fl_X5_25 dX5_tellThing_6 ?_
    refine lv_iload_n hx hb dX5_tellThing_9 rfl (lv_at hl 3 rfl) ?_
    refine lv_iconst (v := 1) hx hb dX5_tellThing_10 (by decide) ?_
    refine lv_iadd hx hb dX5_tellThing_11 ?_
    refine aC_10 S V hw (Nat.le_of_ble_eq_true rfl) h.1 (z := (σ 10 0 ((x3 + 1).toNatClampNeg))) rfl dX5_tellThing_12 ?_
    have h := h.2
    refine lv_aload_n hx hb dX5_tellThing_13 rfl (lv_at hl 0 rfl) ?_
    refine gC_7_4 S V hw (Nat.le_of_ble_eq_true rfl) fl_X5_25 dX5_tellThing_14 ?_
    refine lv_iload_n hx hb dX5_tellThing_17 rfl (lv_at hl 3 rfl) ?_
    refine lv_iconst (v := 2) hx hb dX5_tellThing_18 (by decide) ?_
    refine lv_iadd hx hb dX5_tellThing_19 ?_
    refine aC_10 S V hw (Nat.le_of_ble_eq_true rfl) h.1 (z := (σ 10 0 ((x3 + 2).toNatClampNeg))) rfl dX5_tellThing_20 ?_
    have h := h.2
    refine call_Vv (As := [.int (σ 10 0 ((x3 + 1).toNatClampNeg)), .int (σ 10 0 ((x3 + 2).toNatClampNeg))]) (rest := []) EvC_ok S V hw (mt_X6_become l D q ad t aK aV o1 (σ 10 0 ((x3 + 1).toNatClampNeg)) (σ 10 0 ((x3 + 2).toNatClampNeg)) ho1 σ _ h) ok_X6_become ml_X5_166 (rC_2 S V hw ho1) ⟨(Nat.le_of_ble_eq_true rfl), (Nat.le_of_ble_eq_true rfl)⟩ ⟨rfl, rfl⟩ rfl hl.1 rfl (Nat.le_of_ble_eq_true rfl) dX5_tellThing_21 (fun σ3 H locs h hw => ?_)
    refine lv_goto (tgt := 59) hx hb dX5_tellThing_24 (by decide) ?_
    exact wk_X5_tellThing_59 S V hr hlocks o1 x2 x3 ho1  post   _ _ _ _ h  hw (lv_sub hl [0, 1, 2, 3] rfl)
theorem mt_X5_tellThing (l : Launch) (D : va_G) (q : ClassId × ClassId × ClassId × ClassId) (ad : Nat → Nat → Nat) (t : Nat × Nat) (aK aV : Nat → Nat) (o1 : Nat) (x2 : Int32) (x3 : Int32) (ho1 : o1 < 5) (σ : St) (post : St → Prop) (h : wp_X5_tellThing o1 x2 x3 post σ) : cV l D clA LC ad (EC q ad) (EvC D q ad t aK aV) yX5_tellThing cX5_tellThing 4 none { frames := 3, cells := 0, slots := 0, locals := 66 } [.ref (ad 7 0), .ref (ad 2 o1), .int x2, .int x3] σ post :=
  ent_v (by decide) (Nat.le_of_ble_eq_true rfl) (fun p e s m below meth c S V hr hlocks hw ls hl => wk_X5_tellThing_0 S V hr hlocks o1 x2 x3 ho1 post   σ _ _ ls h  hw (lv_sub hl [0, 1, 2, 3] rfl))
def wp_X5_tell_97 (K2 : Int32 → St → Prop) (post : St → Prop) (x2 : Int32) (σ : St) : Prop := K2 (x2 + 1) σ
set_option maxHeartbeats 4000000 in
set_option maxRecDepth 100000 in
theorem wk_X5_tell_97 {p : Program} {l : Launch} {e : Env} {s : State} {m : MethodId} {below : List Frame} {meth : Method} {c : Code} {D : va_G} {q : ClassId × ClassId × ClassId × ClassId} {ad : Nat → Nat → Nat} {t : Nat × Nat} {aK aV : Nat → Nat} {args : Array Value} (S : CallFix p m c cX5_tell 5 s args GW "OnChin$Text") (V : EvC D q ad t aK aV s) (hr : meth.sig.returnType = none) (hlocks : meth.locks = false) (K2 : Int32 → St → Prop) (post : St → Prop) (hK2 : ∀ (x2 : Int32) (σ : St) (H : Heap) (locs : List Loc) (ls : Array Slot), K2 x2 σ → wo D clA LC ad s.heap H locs (EC q ad σ) → lv_has ls 5 [(0, .ref (ad 7 0)), (1, .ref (ad 1 0)), (2, .int x2)] → W p l e { frames := 4, cells := 0, slots := 0, locals := 89 } s m args below meth c H locs 0 0 (MQ below (zQv D clA LC ad (EC q ad) post) args s 0 0 (zA LC ad)) (F0 m 2 ls [])) : ∀ (x2 : Int32) (σ : St) (H : Heap) (locs : List Loc) (ls : Array Slot), wp_X5_tell_97 K2 post x2 σ → wo D clA LC ad s.heap H locs (EC q ad σ) → lv_has ls 5 [(0, .ref (ad 7 0)), (1, .ref (ad 1 0)), (2, .int x2)] → W p l e { frames := 4, cells := 0, slots := 0, locals := 89 } s m args below meth c H locs 0 0 (MQ below (zQv D clA LC ad (EC q ad) post) args s 0 0 (zA LC ad)) (F0 m 97 ls []) := by
  have hx := S.1
  have hb := S.2.1
  intro x2 σ H locs ls h  hw hl
  refine lv_iinc (v := (x2 + 1)) (lv' := [(2, .int (x2 + 1)), (0, .ref (ad 7 0)), (1, .ref (ad 1 0))]) hx hb dX5_tell_97 hl (k := 2) rfl rfl (by decide) rfl (fun ls hl => ?_)
  refine lv_goto (tgt := 2) hx hb dX5_tell_100 (by decide) ?_
  exact hK2 (x2 + 1) _ _ _ _ h  hw (lv_sub hl [1, 2, 0] rfl)
def wp_X5_tell_38 (K2 : Int32 → St → Prop) (post : St → Prop) (x2 : Int32) (x3 : Int32) (xs0 : Int32) (σ : St) : Prop := (vp_in x2 8 ∧ (¬ x3 < 0 ∧ ¬ (σ 11 0 x2.toNatClampNeg) < 0 ∧ ¬ xs0 < 0 ∧ x3.toNatClampNeg + xs0.toNatClampNeg ≤ 40 ∧ (σ 11 0 x2.toNatClampNeg).toNatClampNeg + xs0.toNatClampNeg ≤ 10 ∧ wp_X5_tell_97 K2 post x2 (sr σ 6 0 (va_cpy (fun i => σ 10 0 i) (fun i => σ 6 0 i) x3.toNatClampNeg (σ 11 0 x2.toNatClampNeg).toNatClampNeg xs0.toNatClampNeg))))
set_option maxHeartbeats 4000000 in
set_option maxRecDepth 100000 in
theorem wk_X5_tell_38 {p : Program} {l : Launch} {e : Env} {s : State} {m : MethodId} {below : List Frame} {meth : Method} {c : Code} {D : va_G} {q : ClassId × ClassId × ClassId × ClassId} {ad : Nat → Nat → Nat} {t : Nat × Nat} {aK aV : Nat → Nat} {args : Array Value} (S : CallFix p m c cX5_tell 5 s args GW "OnChin$Text") (V : EvC D q ad t aK aV s) (hr : meth.sig.returnType = none) (hlocks : meth.locks = false) (K2 : Int32 → St → Prop) (post : St → Prop) (hK2 : ∀ (x2 : Int32) (σ : St) (H : Heap) (locs : List Loc) (ls : Array Slot), K2 x2 σ → wo D clA LC ad s.heap H locs (EC q ad σ) → lv_has ls 5 [(0, .ref (ad 7 0)), (1, .ref (ad 1 0)), (2, .int x2)] → W p l e { frames := 4, cells := 0, slots := 0, locals := 89 } s m args below meth c H locs 0 0 (MQ below (zQv D clA LC ad (EC q ad) post) args s 0 0 (zA LC ad)) (F0 m 2 ls [])) : ∀ (x2 : Int32) (x3 : Int32) (xs0 : Int32) (σ : St) (H : Heap) (locs : List Loc) (ls : Array Slot), wp_X5_tell_38 K2 post x2 x3 xs0 σ → wo D clA LC ad s.heap H locs (EC q ad σ) → lv_has ls 5 [(0, .ref (ad 7 0)), (1, .ref (ad 1 0)), (2, .int x2), (3, .int x3)] → W p l e { frames := 4, cells := 0, slots := 0, locals := 89 } s m args below meth c H locs 0 0 (MQ below (zQv D clA LC ad (EC q ad) post) args s 0 0 (zA LC ad)) (F0 m 38 ls [.int xs0]) := by
  have hx := S.1
  have hb := S.2.1
  intro x2 x3 xs0 σ H locs ls h  hw hl
  refine lv_istore (lv' := [(4, .int xs0), (0, .ref (ad 7 0)), (1, .ref (ad 1 0)), (2, .int x2), (3, .int x3)]) hx hb dX5_tell_38 hl (by decide) rfl (fun ls hl => ?_)
  refine lv_aload_n hx hb dX5_tell_40 rfl (lv_at hl 1 rfl) ?_
  refine gC_7_4 S V hw (Nat.le_of_ble_eq_true rfl) fl_X5_25 dX5_tell_41 ?_
  refine lv_iload_n hx hb dX5_tell_44 rfl (lv_at hl 4 rfl) ?_
  refine lv_aload_n hx hb dX5_tell_45 rfl (lv_at hl 2 rfl) ?_
  refine gC_1_1 S V hw (Nat.le_of_ble_eq_true rfl) fl_X5_155 dX5_tell_46 ?_
  refine lv_aload_n hx hb dX5_tell_49 rfl (lv_at hl 1 rfl) ?_
  refine gC_7_6 S V hw (Nat.le_of_ble_eq_true rfl) fl_X5_31 dX5_tell_50 ?_
  refine lv_iload_n hx hb dX5_tell_53 rfl (lv_at hl 3 rfl) ?_
  refine aC_11 S V hw (Nat.le_of_ble_eq_true rfl) h.1 (z := (σ 11 0 x2.toNatClampNeg)) rfl dX5_tell_54 ?_
  have h := h.2
  refine lv_iload hx hb dX5_tell_55 (lv_at hl 0 rfl) ?_
  refine x_copy S V.1 V.2.1 hw hl.1 ml_X5_156 wn_arraycopy ws_arraycopy wi_J10 (kC_10 (Nat.le_of_ble_eq_true rfl)) (kC_6 (Nat.le_of_ble_eq_true rfl)) rfl rfl 0 rfl h.1 h.2.1 h.2.2.1 h.2.2.2.1 h.2.2.2.2.1 (Nat.le_of_ble_eq_true rfl) (Nat.le_of_ble_eq_true rfl) dX5_tell_57 (f' := EC q ad (sr σ 6 0 (va_cpy (fun i => σ 10 0 i) (fun i => σ 6 0 i) x3.toNatClampNeg (σ 11 0 x2.toNatClampNeg).toNatClampNeg xs0.toNatClampNeg))) (by show Sum.inl _ = _; rw [sr_row]; try rfl) EC_sr (fun H locs hw => ?_)
  have h := h.2.2.2.2.2
  refine lv_goto (tgt := 97) hx hb dX5_tell_60 (by decide) ?_
  exact wk_X5_tell_97 S V hr hlocks   K2 post hK2 x2 _ _ _ _ h  hw (lv_sub hl [1, 2, 3] rfl)
def wp_X5_tell_2 (post : St → Prop) : Nat → Int32 → St → Prop
  | 0 => fun _ _ => False
  | n + 1 => fun x2 σ => (((σ 7 0 2) ≤ x2 → post σ) ∧ (¬ (σ 7 0 2) ≤ x2 → (vp_in x2 8 ∧ ((¬ (σ 9 0 x2.toNatClampNeg) = 3 → (vp_in (x2 * 5) 40 ∧ wp_X8_isThing (σ 10 0 ((x2 * 5).toNatClampNeg)) (fun r1 σ1 => ((r1 = 0 → wp_X5_tell_97 (fun y0 τ => wp_X5_tell_2 post n y0 τ) post x2 σ1) ∧ (¬ r1 = 0 → (vp_in (x2 * 5) 40 ∧ (vp_in (σ1 10 0 ((x2 * 5).toNatClampNeg)) 4 ∧ (vp_in x2 8 ∧ wp_X5_tellThing ((σ1 10 0 ((x2 * 5).toNatClampNeg)).toNatClampNeg) (σ1 9 0 x2.toNatClampNeg) (x2 * 5) (fun σ3 => wp_X5_tell_97 (fun y0 τ => wp_X5_tell_2 post n y0 τ) post x2 σ3) σ1)))))) σ)) ∧ ((σ 9 0 x2.toNatClampNeg) = 3 → (vp_in x2 8 ∧ ((¬ (σ 11 0 x2.toNatClampNeg) = 0 → wp_X5_tell_38 (fun y0 τ => wp_X5_tell_2 post n y0 τ) post x2 (x2 * 5) 1 σ) ∧ ((σ 11 0 x2.toNatClampNeg) = 0 → wp_X5_tell_38 (fun y0 τ => wp_X5_tell_2 post n y0 τ) post x2 (x2 * 5) 5 σ))))))))
set_option maxHeartbeats 4000000 in
set_option maxRecDepth 100000 in
theorem wk_X5_tell_2 {p : Program} {l : Launch} {e : Env} {s : State} {m : MethodId} {below : List Frame} {meth : Method} {c : Code} {D : va_G} {q : ClassId × ClassId × ClassId × ClassId} {ad : Nat → Nat → Nat} {t : Nat × Nat} {aK aV : Nat → Nat} {args : Array Value} (S : CallFix p m c cX5_tell 5 s args GW "OnChin$Text") (V : EvC D q ad t aK aV s) (hr : meth.sig.returnType = none) (hlocks : meth.locks = false) (post : St → Prop)  : ∀ (n : Nat) (x2 : Int32) (σ : St) (H : Heap) (locs : List Loc) (ls : Array Slot), wp_X5_tell_2 post n x2 σ → wo D clA LC ad s.heap H locs (EC q ad σ) → lv_has ls 5 [(0, .ref (ad 7 0)), (1, .ref (ad 1 0)), (2, .int x2)] → W p l e { frames := 4, cells := 0, slots := 0, locals := 89 } s m args below meth c H locs 0 0 (MQ below (zQv D clA LC ad (EC q ad) post) args s 0 0 (zA LC ad)) (F0 m 2 ls []) := by
  have hx := S.1
  have hb := S.2.1
  intro n
  induction n with
  | zero => intro x2 σ H locs ls h; exact False.elim h
  | succ n ih =>
    intro x2 σ H locs ls h  hw hl
    refine lv_iload_n hx hb dX5_tell_2 rfl (lv_at hl 2 rfl) ?_
    refine lv_aload_n hx hb dX5_tell_3 rfl (lv_at hl 0 rfl) ?_
    refine gC_7_2 S V hw (Nat.le_of_ble_eq_true rfl) fl_X5_19 rfl dX5_tell_4 ?_
    refine lv_icmp_ge (tgt := 103) hx hb dX5_tell_7 (by decide) (fun hc => ?_) (fun hc => ?_)
    · have h := h.1 hc
      exact ret_v S hr hlocks hw h dX5_tell_103
    · have h := h.2 hc
      refine lv_iload_n hx hb dX5_tell_10 rfl (lv_at hl 2 rfl) ?_
      refine lv_iconst (v := 5) hx hb dX5_tell_11 (by decide) ?_
      refine lv_imul hx hb dX5_tell_12 ?_
      refine lv_istore_n (lv' := [(3, .int (x2 * 5)), (0, .ref (ad 7 0)), (1, .ref (ad 1 0)), (2, .int x2)]) hx hb dX5_tell_13 rfl hl (by decide) rfl (fun ls hl => ?_)
      refine lv_aload_n hx hb dX5_tell_14 rfl (lv_at hl 1 rfl) ?_
      refine gC_7_3 S V hw (Nat.le_of_ble_eq_true rfl) fl_X5_22 dX5_tell_15 ?_
      refine lv_iload_n hx hb dX5_tell_18 rfl (lv_at hl 3 rfl) ?_
      refine aC_9 S V hw (Nat.le_of_ble_eq_true rfl) h.1 (z := (σ 9 0 x2.toNatClampNeg)) rfl dX5_tell_19 ?_
      have h := h.2
      refine lv_iconst (v := 3) hx hb dX5_tell_20 (by decide) ?_
      refine lv_icmp_ne (tgt := 63) hx hb dX5_tell_21 (by decide) (fun hc => ?_) (fun hc => ?_)
      · have h := h.1 hc
        refine lv_aload_n hx hb dX5_tell_63 rfl (lv_at hl 1 rfl) ?_
        refine gC_7_4 S V hw (Nat.le_of_ble_eq_true rfl) fl_X5_25 dX5_tell_64 ?_
        refine lv_iload_n hx hb dX5_tell_67 rfl (lv_at hl 0 rfl) ?_
        refine aC_10 S V hw (Nat.le_of_ble_eq_true rfl) h.1 (z := (σ 10 0 ((x2 * 5).toNatClampNeg))) rfl dX5_tell_68 ?_
        have h := h.2
        refine call_SNi (As := [.int (σ 10 0 ((x2 * 5).toNatClampNeg))]) (rest := []) EvC_ok S V hw (mt_X8_isThing l D q ad t aK aV (σ 10 0 ((x2 * 5).toNatClampNeg))  σ _ h) ok_X8_isThing (V.2.2.1 _ (List.mem_of_getElem? (i := 10) rfl)) ⟨(Nat.le_of_ble_eq_true rfl), (Nat.le_of_ble_eq_true rfl)⟩ ⟨rfl, rfl⟩ rfl hl.1 rfl (Nat.le_of_ble_eq_true rfl) dX5_tell_69 (fun r1 σ1 H locs h hw => ?_)
        refine lv_if_eq (tgt := 97) hx hb dX5_tell_72 (by decide) (fun hc => ?_) (fun hc => ?_)
        · have h := h.1 hc
          exact wk_X5_tell_97 S V hr hlocks   (fun y0 τ => wp_X5_tell_2 post n y0 τ) post ih x2 _ _ _ _ h  hw (lv_sub hl [1, 2, 3] rfl)
        · have h := h.2 hc
          refine lv_aload_n hx hb dX5_tell_75 rfl (lv_at hl 1 rfl) ?_
          refine lv_aload_n hx hb dX5_tell_76 rfl (lv_at hl 2 rfl) ?_
          refine gC_1_0 S V hw (Nat.le_of_ble_eq_true rfl) fl_X5_46 dX5_tell_77 ?_
          refine lv_aload_n hx hb dX5_tell_80 rfl (lv_at hl 1 rfl) ?_
          refine gC_7_4 S V hw (Nat.le_of_ble_eq_true rfl) fl_X5_25 dX5_tell_81 ?_
          refine lv_iload_n hx hb dX5_tell_84 rfl (lv_at hl 0 rfl) ?_
          refine aC_10 S V hw (Nat.le_of_ble_eq_true rfl) h.1 (z := (σ1 10 0 ((x2 * 5).toNatClampNeg))) rfl dX5_tell_85 ?_
          have h := h.2
          have hv2 := h.1
          have h := h.2
          refine aC_5 S V hw (Nat.le_of_ble_eq_true rfl) hv2 dX5_tell_86 ?_
          refine lv_aload_n hx hb dX5_tell_87 rfl (lv_at hl 1 rfl) ?_
          refine gC_7_3 S V hw (Nat.le_of_ble_eq_true rfl) fl_X5_22 dX5_tell_88 ?_
          refine lv_iload_n hx hb dX5_tell_91 rfl (lv_at hl 3 rfl) ?_
          refine aC_9 S V hw (Nat.le_of_ble_eq_true rfl) h.1 (z := (σ1 9 0 x2.toNatClampNeg)) rfl dX5_tell_92 ?_
          have h := h.2
          refine lv_iload_n hx hb dX5_tell_93 rfl (lv_at hl 0 rfl) ?_
          refine call_Vv (As := [.ref (ad 2 ((σ1 10 0 ((x2 * 5).toNatClampNeg)).toNatClampNeg)), .int (σ1 9 0 x2.toNatClampNeg), .int (x2 * 5)]) (rest := []) EvC_ok S V hw (mt_X5_tellThing l D q ad t aK aV ((σ1 10 0 ((x2 * 5).toNatClampNeg)).toNatClampNeg) (σ1 9 0 x2.toNatClampNeg) (x2 * 5) (vin_lt hv2 (Nat.le_of_ble_eq_true rfl)) σ1 _ h) ok_X5_tellThing ml_X5_162 (rC_7 S V hw (Nat.le_of_ble_eq_true rfl)) ⟨(Nat.le_of_ble_eq_true rfl), (Nat.le_of_ble_eq_true rfl)⟩ ⟨rfl, rfl⟩ rfl hl.1 rfl (Nat.le_of_ble_eq_true rfl) dX5_tell_94 (fun σ3 H locs h hw => ?_)
          exact wk_X5_tell_97 S V hr hlocks   (fun y0 τ => wp_X5_tell_2 post n y0 τ) post ih x2 _ _ _ _ h  hw (lv_sub hl [1, 2, 3] rfl)
      · have h := h.2 hc
        refine lv_aload_n hx hb dX5_tell_24 rfl (lv_at hl 1 rfl) ?_
        refine gC_7_6 S V hw (Nat.le_of_ble_eq_true rfl) fl_X5_31 dX5_tell_25 ?_
        refine lv_iload_n hx hb dX5_tell_28 rfl (lv_at hl 3 rfl) ?_
        refine aC_11 S V hw (Nat.le_of_ble_eq_true rfl) h.1 (z := (σ 11 0 x2.toNatClampNeg)) rfl dX5_tell_29 ?_
        have h := h.2
        refine lv_if_ne (tgt := 37) hx hb dX5_tell_30 (by decide) (fun hc => ?_) (fun hc => ?_)
        · have h := h.1 hc
          refine lv_iconst (v := 1) hx hb dX5_tell_37 (by decide) ?_
          exact wk_X5_tell_38 S V hr hlocks   (fun y0 τ => wp_X5_tell_2 post n y0 τ) post ih x2 (x2 * 5) 1 _ _ _ _ h  hw (lv_sub hl [1, 2, 3, 0] rfl)
        · have h := h.2 hc
          refine lv_iconst (v := 5) hx hb dX5_tell_33 (by decide) ?_
          refine lv_goto (tgt := 38) hx hb dX5_tell_34 (by decide) ?_
          exact wk_X5_tell_38 S V hr hlocks   (fun y0 τ => wp_X5_tell_2 post n y0 τ) post ih x2 (x2 * 5) 5 _ _ _ _ h  hw (lv_sub hl [1, 2, 3, 0] rfl)
def wp_X5_tell (post : St → Prop)  (σ : St) : Prop := ∃ nn, wp_X5_tell_2 post nn 0 σ
set_option maxHeartbeats 4000000 in
set_option maxRecDepth 100000 in
theorem wk_X5_tell_0 {p : Program} {l : Launch} {e : Env} {s : State} {m : MethodId} {below : List Frame} {meth : Method} {c : Code} {D : va_G} {q : ClassId × ClassId × ClassId × ClassId} {ad : Nat → Nat → Nat} {t : Nat × Nat} {aK aV : Nat → Nat} {args : Array Value} (S : CallFix p m c cX5_tell 5 s args GW "OnChin$Text") (V : EvC D q ad t aK aV s) (hr : meth.sig.returnType = none) (hlocks : meth.locks = false) (post : St → Prop)  : ∀ (σ : St) (H : Heap) (locs : List Loc) (ls : Array Slot), wp_X5_tell post  σ → wo D clA LC ad s.heap H locs (EC q ad σ) → lv_has ls 5 [(0, .ref (ad 7 0)), (1, .ref (ad 1 0))] → W p l e { frames := 4, cells := 0, slots := 0, locals := 89 } s m args below meth c H locs 0 0 (MQ below (zQv D clA LC ad (EC q ad) post) args s 0 0 (zA LC ad)) (F0 m 0 ls []) := by
  have hx := S.1
  have hb := S.2.1
  intro  σ H locs ls h  hw hl
  refine lv_iconst (v := 0) hx hb dX5_tell_0 (by decide) ?_
  refine lv_istore_n (lv' := [(2, .int 0), (0, .ref (ad 7 0)), (1, .ref (ad 1 0))]) hx hb dX5_tell_1 rfl hl (by decide) rfl (fun ls hl => ?_)
  obtain ⟨n9, h⟩ := h
  exact wk_X5_tell_2 S V hr hlocks    post  n9 0 _ _ _ _ h  hw (lv_sub hl [1, 2, 0] rfl)
theorem mt_X5_tell (l : Launch) (D : va_G) (q : ClassId × ClassId × ClassId × ClassId) (ad : Nat → Nat → Nat) (t : Nat × Nat) (aK aV : Nat → Nat)  (σ : St) (post : St → Prop) (h : wp_X5_tell post σ) : cV l D clA LC ad (EC q ad) (EvC D q ad t aK aV) yX5_tell cX5_tell 5 none { frames := 4, cells := 0, slots := 0, locals := 89 } [.ref (ad 7 0), .ref (ad 1 0)] σ post :=
  ent_v (by decide) (Nat.le_of_ble_eq_true rfl) (fun p e s m below meth c S V hr hlocks hw ls hl => wk_X5_tell_0 S V hr hlocks   post   σ _ _ ls h  hw (lv_sub hl [0, 1] rfl))
