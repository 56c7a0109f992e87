def wp_X4_lasts_121 (o1 : Nat) (x2 : Int32) (x3 : Int32) (x4 : Int32) (post : Int32 → St → Prop)  (σ : St) : Prop := post (σ 13 3 4) σ
set_option maxHeartbeats 4000000 in
set_option maxRecDepth 100000 in
theorem wk_X4_lasts_121 {p : Program} {l : Launch} {e : Env} {s : State} {m : MethodId} {below : List Frame} {meth : Method} {c : Code} {D : va_G} {q : ClassId × ClassId × ClassId × ClassId} {ad : Nat → Nat → Nat} {t : Nat × Nat} {aK aV : Nat → Nat} {args : Array Value} (S : CallFix p m c cX4_lasts 8 s args GW "OnChin$Keeper") (V : EvC D q ad t aK aV s) (hr : meth.sig.returnType = (some .int)) (hlocks : meth.locks = false) (o1 : Nat) (x2 : Int32) (x3 : Int32) (x4 : Int32) (ho1 : o1 < 5) (post : Int32 → St → Prop)  : ∀ (σ : St) (H : Heap) (locs : List Loc) (ls : Array Slot), wp_X4_lasts_121 o1 x2 x3 x4 post  σ → wo D clA LC ad s.heap H locs (EC q ad σ) → lv_has ls 8 [(0, .ref (ad 16 0)), (1, .ref (ad 2 o1)), (2, .int x2), (3, .int x3), (4, .int x4)] → W p l e { frames := 4, cells := 0, slots := 0, locals := 92 } s m args below meth c H locs 0 0 (MQ below (zQi D clA LC ad (EC q ad) post) args s 0 0 (zA LC ad)) (F0 m 121 ls []) := by
  have hx := S.1
  have hb := S.2.1
  intro  σ H locs ls h  hw hl
  refine lv_aload_n hx hb dX4_lasts_121 rfl (lv_at hl 0 rfl) ?_
  refine gC_16_1 S V hw (Nat.le_of_ble_eq_true rfl) fl_X4_18 dX4_lasts_122 ?_
  refine gC_13_4 S V hw (Nat.le_of_ble_eq_true rfl) fl_X4_62 rfl dX4_lasts_125 ?_
  exact ret_i S hr hlocks hw h dX4_lasts_128
def wp_X4_lasts_101 (o1 : Nat) (x2 : Int32) (x3 : Int32) (x4 : Int32) (K31 : Int32 → Int32 → Int32 → St → Prop) (post : Int32 → St → Prop) (x5 : Int32) (x6 : Int32) (x7 : Int32) (σ : St) : Prop := wp_X0_tick 3 o1 1 1 0 (fun σ1 => K31 x5 x6 (x7 + 1) σ1) σ
set_option maxHeartbeats 4000000 in
set_option maxRecDepth 100000 in
theorem wk_X4_lasts_101 {p : Program} {l : Launch} {e : Env} {s : State} {m : MethodId} {below : List Frame} {meth : Method} {c : Code} {D : va_G} {q : ClassId × ClassId × ClassId × ClassId} {ad : Nat → Nat → Nat} {t : Nat × Nat} {aK aV : Nat → Nat} {args : Array Value} (S : CallFix p m c cX4_lasts 8 s args GW "OnChin$Keeper") (V : EvC D q ad t aK aV s) (hr : meth.sig.returnType = (some .int)) (hlocks : meth.locks = false) (o1 : Nat) (x2 : Int32) (x3 : Int32) (x4 : Int32) (ho1 : o1 < 5) (K31 : Int32 → Int32 → Int32 → St → Prop) (post : Int32 → St → Prop) (hK31 : ∀ (x5 : Int32) (x6 : Int32) (x7 : Int32) (σ : St) (H : Heap) (locs : List Loc) (ls : Array Slot), K31 x5 x6 x7 σ → wo D clA LC ad s.heap H locs (EC q ad σ) → lv_has ls 8 [(0, .ref (ad 16 0)), (1, .ref (ad 2 o1)), (2, .int x2), (3, .int x3), (4, .int x4), (5, .int x5), (6, .int x6), (7, .int x7)] → W p l e { frames := 4, cells := 0, slots := 0, locals := 92 } s m args below meth c H locs 0 0 (MQ below (zQi D clA LC ad (EC q ad) post) args s 0 0 (zA LC ad)) (F0 m 31 ls [])) : ∀ (x5 : Int32) (x6 : Int32) (x7 : Int32) (σ : St) (H : Heap) (locs : List Loc) (ls : Array Slot), wp_X4_lasts_101 o1 x2 x3 x4 K31 post x5 x6 x7 σ → wo D clA LC ad s.heap H locs (EC q ad σ) → lv_has ls 8 [(0, .ref (ad 16 0)), (1, .ref (ad 2 o1)), (2, .int x2), (3, .int x3), (4, .int x4), (5, .int x5), (6, .int x6), (7, .int x7)] → W p l e { frames := 4, cells := 0, slots := 0, locals := 92 } s m args below meth c H locs 0 0 (MQ below (zQi D clA LC ad (EC q ad) post) args s 0 0 (zA LC ad)) (F0 m 101 ls []) := by
  have hx := S.1
  have hb := S.2.1
  intro x5 x6 x7 σ H locs ls h  hw hl
  have h : wp_X0_tick 3 o1 1 1 0 (fun σ1 => K31 x5 x6 (x7 + 1) σ1) σ := h
  refine lv_aload_n hx hb dX4_lasts_101 rfl (lv_at hl 0 rfl) ?_
  refine gC_16_1 S V hw (Nat.le_of_ble_eq_true rfl) fl_X4_18 dX4_lasts_102 ?_
  refine lv_aload_n hx hb dX4_lasts_105 rfl (lv_at hl 1 rfl) ?_
  refine lv_aload_n hx hb dX4_lasts_106 rfl (lv_at hl 0 rfl) ?_
  refine gC_16_0 S V hw (Nat.le_of_ble_eq_true rfl) fl_X4_9 dX4_lasts_107 ?_
  refine lv_iconst (v := 1) hx hb dX4_lasts_110 (by decide) ?_
  refine lv_iconst (v := 0) hx hb dX4_lasts_111 (by decide) ?_
  refine call_Vv (As := [.ref (ad 2 o1), .ref (ad 6 1), .int 1, .int 0]) (rest := []) EvC_ok S V hw (mt_X0_tick l D q ad t aK aV 3 o1 1 1 0 (Nat.le_of_ble_eq_true rfl) ho1 (Nat.le_of_ble_eq_true rfl) σ _ h) ok_X0_tick ml_X4_58 (rC_13 S V hw (Nat.le_of_ble_eq_true rfl)) ⟨(Nat.le_of_ble_eq_true rfl), (Nat.le_of_ble_eq_true rfl)⟩ ⟨rfl, rfl⟩ rfl hl.1 rfl (Nat.le_of_ble_eq_true rfl) dX4_lasts_112 (fun σ1 H locs h hw => ?_)
  refine lv_iinc (v := (x7 + 1)) (lv' := [(7, .int (x7 + 1)), (0, .ref (ad 16 0)), (1, .ref (ad 2 o1)), (2, .int x2), (3, .int x3), (4, .int x4), (5, .int x5), (6, .int x6)]) hx hb dX4_lasts_115 hl (k := 7) rfl rfl (by decide) rfl (fun ls hl => ?_)
  refine lv_goto (tgt := 31) hx hb dX4_lasts_118 (by decide) ?_
  exact hK31 x5 x6 (x7 + 1) _ _ _ _ h  hw (lv_sub hl [1, 2, 3, 4, 5, 6, 7, 0] rfl)
def wp_X4_lasts_77 (o1 : Nat) (x2 : Int32) (x3 : Int32) (x4 : Int32) (K31 : Int32 → Int32 → Int32 → St → Prop) (post : Int32 → St → Prop) (x5 : Int32) (x6 : Int32) (x7 : Int32) (σ : St) : Prop := ((¬ x7 = x6 → wp_X4_lasts_101 o1 x2 x3 x4 K31 post x5 x6 x7 σ) ∧ (x7 = x6 → wp_X0_copy 4 3 (fun σ1 => wp_X4_lasts_101 o1 x2 x3 x4 K31 post x5 (x6 * 2) x7 σ1) σ))
set_option maxHeartbeats 4000000 in
set_option maxRecDepth 100000 in
theorem wk_X4_lasts_77 {p : Program} {l : Launch} {e : Env} {s : State} {m : MethodId} {below : List Frame} {meth : Method} {c : Code} {D : va_G} {q : ClassId × ClassId × ClassId × ClassId} {ad : Nat → Nat → Nat} {t : Nat × Nat} {aK aV : Nat → Nat} {args : Array Value} (S : CallFix p m c cX4_lasts 8 s args GW "OnChin$Keeper") (V : EvC D q ad t aK aV s) (hr : meth.sig.returnType = (some .int)) (hlocks : meth.locks = false) (o1 : Nat) (x2 : Int32) (x3 : Int32) (x4 : Int32) (ho1 : o1 < 5) (K31 : Int32 → Int32 → Int32 → St → Prop) (post : Int32 → St → Prop) (hK31 : ∀ (x5 : Int32) (x6 : Int32) (x7 : Int32) (σ : St) (H : Heap) (locs : List Loc) (ls : Array Slot), K31 x5 x6 x7 σ → wo D clA LC ad s.heap H locs (EC q ad σ) → lv_has ls 8 [(0, .ref (ad 16 0)), (1, .ref (ad 2 o1)), (2, .int x2), (3, .int x3), (4, .int x4), (5, .int x5), (6, .int x6), (7, .int x7)] → W p l e { frames := 4, cells := 0, slots := 0, locals := 92 } s m args below meth c H locs 0 0 (MQ below (zQi D clA LC ad (EC q ad) post) args s 0 0 (zA LC ad)) (F0 m 31 ls [])) : ∀ (x5 : Int32) (x6 : Int32) (x7 : Int32) (σ : St) (H : Heap) (locs : List Loc) (ls : Array Slot), wp_X4_lasts_77 o1 x2 x3 x4 K31 post x5 x6 x7 σ → wo D clA LC ad s.heap H locs (EC q ad σ) → lv_has ls 8 [(0, .ref (ad 16 0)), (1, .ref (ad 2 o1)), (2, .int x2), (3, .int x3), (4, .int x4), (5, .int x5), (6, .int x6), (7, .int x7)] → W p l e { frames := 4, cells := 0, slots := 0, locals := 92 } s m args below meth c H locs 0 0 (MQ below (zQi D clA LC ad (EC q ad) post) args s 0 0 (zA LC ad)) (F0 m 77 ls []) := by
  have hx := S.1
  have hb := S.2.1
  intro x5 x6 x7 σ H locs ls h  hw hl
  refine lv_iload hx hb dX4_lasts_77 (lv_at hl 7 rfl) ?_
  refine lv_iload hx hb dX4_lasts_79 (lv_at hl 6 rfl) ?_
  refine lv_icmp_ne (tgt := 101) hx hb dX4_lasts_81 (by decide) (fun hc => ?_) (fun hc => ?_)
  · have h := h.1 hc
    exact wk_X4_lasts_101 S V hr hlocks o1 x2 x3 x4 ho1 K31 post hK31 x5 x6 x7 _ _ _ _ h  hw (lv_sub hl [0, 1, 2, 3, 4, 5, 6, 7] rfl)
  · have h := h.2 hc
    refine lv_aload_n hx hb dX4_lasts_84 rfl (lv_at hl 0 rfl) ?_
    refine gC_16_2 S V hw (Nat.le_of_ble_eq_true rfl) fl_X4_22 dX4_lasts_85 ?_
    refine lv_aload_n hx hb dX4_lasts_88 rfl (lv_at hl 0 rfl) ?_
    refine gC_16_1 S V hw (Nat.le_of_ble_eq_true rfl) fl_X4_18 dX4_lasts_89 ?_
    refine call_Vv (As := [.ref (ad 13 3)]) (rest := []) EvC_ok S V hw (mt_X0_copy l D q ad t aK aV 4 3 (Nat.le_of_ble_eq_true rfl) (Nat.le_of_ble_eq_true rfl) σ _ h) ok_X0_copy ml_X4_54 (rC_13 S V hw (Nat.le_of_ble_eq_true rfl)) ⟨(Nat.le_of_ble_eq_true rfl), (Nat.le_of_ble_eq_true rfl)⟩ ⟨rfl, rfl⟩ rfl hl.1 rfl (Nat.le_of_ble_eq_true rfl) dX4_lasts_92 (fun σ1 H locs h hw => ?_)
    refine lv_iload hx hb dX4_lasts_95 (lv_at hl 6 rfl) ?_
    refine lv_iconst (v := 2) hx hb dX4_lasts_97 (by decide) ?_
    refine lv_imul hx hb dX4_lasts_98 ?_
    refine lv_istore (lv' := [(6, .int (x6 * 2)), (0, .ref (ad 16 0)), (1, .ref (ad 2 o1)), (2, .int x2), (3, .int x3), (4, .int x4), (5, .int x5), (7, .int x7)]) hx hb dX4_lasts_99 hl (by decide) rfl (fun ls hl => ?_)
    exact wk_X4_lasts_101 S V hr hlocks o1 x2 x3 x4 ho1 K31 post hK31 x5 (x6 * 2) x7 _ _ _ _ h  hw (lv_sub hl [1, 2, 3, 4, 5, 6, 0, 7] rfl)
def wp_X4_lasts_31 (o1 : Nat) (x2 : Int32) (x3 : Int32) (x4 : Int32) (post : Int32 → St → Prop) : Nat → Int32 → Int32 → Int32 → St → Prop
  | 0 => fun _ _ _ _ => False
  | n + 1 => fun x5 x6 x7 σ => ((x4 ≤ x7 → wp_X4_lasts_121 o1 x2 x3 x4 post  σ) ∧ (¬ x4 ≤ x7 → wp_X0_fell 3 1 (fun r1 σ1 => ((¬ r1 = 0 → wp_X4_lasts_121 o1 x2 x3 x4 post  σ1) ∧ (r1 = 0 → ((x7 ≤ 4 → wp_X4_lasts_77 o1 x2 x3 x4 (fun y0 y1 y2 τ => wp_X4_lasts_31 o1 x2 x3 x4 post n y0 y1 y2 τ) post x5 x6 x7 σ1) ∧ (¬ x7 ≤ 4 → wp_X0_isAgain 3 4 x5 (fun r2 σ2 => ((r2 = 0 → wp_X4_lasts_77 o1 x2 x3 x4 (fun y0 y1 y2 τ => wp_X4_lasts_31 o1 x2 x3 x4 post n y0 y1 y2 τ) post x5 x6 x7 σ2) ∧ (¬ r2 = 0 → post x4 σ2))) σ1))))) σ))
set_option maxHeartbeats 4000000 in
set_option maxRecDepth 100000 in
theorem wk_X4_lasts_31 {p : Program} {l : Launch} {e : Env} {s : State} {m : MethodId} {below : List Frame} {meth : Method} {c : Code} {D : va_G} {q : ClassId × ClassId × ClassId × ClassId} {ad : Nat → Nat → Nat} {t : Nat × Nat} {aK aV : Nat → Nat} {args : Array Value} (S : CallFix p m c cX4_lasts 8 s args GW "OnChin$Keeper") (V : EvC D q ad t aK aV s) (hr : meth.sig.returnType = (some .int)) (hlocks : meth.locks = false) (o1 : Nat) (x2 : Int32) (x3 : Int32) (x4 : Int32) (ho1 : o1 < 5) (post : Int32 → St → Prop)  : ∀ (n : Nat) (x5 : Int32) (x6 : Int32) (x7 : Int32) (σ : St) (H : Heap) (locs : List Loc) (ls : Array Slot), wp_X4_lasts_31 o1 x2 x3 x4 post n x5 x6 x7 σ → wo D clA LC ad s.heap H locs (EC q ad σ) → lv_has ls 8 [(0, .ref (ad 16 0)), (1, .ref (ad 2 o1)), (2, .int x2), (3, .int x3), (4, .int x4), (5, .int x5), (6, .int x6), (7, .int x7)] → W p l e { frames := 4, cells := 0, slots := 0, locals := 92 } s m args below meth c H locs 0 0 (MQ below (zQi D clA LC ad (EC q ad) post) args s 0 0 (zA LC ad)) (F0 m 31 ls []) := by
  have hx := S.1
  have hb := S.2.1
  intro n
  induction n with
  | zero => intro x5 x6 x7 σ H locs ls h; exact False.elim h
  | succ n ih =>
    intro x5 x6 x7 σ H locs ls h  hw hl
    refine lv_iload hx hb dX4_lasts_31 (lv_at hl 7 rfl) ?_
    refine lv_iload hx hb dX4_lasts_33 (lv_at hl 4 rfl) ?_
    refine lv_icmp_ge (tgt := 121) hx hb dX4_lasts_35 (by decide) (fun hc => ?_) (fun hc => ?_)
    · have h := h.1 hc
      exact wk_X4_lasts_121 S V hr hlocks o1 x2 x3 x4 ho1  post   _ _ _ _ h  hw (lv_sub hl [0, 1, 2, 3, 4] rfl)
    · have h := h.2 hc
      refine lv_aload_n hx hb dX4_lasts_38 rfl (lv_at hl 0 rfl) ?_
      refine gC_16_1 S V hw (Nat.le_of_ble_eq_true rfl) fl_X4_18 dX4_lasts_39 ?_
      refine lv_aload_n hx hb dX4_lasts_42 rfl (lv_at hl 0 rfl) ?_
      refine gC_16_0 S V hw (Nat.le_of_ble_eq_true rfl) fl_X4_9 dX4_lasts_43 ?_
      refine call_Vi (As := [.ref (ad 6 1)]) (rest := []) EvC_ok S V hw (mt_X0_fell l D q ad t aK aV 3 1 (Nat.le_of_ble_eq_true rfl) (Nat.le_of_ble_eq_true rfl) σ _ h) ok_X0_fell ml_X4_46 (rC_13 S V hw (Nat.le_of_ble_eq_true rfl)) ⟨(Nat.le_of_ble_eq_true rfl), (Nat.le_of_ble_eq_true rfl)⟩ ⟨rfl, rfl⟩ rfl hl.1 rfl (Nat.le_of_ble_eq_true rfl) dX4_lasts_46 (fun r1 σ1 H locs h hw => ?_)
      refine lv_if_ne (tgt := 121) hx hb dX4_lasts_49 (by decide) (fun hc => ?_) (fun hc => ?_)
      · have h := h.1 hc
        exact wk_X4_lasts_121 S V hr hlocks o1 x2 x3 x4 ho1  post   _ _ _ _ h  hw (lv_sub hl [0, 1, 2, 3, 4] rfl)
      · have h := h.2 hc
        refine lv_iload hx hb dX4_lasts_52 (lv_at hl 7 rfl) ?_
        refine lv_iconst (v := 4) hx hb dX4_lasts_54 (by decide) ?_
        refine lv_icmp_le (tgt := 77) hx hb dX4_lasts_55 (by decide) (fun hc => ?_) (fun hc => ?_)
        · have h := h.1 hc
          exact wk_X4_lasts_77 S V hr hlocks o1 x2 x3 x4 ho1 (fun y0 y1 y2 τ => wp_X4_lasts_31 o1 x2 x3 x4 post n y0 y1 y2 τ) post ih x5 x6 x7 _ _ _ _ h  hw (lv_sub hl [0, 1, 2, 3, 4, 5, 6, 7] rfl)
        · have h := h.2 hc
          refine lv_aload_n hx hb dX4_lasts_58 rfl (lv_at hl 0 rfl) ?_
          refine gC_16_1 S V hw (Nat.le_of_ble_eq_true rfl) fl_X4_18 dX4_lasts_59 ?_
          refine lv_aload_n hx hb dX4_lasts_62 rfl (lv_at hl 0 rfl) ?_
          refine gC_16_2 S V hw (Nat.le_of_ble_eq_true rfl) fl_X4_22 dX4_lasts_63 ?_
          refine lv_iload hx hb dX4_lasts_66 (lv_at hl 5 rfl) ?_
          refine call_Vi (As := [.ref (ad 13 4), .int x5]) (rest := []) EvC_ok S V hw (mt_X0_isAgain l D q ad t aK aV 3 4 x5 (Nat.le_of_ble_eq_true rfl) (Nat.le_of_ble_eq_true rfl) σ1 _ h) ok_X0_isAgain ml_X4_50 (rC_13 S V hw (Nat.le_of_ble_eq_true rfl)) ⟨(Nat.le_of_ble_eq_true rfl), (Nat.le_of_ble_eq_true rfl)⟩ ⟨rfl, rfl⟩ rfl hl.1 rfl (Nat.le_of_ble_eq_true rfl) dX4_lasts_68 (fun r2 σ2 H locs h hw => ?_)
          refine lv_if_eq (tgt := 77) hx hb dX4_lasts_71 (by decide) (fun hc => ?_) (fun hc => ?_)
          · have h := h.1 hc
            exact wk_X4_lasts_77 S V hr hlocks o1 x2 x3 x4 ho1 (fun y0 y1 y2 τ => wp_X4_lasts_31 o1 x2 x3 x4 post n y0 y1 y2 τ) post ih x5 x6 x7 _ _ _ _ h  hw (lv_sub hl [0, 1, 2, 3, 4, 5, 6, 7] rfl)
          · have h := h.2 hc
            refine lv_iload hx hb dX4_lasts_74 (lv_at hl 4 rfl) ?_
            exact ret_i S hr hlocks hw h dX4_lasts_76
def wp_X4_lasts (o1 : Nat) (x2 : Int32) (x3 : Int32) (x4 : Int32) (post : Int32 → St → Prop)  (σ : St) : Prop := wp_X6_seenLater o1 (fun r1 σ1 => wp_X0_start 3 0 x2 x3 (fun σ2 => ∃ nn, wp_X4_lasts_31 o1 x2 x3 x4 post nn (((σ 6 1 2) + r1) + 1) 4 0 σ2) σ1) σ
set_option maxHeartbeats 4000000 in
set_option maxRecDepth 100000 in
theorem wk_X4_lasts_0 {p : Program} {l : Launch} {e : Env} {s : State} {m : MethodId} {below : List Frame} {meth : Method} {c : Code} {D : va_G} {q : ClassId × ClassId × ClassId × ClassId} {ad : Nat → Nat → Nat} {t : Nat × Nat} {aK aV : Nat → Nat} {args : Array Value} (S : CallFix p m c cX4_lasts 8 s args GW "OnChin$Keeper") (V : EvC D q ad t aK aV s) (hr : meth.sig.returnType = (some .int)) (hlocks : meth.locks = false) (o1 : Nat) (x2 : Int32) (x3 : Int32) (x4 : Int32) (ho1 : o1 < 5) (post : Int32 → St → Prop)  : ∀ (σ : St) (H : Heap) (locs : List Loc) (ls : Array Slot), wp_X4_lasts o1 x2 x3 x4 post  σ → wo D clA LC ad s.heap H locs (EC q ad σ) → lv_has ls 8 [(0, .ref (ad 16 0)), (1, .ref (ad 2 o1)), (2, .int x2), (3, .int x3), (4, .int x4)] → W p l e { frames := 4, cells := 0, slots := 0, locals := 92 } s m args below meth c H locs 0 0 (MQ below (zQi D clA LC ad (EC q ad) post) args s 0 0 (zA LC ad)) (F0 m 0 ls []) := by
  have hx := S.1
  have hb := S.2.1
  intro  σ H locs ls h  hw hl
  have h : wp_X6_seenLater o1 (fun r1 σ1 => wp_X0_start 3 0 x2 x3 (fun σ2 => ∃ nn, wp_X4_lasts_31 o1 x2 x3 x4 post nn (((σ 6 1 2) + r1) + 1) 4 0 σ2) σ1) σ := h
  refine lv_aload_n hx hb dX4_lasts_0 rfl (lv_at hl 0 rfl) ?_
  refine gC_16_0 S V hw (Nat.le_of_ble_eq_true rfl) fl_X4_9 dX4_lasts_1 ?_
  refine lv_iconst (v := 2) hx hb dX4_lasts_4 (by decide) ?_
  refine aC_6 S V hw (Nat.le_of_ble_eq_true rfl) (vp_in_nI (n := 2) (Nat.le_of_ble_eq_true rfl) (Nat.le_of_ble_eq_true rfl)) (z := (σ 6 1 2)) rfl dX4_lasts_5 ?_
  refine lv_aload_n hx hb dX4_lasts_6 rfl (lv_at hl 1 rfl) ?_
  refine call_Vi (As := []) (rest := [.int (σ 6 1 2)]) EvC_ok S V hw (mt_X6_seenLater l D q ad t aK aV o1 ho1 σ _ h) ok_X6_seenLater ml_X4_38 (rC_2 S V hw ho1) ⟨(Nat.le_of_ble_eq_true rfl), (Nat.le_of_ble_eq_true rfl)⟩ ⟨rfl, rfl⟩ rfl hl.1 rfl (Nat.le_of_ble_eq_true rfl) dX4_lasts_7 (fun r1 σ1 H locs h hw => ?_)
  refine lv_iadd hx hb dX4_lasts_10 ?_
  refine lv_iconst (v := 1) hx hb dX4_lasts_11 (by decide) ?_
  refine lv_iadd hx hb dX4_lasts_12 ?_
  refine lv_istore (lv' := [(5, .int (((σ 6 1 2) + r1) + 1)), (0, .ref (ad 16 0)), (1, .ref (ad 2 o1)), (2, .int x2), (3, .int x3), (4, .int x4)]) hx hb dX4_lasts_13 hl (by decide) rfl (fun ls hl => ?_)
  refine lv_iconst (v := 4) hx hb dX4_lasts_15 (by decide) ?_
  refine lv_istore (lv' := [(6, .int 4), (5, .int (((σ 6 1 2) + r1) + 1)), (0, .ref (ad 16 0)), (1, .ref (ad 2 o1)), (2, .int x2), (3, .int x3), (4, .int x4)]) hx hb dX4_lasts_16 hl (by decide) rfl (fun ls hl => ?_)
  refine lv_aload_n hx hb dX4_lasts_18 rfl (lv_at hl 2 rfl) ?_
  refine gC_16_1 S V hw (Nat.le_of_ble_eq_true rfl) fl_X4_18 dX4_lasts_19 ?_
  refine lv_iconst (v := 0) hx hb dX4_lasts_22 (by decide) ?_
  refine lv_iload_n hx hb dX4_lasts_23 rfl (lv_at hl 4 rfl) ?_
  refine lv_iload_n hx hb dX4_lasts_24 rfl (lv_at hl 5 rfl) ?_
  refine call_Vv (As := [.int 0, .int x2, .int x3]) (rest := []) EvC_ok S V hw (mt_X0_start l D q ad t aK aV 3 0 x2 x3 (Nat.le_of_ble_eq_true rfl) σ1 _ h) ok_X0_start ml_X4_42 (rC_13 S V hw (Nat.le_of_ble_eq_true rfl)) ⟨(Nat.le_of_ble_eq_true rfl), (Nat.le_of_ble_eq_true rfl)⟩ ⟨rfl, rfl⟩ rfl hl.1 rfl (Nat.le_of_ble_eq_true rfl) dX4_lasts_25 (fun σ2 H locs h hw => ?_)
  refine lv_iconst (v := 0) hx hb dX4_lasts_28 (by decide) ?_
  refine lv_istore (lv' := [(7, .int 0), (6, .int 4), (5, .int (((σ 6 1 2) + r1) + 1)), (0, .ref (ad 16 0)), (1, .ref (ad 2 o1)), (2, .int x2), (3, .int x3), (4, .int x4)]) hx hb dX4_lasts_29 hl (by decide) rfl (fun ls hl => ?_)
  obtain ⟨n9, h⟩ := h
  exact wk_X4_lasts_31 S V hr hlocks o1 x2 x3 x4 ho1  post  n9 (((σ 6 1 2) + r1) + 1) 4 0 _ _ _ _ h  hw (lv_sub hl [3, 4, 5, 6, 7, 2, 1, 0] rfl)
theorem mt_X4_lasts (l : Launch) (D : va_G) (q : ClassId × ClassId × ClassId × ClassId) (ad : Nat → Nat → Nat) (t : Nat × Nat) (aK aV : Nat → Nat) (o1 : Nat) (x2 : Int32) (x3 : Int32) (x4 : Int32) (ho1 : o1 < 5) (σ : St) (post : Int32 → St → Prop) (h : wp_X4_lasts o1 x2 x3 x4 post σ) : cI l D clA LC ad (EC q ad) (EvC D q ad t aK aV) yX4_lasts cX4_lasts 8 (some .int) { frames := 4, cells := 0, slots := 0, locals := 92 } [.ref (ad 16 0), .ref (ad 2 o1), .int x2, .int x3, .int x4] σ post :=
  ent_i (by decide) (Nat.le_of_ble_eq_true rfl) (fun p e s m below meth c S V hr hlocks hw ls hl => wk_X4_lasts_0 S V hr hlocks o1 x2 x3 x4 ho1 post   σ _ _ ls h  hw (lv_sub hl [0, 1, 2, 3, 4] rfl))
def wp_X1_lesson (o0 : Nat) (post : Int32 → St → Prop)  (σ : St) : Prop := ((0 < (σ 2 o0 3) → wp_X4_lasts o0 10 0 40 (fun r1 σ1 => ((40 ≤ r1 → (¬ ((σ1 2 o0 3) + 20) = 0 ∧ post (if 1 < (200 / ((σ1 2 o0 3) + 20)) then (200 / ((σ1 2 o0 3) + 20)) else 1) σ1)) ∧ (¬ 40 ≤ r1 → post 0 σ1))) σ) ∧ (¬ 0 < (σ 2 o0 3) → post (-1) σ))
set_option maxHeartbeats 4000000 in
set_option maxRecDepth 100000 in
theorem wk_X1_lesson_0 {p : Program} {l : Launch} {e : Env} {s : State} {m : MethodId} {below : List Frame} {meth : Method} {c : Code} {D : va_G} {q : ClassId × ClassId × ClassId × ClassId} {ad : Nat → Nat → Nat} {t : Nat × Nat} {aK aV : Nat → Nat} {args : Array Value} (S : CallFix p m c cX1_lesson 2 s args GW "OnChin$Evenings") (V : EvC D q ad t aK aV s) (hr : meth.sig.returnType = (some .int)) (hlocks : meth.locks = false) (o0 : Nat) (ho0 : o0 < 5) (post : Int32 → St → Prop)  : ∀ (σ : St) (H : Heap) (locs : List Loc) (ls : Array Slot), wp_X1_lesson o0 post  σ → wo D clA LC ad s.heap H locs (EC q ad σ) → lv_has ls 2 [(0, .ref (ad 2 o0)), (1, .ref (ad 16 0))] → W p l e { frames := 5, cells := 0, slots := 0, locals := 119 } s m args below meth c H locs 0 0 (MQ below (zQi D clA LC ad (EC q ad) post) args s 0 0 (zA LC ad)) (F0 m 0 ls []) := by
  have hx := S.1
  have hb := S.2.1
  intro  σ H locs ls h  hw hl
  refine lv_aload_n hx hb dX1_lesson_0 rfl (lv_at hl 0 rfl) ?_
  refine gC_2_3 S V hw ho0 fl_X1_34 rfl dX1_lesson_1 ?_
  refine lv_if_gt (tgt := 9) hx hb dX1_lesson_4 (by decide) (fun hc => ?_) (fun hc => ?_)
  · have h := h.1 hc
    refine lv_aload_n hx hb dX1_lesson_9 rfl (lv_at hl 1 rfl) ?_
    refine lv_aload_n hx hb dX1_lesson_10 rfl (lv_at hl 0 rfl) ?_
    refine lv_bipush (v := 10) hx hb dX1_lesson_11 (by decide) ?_
    refine lv_iconst (v := 0) hx hb dX1_lesson_13 (by decide) ?_
    refine lv_bipush (v := 40) hx hb dX1_lesson_14 (by decide) ?_
    refine call_Vi (As := [.ref (ad 2 o0), .int 10, .int 0, .int 40]) (rest := []) EvC_ok S V hw (mt_X4_lasts l D q ad t aK aV o0 10 0 40 ho0 σ _ h) ok_X4_lasts ml_X1_39 (rC_16 S V hw (Nat.le_of_ble_eq_true rfl)) ⟨(Nat.le_of_ble_eq_true rfl), (Nat.le_of_ble_eq_true rfl)⟩ ⟨rfl, rfl⟩ rfl hl.1 rfl (Nat.le_of_ble_eq_true rfl) dX1_lesson_16 (fun r1 σ1 H locs h hw => ?_)
    refine lv_bipush (v := 40) hx hb dX1_lesson_19 (by decide) ?_
    refine lv_icmp_ge (tgt := 26) hx hb dX1_lesson_21 (by decide) (fun hc => ?_) (fun hc => ?_)
    · have h := h.1 hc
      refine lv_iconst (v := 1) hx hb dX1_lesson_26 (by decide) ?_
      refine lv_sipush (v := 200) hx hb dX1_lesson_27 (by decide) ?_
      refine lv_aload_n hx hb dX1_lesson_30 rfl (lv_at hl 0 rfl) ?_
      refine gC_2_3 S V hw ho0 fl_X1_34 rfl dX1_lesson_31 ?_
      refine lv_bipush (v := 20) hx hb dX1_lesson_34 (by decide) ?_
      refine lv_iadd hx hb dX1_lesson_36 ?_
      refine lv_idiv hx hb dX1_lesson_37 h.1 ?_
      have h := h.2
      refine x_max S hl.1 ml_X1_43 ws_max wi_J9 wc_max (Nat.le_of_ble_eq_true rfl) (Nat.le_of_ble_eq_true rfl) dX1_lesson_38 ?_
      exact ret_i S hr hlocks hw h dX1_lesson_41
    · have h := h.2 hc
      refine lv_iconst (v := 0) hx hb dX1_lesson_24 (by decide) ?_
      exact ret_i S hr hlocks hw h dX1_lesson_25
  · have h := h.2 hc
    refine lv_iconst (v := (-1)) hx hb dX1_lesson_7 (by decide) ?_
    exact ret_i S hr hlocks hw h dX1_lesson_8
theorem mt_X1_lesson (l : Launch) (D : va_G) (q : ClassId × ClassId × ClassId × ClassId) (ad : Nat → Nat → Nat) (t : Nat × Nat) (aK aV : Nat → Nat) (o0 : Nat) (ho0 : o0 < 5) (σ : St) (post : Int32 → St → Prop) (h : wp_X1_lesson o0 post σ) : cI l D clA LC ad (EC q ad) (EvC D q ad t aK aV) yX1_lesson cX1_lesson 2 (some .int) { frames := 5, cells := 0, slots := 0, locals := 119 } [.ref (ad 2 o0), .ref (ad 16 0)] σ post :=
  ent_i (by decide) (Nat.le_of_ble_eq_true rfl) (fun p e s m below meth c S V hr hlocks hw ls hl => wk_X1_lesson_0 S V hr hlocks o0 ho0 post   σ _ _ ls h  hw (lv_sub hl [0, 1] rfl))
def wp_X1_tryAll_10 (K2 : Int32 → St → Prop) (post : St → Prop) : Nat → Int32 → Int32 → St → Prop
  | 0 => fun _ _ _ => False
  | n + 1 => fun x3 x4 σ => ((7 ≤ x4 → K2 (x3 + 1) σ) ∧ (¬ 7 ≤ x4 → (vp_in x3 4 ∧ wp_X1_lesson x3.toNatClampNeg (fun r2 σ2 => (vp_in ((x3 * 7) + x4) 28 ∧ wp_X1_tryAll_10 K2 post n x3 (x4 + 1) (su σ2 18 0 (((x3 * 7) + x4).toNatClampNeg) r2))) (su σ 6 1 2 x4))))
set_option maxHeartbeats 4000000 in
set_option maxRecDepth 100000 in
theorem wk_X1_tryAll_10 {p : Program} {l : Launch} {e : Env} {s : State} {m : MethodId} {below : List Frame} {meth : Method} {c : Code} {D : va_G} {q : ClassId × ClassId × ClassId × ClassId} {ad : Nat → Nat → Nat} {t : Nat × Nat} {aK aV : Nat → Nat} {args : Array Value} (S : CallFix p m c cX1_tryAll 5 s args GW "OnChin$Evenings") (V : EvC D q ad t aK aV s) (hr : meth.sig.returnType = none) (hlocks : meth.locks = false) (K2 : Int32 → St → Prop) (post : St → Prop) (hK2 : ∀ (x3 : Int32) (σ : St) (H : Heap) (locs : List Loc) (ls : Array Slot), K2 x3 σ → wo D clA LC ad s.heap H locs (EC q ad σ) → lv_has ls 5 [(0, .ref (ad 17 0)), (1, .ref (ad 1 0)), (2, .ref (ad 16 0)), (3, .int x3)] → W p l e { frames := 6, cells := 0, slots := 0, locals := 140 } s m args below meth c H locs 0 0 (MQ below (zQv D clA LC ad (EC q ad) post) args s 0 0 (zA LC ad)) (F0 m 2 ls [])) : ∀ (n : Nat) (x3 : Int32) (x4 : Int32) (σ : St) (H : Heap) (locs : List Loc) (ls : Array Slot), wp_X1_tryAll_10 K2 post n x3 x4 σ → wo D clA LC ad s.heap H locs (EC q ad σ) → lv_has ls 5 [(0, .ref (ad 17 0)), (1, .ref (ad 1 0)), (2, .ref (ad 16 0)), (3, .int x3), (4, .int x4)] → W p l e { frames := 6, cells := 0, slots := 0, locals := 140 } s m args below meth c H locs 0 0 (MQ below (zQv D clA LC ad (EC q ad) post) args s 0 0 (zA LC ad)) (F0 m 10 ls []) := by
  have hx := S.1
  have hb := S.2.1
  intro n
  induction n with
  | zero => intro x3 x4 σ H locs ls h; exact False.elim h
  | succ n ih =>
    intro x3 x4 σ H locs ls h  hw hl
    refine lv_iload hx hb dX1_tryAll_10 (lv_at hl 4 rfl) ?_
    refine lv_bipush (v := 7) hx hb dX1_tryAll_12 (by decide) ?_
    refine lv_icmp_ge (tgt := 53) hx hb dX1_tryAll_14 (by decide) (fun hc => ?_) (fun hc => ?_)
    · have h := h.1 hc
      refine lv_iinc (v := (x3 + 1)) (lv' := [(3, .int (x3 + 1)), (0, .ref (ad 17 0)), (1, .ref (ad 1 0)), (2, .ref (ad 16 0)), (4, .int x4)]) hx hb dX1_tryAll_53 hl (k := 3) rfl rfl (by decide) rfl (fun ls hl => ?_)
      refine lv_goto (tgt := 2) hx hb dX1_tryAll_56 (by decide) ?_
      exact hK2 (x3 + 1) _ _ _ _ h  hw (lv_sub hl [1, 2, 3, 0] rfl)
    · have h := h.2 hc
      refine lv_aload_n hx hb dX1_tryAll_17 rfl (lv_at hl 2 rfl) ?_
      refine gC_16_0 S V hw (Nat.le_of_ble_eq_true rfl) fl_X1_19 dX1_tryAll_18 ?_
      refine lv_iconst (v := 2) hx hb dX1_tryAll_21 (by decide) ?_
      refine lv_iload hx hb dX1_tryAll_22 (lv_at hl 4 rfl) ?_
      refine sC_6 S V hw (Nat.le_of_ble_eq_true rfl) (vp_in_nI (n := 2) (Nat.le_of_ble_eq_true rfl) (Nat.le_of_ble_eq_true rfl)) dX1_tryAll_24 (fun H locs hw => ?_)
      have hw : wo D clA LC ad s.heap H locs (EC q ad (su σ 6 1 2 x4)) := hw
      refine lv_aload_n hx hb dX1_tryAll_25 rfl (lv_at hl 0 rfl) ?_
      refine gC_17_1 S V hw (Nat.le_of_ble_eq_true rfl) fl_X1_15 dX1_tryAll_26 ?_
      refine lv_iload_n hx hb dX1_tryAll_29 rfl (lv_at hl 3 rfl) ?_
      refine lv_bipush (v := 7) hx hb dX1_tryAll_30 (by decide) ?_
      refine lv_imul hx hb dX1_tryAll_32 ?_
      refine lv_iload hx hb dX1_tryAll_33 (lv_at hl 4 rfl) ?_
      refine lv_iadd hx hb dX1_tryAll_35 ?_
      refine lv_aload_n hx hb dX1_tryAll_36 rfl (lv_at hl 1 rfl) ?_
      refine gC_1_0 S V hw (Nat.le_of_ble_eq_true rfl) fl_X1_24 dX1_tryAll_37 ?_
      refine lv_iload_n hx hb dX1_tryAll_40 rfl (lv_at hl 3 rfl) ?_
      have hv1 := h.1
      have h := h.2
      refine aC_5 S V hw (Nat.le_of_ble_eq_true rfl) hv1 dX1_tryAll_41 ?_
      refine lv_aload_n hx hb dX1_tryAll_42 rfl (lv_at hl 2 rfl) ?_
      refine call_Si (As := [.ref (ad 2 x3.toNatClampNeg), .ref (ad 16 0)]) (rest := [.int ((x3 * 7) + x4), .ref (ad 18 0)]) EvC_ok S V hw (mt_X1_lesson l D q ad t aK aV x3.toNatClampNeg (vin_lt hv1 (Nat.le_of_ble_eq_true rfl)) (su σ 6 1 2 x4) _ h) ok_X1_lesson ml_X1_30 ⟨(Nat.le_of_ble_eq_true rfl), (Nat.le_of_ble_eq_true rfl)⟩ ⟨rfl, rfl⟩ rfl hl.1 rfl (Nat.le_of_ble_eq_true rfl) dX1_tryAll_43 (fun r2 σ2 H locs h hw => ?_)
      refine sC_18 S V hw (Nat.le_of_ble_eq_true rfl) h.1 dX1_tryAll_46 (fun H locs hw => ?_)
      have h := h.2
      refine lv_iinc (v := (x4 + 1)) (lv' := [(4, .int (x4 + 1)), (0, .ref (ad 17 0)), (1, .ref (ad 1 0)), (2, .ref (ad 16 0)), (3, .int x3)]) hx hb dX1_tryAll_47 hl (k := 4) rfl rfl (by decide) rfl (fun ls hl => ?_)
      refine lv_goto (tgt := 10) hx hb dX1_tryAll_50 (by decide) ?_
      exact ih x3 (x4 + 1) _ _ _ _ h  hw (lv_sub hl [1, 2, 3, 4, 0] rfl)
def wp_X1_tryAll_2 (post : St → Prop) : Nat → Int32 → St → Prop
  | 0 => fun _ _ => False
  | n + 1 => fun x3 σ => ((4 ≤ x3 → post σ) ∧ (¬ 4 ≤ x3 → ∃ nn, wp_X1_tryAll_10 (fun y0 τ => wp_X1_tryAll_2 post n y0 τ) post nn x3 0 σ))
set_option maxHeartbeats 4000000 in
set_option maxRecDepth 100000 in
theorem wk_X1_tryAll_2 {p : Program} {l : Launch} {e : Env} {s : State} {m : MethodId} {below : List Frame} {meth : Method} {c : Code} {D : va_G} {q : ClassId × ClassId × ClassId × ClassId} {ad : Nat → Nat → Nat} {t : Nat × Nat} {aK aV : Nat → Nat} {args : Array Value} (S : CallFix p m c cX1_tryAll 5 s args GW "OnChin$Evenings") (V : EvC D q ad t aK aV s) (hr : meth.sig.returnType = none) (hlocks : meth.locks = false) (post : St → Prop)  : ∀ (n : Nat) (x3 : Int32) (σ : St) (H : Heap) (locs : List Loc) (ls : Array Slot), wp_X1_tryAll_2 post n x3 σ → wo D clA LC ad s.heap H locs (EC q ad σ) → lv_has ls 5 [(0, .ref (ad 17 0)), (1, .ref (ad 1 0)), (2, .ref (ad 16 0)), (3, .int x3)] → W p l e { frames := 6, cells := 0, slots := 0, locals := 140 } s m args below meth c H locs 0 0 (MQ below (zQv D clA LC ad (EC q ad) post) args s 0 0 (zA LC ad)) (F0 m 2 ls []) := by
  have hx := S.1
  have hb := S.2.1
  intro n
  induction n with
  | zero => intro x3 σ H locs ls h; exact False.elim h
  | succ n ih =>
    intro x3 σ H locs ls h  hw hl
    refine lv_iload_n hx hb dX1_tryAll_2 rfl (lv_at hl 3 rfl) ?_
    refine lv_iconst (v := 4) hx hb dX1_tryAll_3 (by decide) ?_
    refine lv_icmp_ge (tgt := 59) hx hb dX1_tryAll_4 (by decide) (fun hc => ?_) (fun hc => ?_)
    · have h := h.1 hc
      exact ret_v S hr hlocks hw h dX1_tryAll_59
    · have h := h.2 hc
      refine lv_iconst (v := 0) hx hb dX1_tryAll_7 (by decide) ?_
      refine lv_istore (lv' := [(4, .int 0), (0, .ref (ad 17 0)), (1, .ref (ad 1 0)), (2, .ref (ad 16 0)), (3, .int x3)]) hx hb dX1_tryAll_8 hl (by decide) rfl (fun ls hl => ?_)
      obtain ⟨n9, h⟩ := h
      exact wk_X1_tryAll_10 S V hr hlocks   (fun y0 τ => wp_X1_tryAll_2 post n y0 τ) post ih n9 x3 0 _ _ _ _ h  hw (lv_sub hl [1, 2, 3, 4, 0] rfl)
def wp_X1_tryAll (post : St → Prop)  (σ : St) : Prop := ∃ nn, wp_X1_tryAll_2 post nn 0 σ
set_option maxHeartbeats 4000000 in
set_option maxRecDepth 100000 in
theorem wk_X1_tryAll_0 {p : Program} {l : Launch} {e : Env} {s : State} {m : MethodId} {below : List Frame} {meth : Method} {c : Code} {D : va_G} {q : ClassId × ClassId × ClassId × ClassId} {ad : Nat → Nat → Nat} {t : Nat × Nat} {aK aV : Nat → Nat} {args : Array Value} (S : CallFix p m c cX1_tryAll 5 s args GW "OnChin$Evenings") (V : EvC D q ad t aK aV s) (hr : meth.sig.returnType = none) (hlocks : meth.locks = false) (post : St → Prop)  : ∀ (σ : St) (H : Heap) (locs : List Loc) (ls : Array Slot), wp_X1_tryAll post  σ → wo D clA LC ad s.heap H locs (EC q ad σ) → lv_has ls 5 [(0, .ref (ad 17 0)), (1, .ref (ad 1 0)), (2, .ref (ad 16 0))] → W p l e { frames := 6, cells := 0, slots := 0, locals := 140 } s m args below meth c H locs 0 0 (MQ below (zQv D clA LC ad (EC q ad) post) args s 0 0 (zA LC ad)) (F0 m 0 ls []) := by
  have hx := S.1
  have hb := S.2.1
  intro  σ H locs ls h  hw hl
  refine lv_iconst (v := 0) hx hb dX1_tryAll_0 (by decide) ?_
  refine lv_istore_n (lv' := [(3, .int 0), (0, .ref (ad 17 0)), (1, .ref (ad 1 0)), (2, .ref (ad 16 0))]) hx hb dX1_tryAll_1 rfl hl (by decide) rfl (fun ls hl => ?_)
  obtain ⟨n9, h⟩ := h
  exact wk_X1_tryAll_2 S V hr hlocks    post  n9 0 _ _ _ _ h  hw (lv_sub hl [1, 2, 3, 0] rfl)
theorem mt_X1_tryAll (l : Launch) (D : va_G) (q : ClassId × ClassId × ClassId × ClassId) (ad : Nat → Nat → Nat) (t : Nat × Nat) (aK aV : Nat → Nat)  (σ : St) (post : St → Prop) (h : wp_X1_tryAll post σ) : cV l D clA LC ad (EC q ad) (EvC D q ad t aK aV) yX1_tryAll cX1_tryAll 5 none { frames := 6, cells := 0, slots := 0, locals := 140 } [.ref (ad 17 0), .ref (ad 1 0), .ref (ad 16 0)] σ post :=
  ent_v (by decide) (Nat.le_of_ble_eq_true rfl) (fun p e s m below meth c S V hr hlocks hw ls hl => wk_X1_tryAll_0 S V hr hlocks   post   σ _ _ ls h  hw (lv_sub hl [0, 1, 2] rfl))
def wp_X1_thingOf_7 (x0 : Int32) (x1 : Int32) (x2 : Int32) (post : Int32 → St → Prop) : Nat → Int32 → Int32 → St → Prop
  | 0 => fun _ _ _ => False
  | n + 1 => fun x3 x4 σ => ((x1 ≤ x4 → post (x3 - x3 / 4 * 4) σ) ∧ (¬ x1 ≤ x4 → wp_X1_thingOf_7 x0 x1 x2 post n (x3 / 4) (x4 + 1) σ))
set_option maxHeartbeats 4000000 in
set_option maxRecDepth 100000 in
theorem wk_X1_thingOf_7 {p : Program} {l : Launch} {e : Env} {s : State} {m : MethodId} {below : List Frame} {meth : Method} {c : Code} {D : va_G} {q : ClassId × ClassId × ClassId × ClassId} {ad : Nat → Nat → Nat} {t : Nat × Nat} {aK aV : Nat → Nat} {args : Array Value} (S : CallFix p m c cX1_thingOf 5 s args GW "OnChin$Evenings") (V : EvC D q ad t aK aV s) (hr : meth.sig.returnType = (some .int)) (hlocks : meth.locks = false) (x0 : Int32) (x1 : Int32) (x2 : Int32) (post : Int32 → St → Prop)  : ∀ (n : Nat) (x3 : Int32) (x4 : Int32) (σ : St) (H : Heap) (locs : List Loc) (ls : Array Slot), wp_X1_thingOf_7 x0 x1 x2 post n x3 x4 σ → wo D clA LC ad s.heap H locs (EC q ad σ) → lv_has ls 5 [(0, .int x0), (1, .int x1), (2, .int x2), (3, .int x3), (4, .int x4)] → W p l e { frames := 0, cells := 0, slots := 0, locals := 0 } s m args below meth c H locs 0 0 (MQ below (zQi D clA LC ad (EC q ad) post) args s 0 0 (zA LC ad)) (F0 m 7 ls []) := by
  have hx := S.1
  have hb := S.2.1
  intro n
  induction n with
  | zero => intro x3 x4 σ H locs ls h; exact False.elim h
  | succ n ih =>
    intro x3 x4 σ H locs ls h  hw hl
    refine lv_iload hx hb dX1_thingOf_7 (lv_at hl 4 rfl) ?_
    refine lv_iload_n hx hb dX1_thingOf_9 rfl (lv_at hl 1 rfl) ?_
    refine lv_icmp_ge (tgt := 23) hx hb dX1_thingOf_10 (by decide) (fun hc => ?_) (fun hc => ?_)
    · have h := h.1 hc
      refine lv_iload_n hx hb dX1_thingOf_23 rfl (lv_at hl 3 rfl) ?_
      refine lv_iconst (v := 4) hx hb dX1_thingOf_24 (by decide) ?_
      refine lv_irem hx hb dX1_thingOf_25 (by decide) ?_
      exact ret_i S hr hlocks hw h dX1_thingOf_26
    · have h := h.2 hc
      refine lv_iload_n hx hb dX1_thingOf_13 rfl (lv_at hl 3 rfl) ?_
      refine lv_iconst (v := 4) hx hb dX1_thingOf_14 (by decide) ?_
      refine lv_idiv hx hb dX1_thingOf_15 (by decide) ?_
      refine lv_istore_n (lv' := [(3, .int (x3 / 4)), (0, .int x0), (1, .int x1), (2, .int x2), (4, .int x4)]) hx hb dX1_thingOf_16 rfl hl (by decide) rfl (fun ls hl => ?_)
      refine lv_iinc (v := (x4 + 1)) (lv' := [(4, .int (x4 + 1)), (3, .int (x3 / 4)), (0, .int x0), (1, .int x1), (2, .int x2)]) hx hb dX1_thingOf_17 hl (k := 4) rfl rfl (by decide) rfl (fun ls hl => ?_)
      refine lv_goto (tgt := 7) hx hb dX1_thingOf_20 (by decide) ?_
      exact ih (x3 / 4) (x4 + 1) _ _ _ _ h  hw (lv_sub hl [2, 3, 4, 1, 0] rfl)
def wp_X1_thingOf (x0 : Int32) (x1 : Int32) (x2 : Int32) (post : Int32 → St → Prop)  (σ : St) : Prop := ∃ nn, wp_X1_thingOf_7 x0 x1 x2 post nn x0 (x2 + 1) σ
set_option maxHeartbeats 4000000 in
set_option maxRecDepth 100000 in
theorem wk_X1_thingOf_0 {p : Program} {l : Launch} {e : Env} {s : State} {m : MethodId} {below : List Frame} {meth : Method} {c : Code} {D : va_G} {q : ClassId × ClassId × ClassId × ClassId} {ad : Nat → Nat → Nat} {t : Nat × Nat} {aK aV : Nat → Nat} {args : Array Value} (S : CallFix p m c cX1_thingOf 5 s args GW "OnChin$Evenings") (V : EvC D q ad t aK aV s) (hr : meth.sig.returnType = (some .int)) (hlocks : meth.locks = false) (x0 : Int32) (x1 : Int32) (x2 : Int32) (post : Int32 → St → Prop)  : ∀ (σ : St) (H : Heap) (locs : List Loc) (ls : Array Slot), wp_X1_thingOf x0 x1 x2 post  σ → wo D clA LC ad s.heap H locs (EC q ad σ) → lv_has ls 5 [(0, .int x0), (1, .int x1), (2, .int x2)] → W p l e { frames := 0, cells := 0, slots := 0, locals := 0 } s m args below meth c H locs 0 0 (MQ below (zQi D clA LC ad (EC q ad) post) args s 0 0 (zA LC ad)) (F0 m 0 ls []) := by
  have hx := S.1
  have hb := S.2.1
  intro  σ H locs ls h  hw hl
  refine lv_iload_n hx hb dX1_thingOf_0 rfl (lv_at hl 0 rfl) ?_
  refine lv_istore_n (lv' := [(3, .int x0), (0, .int x0), (1, .int x1), (2, .int x2)]) hx hb dX1_thingOf_1 rfl hl (by decide) rfl (fun ls hl => ?_)
  refine lv_iload_n hx hb dX1_thingOf_2 rfl (lv_at hl 3 rfl) ?_
  refine lv_iconst (v := 1) hx hb dX1_thingOf_3 (by decide) ?_
  refine lv_iadd hx hb dX1_thingOf_4 ?_
  refine lv_istore (lv' := [(4, .int (x2 + 1)), (3, .int x0), (0, .int x0), (1, .int x1), (2, .int x2)]) hx hb dX1_thingOf_5 hl (by decide) rfl (fun ls hl => ?_)
  obtain ⟨n9, h⟩ := h
  exact wk_X1_thingOf_7 S V hr hlocks x0 x1 x2   post  n9 x0 (x2 + 1) _ _ _ _ h  hw (lv_sub hl [2, 3, 4, 1, 0] rfl)
theorem mt_X1_thingOf (l : Launch) (D : va_G) (q : ClassId × ClassId × ClassId × ClassId) (ad : Nat → Nat → Nat) (t : Nat × Nat) (aK aV : Nat → Nat) (x0 : Int32) (x1 : Int32) (x2 : Int32) (σ : St) (post : Int32 → St → Prop) (h : wp_X1_thingOf x0 x1 x2 post σ) : cI l D clA LC ad (EC q ad) (EvC D q ad t aK aV) yX1_thingOf cX1_thingOf 5 (some .int) { frames := 0, cells := 0, slots := 0, locals := 0 } [.int x0, .int x1, .int x2] σ post :=
  ent_i (by decide) (Nat.le_of_ble_eq_true rfl) (fun p e s m below meth c S V hr hlocks hw ls hl => wk_X1_thingOf_0 S V hr hlocks x0 x1 x2  post   σ _ _ ls h  hw (lv_sub hl [0, 1, 2] rfl))
def wp_X1_tenthsBehind_6 (x1 : Int32) (x2 : Int32) (x3 : Int32) (post : Int32 → St → Prop) : Nat → Int32 → Int32 → St → Prop
  | 0 => fun _ _ _ => False
  | n + 1 => fun x4 x5 σ => ((x3 ≤ x5 → post x4 σ) ∧ (¬ x3 ≤ x5 → wp_X1_thingOf x2 x3 x5 (fun r1 σ1 => (vp_in ((r1 * 7) + (if (x4 / 10) < 6 then (x4 / 10) else 6)) 28 ∧ ((¬ (σ1 18 0 (((r1 * 7) + (if (x4 / 10) < 6 then (x4 / 10) else 6)).toNatClampNeg)) = (-1) → wp_X1_tenthsBehind_6 x1 x2 x3 post n (if 0 < (x4 - (σ1 18 0 (((r1 * 7) + (if (x4 / 10) < 6 then (x4 / 10) else 6)).toNatClampNeg))) then (x4 - (σ1 18 0 (((r1 * 7) + (if (x4 / 10) < 6 then (x4 / 10) else 6)).toNatClampNeg))) else 0) (x5 + 1) σ1) ∧ ((σ1 18 0 (((r1 * 7) + (if (x4 / 10) < 6 then (x4 / 10) else 6)).toNatClampNeg)) = (-1) → post (-1) σ1)))) σ))
set_option maxHeartbeats 4000000 in
set_option maxRecDepth 100000 in
theorem wk_X1_tenthsBehind_6 {p : Program} {l : Launch} {e : Env} {s : State} {m : MethodId} {below : List Frame} {meth : Method} {c : Code} {D : va_G} {q : ClassId × ClassId × ClassId × ClassId} {ad : Nat → Nat → Nat} {t : Nat × Nat} {aK aV : Nat → Nat} {args : Array Value} (S : CallFix p m c cX1_tenthsBehind 7 s args GW "OnChin$Evenings") (V : EvC D q ad t aK aV s) (hr : meth.sig.returnType = (some .int)) (hlocks : meth.locks = false) (x1 : Int32) (x2 : Int32) (x3 : Int32) (post : Int32 → St → Prop)  : ∀ (n : Nat) (x4 : Int32) (x5 : Int32) (σ : St) (H : Heap) (locs : List Loc) (ls : Array Slot), wp_X1_tenthsBehind_6 x1 x2 x3 post n x4 x5 σ → wo D clA LC ad s.heap H locs (EC q ad σ) → lv_has ls 7 [(0, .ref (ad 17 0)), (1, .int x1), (2, .int x2), (3, .int x3), (4, .int x4), (5, .int x5)] → W p l e { frames := 1, cells := 0, slots := 0, locals := 24 } s m args below meth c H locs 0 0 (MQ below (zQi D clA LC ad (EC q ad) post) args s 0 0 (zA LC ad)) (F0 m 6 ls []) := by
  have hx := S.1
  have hb := S.2.1
  intro n
  induction n with
  | zero => intro x4 x5 σ H locs ls h; exact False.elim h
  | succ n ih =>
    intro x4 x5 σ H locs ls h  hw hl
    refine lv_iload hx hb dX1_tenthsBehind_6 (lv_at hl 5 rfl) ?_
    refine lv_iload_n hx hb dX1_tenthsBehind_8 rfl (lv_at hl 3 rfl) ?_
    refine lv_icmp_ge (tgt := 65) hx hb dX1_tenthsBehind_9 (by decide) (fun hc => ?_) (fun hc => ?_)
    · have h := h.1 hc
      refine lv_iload hx hb dX1_tenthsBehind_65 (lv_at hl 4 rfl) ?_
      exact ret_i S hr hlocks hw h dX1_tenthsBehind_67
    · have h := h.2 hc
      refine lv_aload_n hx hb dX1_tenthsBehind_12 rfl (lv_at hl 0 rfl) ?_
      refine gC_17_1 S V hw (Nat.le_of_ble_eq_true rfl) fl_X1_15 dX1_tenthsBehind_13 ?_
      refine lv_iload_n hx hb dX1_tenthsBehind_16 rfl (lv_at hl 2 rfl) ?_
      refine lv_iload_n hx hb dX1_tenthsBehind_17 rfl (lv_at hl 3 rfl) ?_
      refine lv_iload hx hb dX1_tenthsBehind_18 (lv_at hl 5 rfl) ?_
      refine call_Si (As := [.int x2, .int x3, .int x5]) (rest := [.ref (ad 18 0)]) EvC_ok S V hw (mt_X1_thingOf l D q ad t aK aV x2 x3 x5  σ _ h) ok_X1_thingOf ml_X1_56 ⟨(Nat.le_of_ble_eq_true rfl), (Nat.le_of_ble_eq_true rfl)⟩ ⟨rfl, rfl⟩ rfl hl.1 rfl (Nat.le_of_ble_eq_true rfl) dX1_tenthsBehind_20 (fun r1 σ1 H locs h hw => ?_)
      refine lv_bipush (v := 7) hx hb dX1_tenthsBehind_23 (by decide) ?_
      refine lv_imul hx hb dX1_tenthsBehind_25 ?_
      refine lv_bipush (v := 6) hx hb dX1_tenthsBehind_26 (by decide) ?_
      refine lv_iload hx hb dX1_tenthsBehind_28 (lv_at hl 4 rfl) ?_
      refine lv_bipush (v := 10) hx hb dX1_tenthsBehind_30 (by decide) ?_
      refine lv_idiv hx hb dX1_tenthsBehind_32 (by decide) ?_
      refine x_min S hl.1 ml_X1_59 ws_min wi_J9 wc_min (Nat.le_of_ble_eq_true rfl) (Nat.le_of_ble_eq_true rfl) dX1_tenthsBehind_33 ?_
      refine lv_iadd hx hb dX1_tenthsBehind_36 ?_
      refine aC_18 S V hw (Nat.le_of_ble_eq_true rfl) h.1 (z := (σ1 18 0 (((r1 * 7) + (if (x4 / 10) < 6 then (x4 / 10) else 6)).toNatClampNeg))) rfl dX1_tenthsBehind_37 ?_
      have h := h.2
      refine lv_istore (lv' := [(6, .int (σ1 18 0 (((r1 * 7) + (if (x4 / 10) < 6 then (x4 / 10) else 6)).toNatClampNeg))), (0, .ref (ad 17 0)), (1, .int x1), (2, .int x2), (3, .int x3), (4, .int x4), (5, .int x5)]) hx hb dX1_tenthsBehind_38 hl (by decide) rfl (fun ls hl => ?_)
      refine lv_iload hx hb dX1_tenthsBehind_40 (lv_at hl 0 rfl) ?_
      refine lv_iconst (v := (-1)) hx hb dX1_tenthsBehind_42 (by decide) ?_
      refine lv_icmp_ne (tgt := 48) hx hb dX1_tenthsBehind_43 (by decide) (fun hc => ?_) (fun hc => ?_)
      · have h := h.1 hc
        refine lv_iconst (v := 0) hx hb dX1_tenthsBehind_48 (by decide) ?_
        refine lv_iload hx hb dX1_tenthsBehind_49 (lv_at hl 5 rfl) ?_
        refine lv_iload hx hb dX1_tenthsBehind_51 (lv_at hl 0 rfl) ?_
        refine lv_isub hx hb dX1_tenthsBehind_53 ?_
        refine x_max S hl.1 ml_X1_43 ws_max wi_J9 wc_max (Nat.le_of_ble_eq_true rfl) (Nat.le_of_ble_eq_true rfl) dX1_tenthsBehind_54 ?_
        refine lv_istore (lv' := [(4, .int (if 0 < (x4 - (σ1 18 0 (((r1 * 7) + (if (x4 / 10) < 6 then (x4 / 10) else 6)).toNatClampNeg))) then (x4 - (σ1 18 0 (((r1 * 7) + (if (x4 / 10) < 6 then (x4 / 10) else 6)).toNatClampNeg))) else 0)), (6, .int (σ1 18 0 (((r1 * 7) + (if (x4 / 10) < 6 then (x4 / 10) else 6)).toNatClampNeg))), (0, .ref (ad 17 0)), (1, .int x1), (2, .int x2), (3, .int x3), (5, .int x5)]) hx hb dX1_tenthsBehind_57 hl (by decide) rfl (fun ls hl => ?_)
        refine lv_iinc (v := (x5 + 1)) (lv' := [(5, .int (x5 + 1)), (4, .int (if 0 < (x4 - (σ1 18 0 (((r1 * 7) + (if (x4 / 10) < 6 then (x4 / 10) else 6)).toNatClampNeg))) then (x4 - (σ1 18 0 (((r1 * 7) + (if (x4 / 10) < 6 then (x4 / 10) else 6)).toNatClampNeg))) else 0)), (6, .int (σ1 18 0 (((r1 * 7) + (if (x4 / 10) < 6 then (x4 / 10) else 6)).toNatClampNeg))), (0, .ref (ad 17 0)), (1, .int x1), (2, .int x2), (3, .int x3)]) hx hb dX1_tenthsBehind_59 hl (k := 6) rfl rfl (by decide) rfl (fun ls hl => ?_)
        refine lv_goto (tgt := 6) hx hb dX1_tenthsBehind_62 (by decide) ?_
        exact ih (if 0 < (x4 - (σ1 18 0 (((r1 * 7) + (if (x4 / 10) < 6 then (x4 / 10) else 6)).toNatClampNeg))) then (x4 - (σ1 18 0 (((r1 * 7) + (if (x4 / 10) < 6 then (x4 / 10) else 6)).toNatClampNeg))) else 0) (x5 + 1) _ _ _ _ h  hw (lv_sub hl [3, 4, 5, 6, 1, 0] rfl)
      · have h := h.2 hc
        refine lv_iconst (v := (-1)) hx hb dX1_tenthsBehind_46 (by decide) ?_
        exact ret_i S hr hlocks hw h dX1_tenthsBehind_47
def wp_X1_tenthsBehind (x1 : Int32) (x2 : Int32) (x3 : Int32) (post : Int32 → St → Prop)  (σ : St) : Prop := ∃ nn, wp_X1_tenthsBehind_6 x1 x2 x3 post nn x1 0 σ
set_option maxHeartbeats 4000000 in
set_option maxRecDepth 100000 in
theorem wk_X1_tenthsBehind_0 {p : Program} {l : Launch} {e : Env} {s : State} {m : MethodId} {below : List Frame} {meth : Method} {c : Code} {D : va_G} {q : ClassId × ClassId × ClassId × ClassId} {ad : Nat → Nat → Nat} {t : Nat × Nat} {aK aV : Nat → Nat} {args : Array Value} (S : CallFix p m c cX1_tenthsBehind 7 s args GW "OnChin$Evenings") (V : EvC D q ad t aK aV s) (hr : meth.sig.returnType = (some .int)) (hlocks : meth.locks = false) (x1 : Int32) (x2 : Int32) (x3 : Int32) (post : Int32 → St → Prop)  : ∀ (σ : St) (H : Heap) (locs : List Loc) (ls : Array Slot), wp_X1_tenthsBehind x1 x2 x3 post  σ → wo D clA LC ad s.heap H locs (EC q ad σ) → lv_has ls 7 [(0, .ref (ad 17 0)), (1, .int x1), (2, .int x2), (3, .int x3)] → W p l e { frames := 1, cells := 0, slots := 0, locals := 24 } s m args below meth c H locs 0 0 (MQ below (zQi D clA LC ad (EC q ad) post) args s 0 0 (zA LC ad)) (F0 m 0 ls []) := by
  have hx := S.1
  have hb := S.2.1
  intro  σ H locs ls h  hw hl
  refine lv_iload_n hx hb dX1_tenthsBehind_0 rfl (lv_at hl 1 rfl) ?_
  refine lv_istore (lv' := [(4, .int x1), (0, .ref (ad 17 0)), (1, .int x1), (2, .int x2), (3, .int x3)]) hx hb dX1_tenthsBehind_1 hl (by decide) rfl (fun ls hl => ?_)
  refine lv_iconst (v := 0) hx hb dX1_tenthsBehind_3 (by decide) ?_
  refine lv_istore (lv' := [(5, .int 0), (4, .int x1), (0, .ref (ad 17 0)), (1, .int x1), (2, .int x2), (3, .int x3)]) hx hb dX1_tenthsBehind_4 hl (by decide) rfl (fun ls hl => ?_)
  obtain ⟨n9, h⟩ := h
  exact wk_X1_tenthsBehind_6 S V hr hlocks x1 x2 x3   post  n9 x1 0 _ _ _ _ h  hw (lv_sub hl [2, 3, 4, 5, 1, 0] rfl)
theorem mt_X1_tenthsBehind (l : Launch) (D : va_G) (q : ClassId × ClassId × ClassId × ClassId) (ad : Nat → Nat → Nat) (t : Nat × Nat) (aK aV : Nat → Nat) (x1 : Int32) (x2 : Int32) (x3 : Int32) (σ : St) (post : Int32 → St → Prop) (h : wp_X1_tenthsBehind x1 x2 x3 post σ) : cI l D clA LC ad (EC q ad) (EvC D q ad t aK aV) yX1_tenthsBehind cX1_tenthsBehind 7 (some .int) { frames := 1, cells := 0, slots := 0, locals := 24 } [.ref (ad 17 0), .int x1, .int x2, .int x3] σ post :=
  ent_i (by decide) (Nat.le_of_ble_eq_true rfl) (fun p e s m below meth c S V hr hlocks hw ls hl => wk_X1_tenthsBehind_0 S V hr hlocks x1 x2 x3  post   σ _ _ ls h  hw (lv_sub hl [0, 1, 2, 3] rfl))
def wp_X1_firstBest_58 (x1 : Int32) (x2 : Int32) (K12 : Int32 → Int32 → Int32 → St → Prop) (post : Int32 → St → Prop) (x3 : Int32) (x4 : Int32) (x5 : Int32) (σ : St) : Prop := K12 x3 x4 (x5 + 1) σ
set_option maxHeartbeats 4000000 in
set_option maxRecDepth 100000 in
theorem wk_X1_firstBest_58 {p : Program} {l : Launch} {e : Env} {s : State} {m : MethodId} {below : List Frame} {meth : Method} {c : Code} {D : va_G} {q : ClassId × ClassId × ClassId × ClassId} {ad : Nat → Nat → Nat} {t : Nat × Nat} {aK aV : Nat → Nat} {args : Array Value} (S : CallFix p m c cX1_firstBest 7 s args GW "OnChin$Evenings") (V : EvC D q ad t aK aV s) (hr : meth.sig.returnType = (some .int)) (hlocks : meth.locks = false) (x1 : Int32) (x2 : Int32) (K12 : Int32 → Int32 → Int32 → St → Prop) (post : Int32 → St → Prop) (hK12 : ∀ (x3 : Int32) (x4 : Int32) (x5 : Int32) (σ : St) (H : Heap) (locs : List Loc) (ls : Array Slot), K12 x3 x4 x5 σ → wo D clA LC ad s.heap H locs (EC q ad σ) → lv_has ls 7 [(0, .ref (ad 17 0)), (1, .int x1), (2, .int x2), (3, .int x3), (4, .int x4), (5, .int x5)] → W p l e { frames := 2, cells := 0, slots := 0, locals := 50 } s m args below meth c H locs 0 0 (MQ below (zQi D clA LC ad (EC q ad) post) args s 0 0 (zA LC ad)) (F0 m 12 ls [])) : ∀ (x3 : Int32) (x4 : Int32) (x5 : Int32) (σ : St) (H : Heap) (locs : List Loc) (ls : Array Slot), wp_X1_firstBest_58 x1 x2 K12 post x3 x4 x5 σ → wo D clA LC ad s.heap H locs (EC q ad σ) → lv_has ls 7 [(0, .ref (ad 17 0)), (1, .int x1), (2, .int x2), (3, .int x3), (4, .int x4), (5, .int x5)] → W p l e { frames := 2, cells := 0, slots := 0, locals := 50 } s m args below meth c H locs 0 0 (MQ below (zQi D clA LC ad (EC q ad) post) args s 0 0 (zA LC ad)) (F0 m 58 ls []) := by
  have hx := S.1
  have hb := S.2.1
  intro x3 x4 x5 σ H locs ls h  hw hl
  refine lv_iinc (v := (x5 + 1)) (lv' := [(5, .int (x5 + 1)), (0, .ref (ad 17 0)), (1, .int x1), (2, .int x2), (3, .int x3), (4, .int x4)]) hx hb dX1_firstBest_58 hl (k := 5) rfl rfl (by decide) rfl (fun ls hl => ?_)
  refine lv_goto (tgt := 12) hx hb dX1_firstBest_61 (by decide) ?_
  exact hK12 x3 x4 (x5 + 1) _ _ _ _ h  hw (lv_sub hl [1, 2, 3, 4, 5, 0] rfl)
def wp_X1_firstBest_49 (x1 : Int32) (x2 : Int32) (K12 : Int32 → Int32 → Int32 → St → Prop) (post : Int32 → St → Prop) (x4 : Int32) (x5 : Int32) (x6 : Int32) (σ : St) : Prop := wp_X1_firstBest_58 x1 x2 K12 post x5 x4 x5 (su σ 17 0 0 x6)
set_option maxHeartbeats 4000000 in
set_option maxRecDepth 100000 in
theorem wk_X1_firstBest_49 {p : Program} {l : Launch} {e : Env} {s : State} {m : MethodId} {below : List Frame} {meth : Method} {c : Code} {D : va_G} {q : ClassId × ClassId × ClassId × ClassId} {ad : Nat → Nat → Nat} {t : Nat × Nat} {aK aV : Nat → Nat} {args : Array Value} (S : CallFix p m c cX1_firstBest 7 s args GW "OnChin$Evenings") (V : EvC D q ad t aK aV s) (hr : meth.sig.returnType = (some .int)) (hlocks : meth.locks = false) (x1 : Int32) (x2 : Int32) (K12 : Int32 → Int32 → Int32 → St → Prop) (post : Int32 → St → Prop) (hK12 : ∀ (x3 : Int32) (x4 : Int32) (x5 : Int32) (σ : St) (H : Heap) (locs : List Loc) (ls : Array Slot), K12 x3 x4 x5 σ → wo D clA LC ad s.heap H locs (EC q ad σ) → lv_has ls 7 [(0, .ref (ad 17 0)), (1, .int x1), (2, .int x2), (3, .int x3), (4, .int x4), (5, .int x5)] → W p l e { frames := 2, cells := 0, slots := 0, locals := 50 } s m args below meth c H locs 0 0 (MQ below (zQi D clA LC ad (EC q ad) post) args s 0 0 (zA LC ad)) (F0 m 12 ls [])) : ∀ (x4 : Int32) (x5 : Int32) (x6 : Int32) (σ : St) (H : Heap) (locs : List Loc) (ls : Array Slot), wp_X1_firstBest_49 x1 x2 K12 post x4 x5 x6 σ → wo D clA LC ad s.heap H locs (EC q ad σ) → lv_has ls 7 [(0, .ref (ad 17 0)), (1, .int x1), (2, .int x2), (4, .int x4), (5, .int x5), (6, .int x6)] → W p l e { frames := 2, cells := 0, slots := 0, locals := 50 } s m args below meth c H locs 0 0 (MQ below (zQi D clA LC ad (EC q ad) post) args s 0 0 (zA LC ad)) (F0 m 49 ls []) := by
  have hx := S.1
  have hb := S.2.1
  intro x4 x5 x6 σ H locs ls h  hw hl
  have h : wp_X1_firstBest_58 x1 x2 K12 post x5 x4 x5 (su σ 17 0 0 x6) := h
  refine lv_iload hx hb dX1_firstBest_49 (lv_at hl 4 rfl) ?_
  refine lv_istore_n (lv' := [(3, .int x5), (0, .ref (ad 17 0)), (1, .int x1), (2, .int x2), (4, .int x4), (5, .int x5), (6, .int x6)]) hx hb dX1_firstBest_51 rfl hl (by decide) rfl (fun ls hl => ?_)
  refine lv_aload_n hx hb dX1_firstBest_52 rfl (lv_at hl 1 rfl) ?_
  refine lv_iload hx hb dX1_firstBest_53 (lv_at hl 6 rfl) ?_
  refine pC_17_0 S V hw (Nat.le_of_ble_eq_true rfl) fl_X1_9 dX1_firstBest_55 (fun H locs hw => ?_)
  exact wk_X1_firstBest_58 S V hr hlocks x1 x2  K12 post hK12 x5 x4 x5 _ _ _ _ h  hw (lv_sub hl [1, 2, 3, 0, 4, 5] rfl)
def wp_X1_firstBest_12 (x1 : Int32) (x2 : Int32) (post : Int32 → St → Prop) : Nat → Int32 → Int32 → Int32 → St → Prop
  | 0 => fun _ _ _ _ => False
  | n + 1 => fun x3 x4 x5 σ => ((x4 ≤ x5 → post x3 σ) ∧ (¬ x4 ≤ x5 → wp_X1_tenthsBehind x1 x5 x2 (fun r1 σ1 => ((r1 = (-1) → wp_X1_firstBest_58 x1 x2 (fun y0 y1 y2 τ => wp_X1_firstBest_12 x1 x2 post n y0 y1 y2 τ) post x3 x4 x5 σ1) ∧ (¬ r1 = (-1) → ((x3 = (-1) → wp_X1_firstBest_49 x1 x2 (fun y0 y1 y2 τ => wp_X1_firstBest_12 x1 x2 post n y0 y1 y2 τ) post x4 x5 r1 σ1) ∧ (¬ x3 = (-1) → (((σ1 17 0 0) ≤ r1 → wp_X1_firstBest_58 x1 x2 (fun y0 y1 y2 τ => wp_X1_firstBest_12 x1 x2 post n y0 y1 y2 τ) post x3 x4 x5 σ1) ∧ (¬ (σ1 17 0 0) ≤ r1 → wp_X1_firstBest_49 x1 x2 (fun y0 y1 y2 τ => wp_X1_firstBest_12 x1 x2 post n y0 y1 y2 τ) post x4 x5 r1 σ1))))))) σ))
set_option maxHeartbeats 4000000 in
set_option maxRecDepth 100000 in
theorem wk_X1_firstBest_12 {p : Program} {l : Launch} {e : Env} {s : State} {m : MethodId} {below : List Frame} {meth : Method} {c : Code} {D : va_G} {q : ClassId × ClassId × ClassId × ClassId} {ad : Nat → Nat → Nat} {t : Nat × Nat} {aK aV : Nat → Nat} {args : Array Value} (S : CallFix p m c cX1_firstBest 7 s args GW "OnChin$Evenings") (V : EvC D q ad t aK aV s) (hr : meth.sig.returnType = (some .int)) (hlocks : meth.locks = false) (x1 : Int32) (x2 : Int32) (post : Int32 → St → Prop)  : ∀ (n : Nat) (x3 : Int32) (x4 : Int32) (x5 : Int32) (σ : St) (H : Heap) (locs : List Loc) (ls : Array Slot), wp_X1_firstBest_12 x1 x2 post n x3 x4 x5 σ → wo D clA LC ad s.heap H locs (EC q ad σ) → lv_has ls 7 [(0, .ref (ad 17 0)), (1, .int x1), (2, .int x2), (3, .int x3), (4, .int x4), (5, .int x5)] → W p l e { frames := 2, cells := 0, slots := 0, locals := 50 } s m args below meth c H locs 0 0 (MQ below (zQi D clA LC ad (EC q ad) post) args s 0 0 (zA LC ad)) (F0 m 12 ls []) := by
  have hx := S.1
  have hb := S.2.1
  intro n
  induction n with
  | zero => intro x3 x4 x5 σ H locs ls h; exact False.elim h
  | succ n ih =>
    intro x3 x4 x5 σ H locs ls h  hw hl
    refine lv_iload hx hb dX1_firstBest_12 (lv_at hl 5 rfl) ?_
    refine lv_iload hx hb dX1_firstBest_14 (lv_at hl 4 rfl) ?_
    refine lv_icmp_ge (tgt := 64) hx hb dX1_firstBest_16 (by decide) (fun hc => ?_) (fun hc => ?_)
    · have h := h.1 hc
      refine lv_iload_n hx hb dX1_firstBest_64 rfl (lv_at hl 3 rfl) ?_
      exact ret_i S hr hlocks hw h dX1_firstBest_65
    · have h := h.2 hc
      refine lv_aload_n hx hb dX1_firstBest_19 rfl (lv_at hl 0 rfl) ?_
      refine lv_iload_n hx hb dX1_firstBest_20 rfl (lv_at hl 1 rfl) ?_
      refine lv_iload hx hb dX1_firstBest_21 (lv_at hl 5 rfl) ?_
      refine lv_iload_n hx hb dX1_firstBest_23 rfl (lv_at hl 2 rfl) ?_
      refine call_Vi (As := [.int x1, .int x5, .int x2]) (rest := []) EvC_ok S V hw (mt_X1_tenthsBehind l D q ad t aK aV x1 x5 x2  σ _ h) ok_X1_tenthsBehind ml_X1_52 (rC_17 S V hw (Nat.le_of_ble_eq_true rfl)) ⟨(Nat.le_of_ble_eq_true rfl), (Nat.le_of_ble_eq_true rfl)⟩ ⟨rfl, rfl⟩ rfl hl.1 rfl (Nat.le_of_ble_eq_true rfl) dX1_firstBest_24 (fun r1 σ1 H locs h hw => ?_)
      refine lv_istore (lv' := [(6, .int r1), (0, .ref (ad 17 0)), (1, .int x1), (2, .int x2), (3, .int x3), (4, .int x4), (5, .int x5)]) hx hb dX1_firstBest_27 hl (by decide) rfl (fun ls hl => ?_)
      refine lv_iload hx hb dX1_firstBest_29 (lv_at hl 0 rfl) ?_
      refine lv_iconst (v := (-1)) hx hb dX1_firstBest_31 (by decide) ?_
      refine lv_icmp_eq (tgt := 58) hx hb dX1_firstBest_32 (by decide) (fun hc => ?_) (fun hc => ?_)
      · have h := h.1 hc
        exact wk_X1_firstBest_58 S V hr hlocks x1 x2  (fun y0 y1 y2 τ => wp_X1_firstBest_12 x1 x2 post n y0 y1 y2 τ) post ih x3 x4 x5 _ _ _ _ h  hw (lv_sub hl [1, 2, 3, 4, 5, 6] rfl)
      · have h := h.2 hc
        refine lv_iload_n hx hb dX1_firstBest_35 rfl (lv_at hl 4 rfl) ?_
        refine lv_iconst (v := (-1)) hx hb dX1_firstBest_36 (by decide) ?_
        refine lv_icmp_eq (tgt := 49) hx hb dX1_firstBest_37 (by decide) (fun hc => ?_) (fun hc => ?_)
        · have h := h.1 hc
          exact wk_X1_firstBest_49 S V hr hlocks x1 x2  (fun y0 y1 y2 τ => wp_X1_firstBest_12 x1 x2 post n y0 y1 y2 τ) post ih x4 x5 r1 _ _ _ _ h  hw (lv_sub hl [1, 2, 3, 5, 6, 0] rfl)
        · have h := h.2 hc
          refine lv_iload hx hb dX1_firstBest_40 (lv_at hl 0 rfl) ?_
          refine lv_aload_n hx hb dX1_firstBest_42 rfl (lv_at hl 1 rfl) ?_
          refine gC_17_0 S V hw (Nat.le_of_ble_eq_true rfl) fl_X1_9 rfl dX1_firstBest_43 ?_
          refine lv_icmp_ge (tgt := 58) hx hb dX1_firstBest_46 (by decide) (fun hc => ?_) (fun hc => ?_)
          · have h := h.1 hc
            exact wk_X1_firstBest_58 S V hr hlocks x1 x2  (fun y0 y1 y2 τ => wp_X1_firstBest_12 x1 x2 post n y0 y1 y2 τ) post ih x3 x4 x5 _ _ _ _ h  hw (lv_sub hl [1, 2, 3, 4, 5, 6] rfl)
          · have h := h.2 hc
            exact wk_X1_firstBest_49 S V hr hlocks x1 x2  (fun y0 y1 y2 τ => wp_X1_firstBest_12 x1 x2 post n y0 y1 y2 τ) post ih x4 x5 r1 _ _ _ _ h  hw (lv_sub hl [1, 2, 3, 5, 6, 0] rfl)
def wp_X1_firstBest (x1 : Int32) (x2 : Int32) (post : Int32 → St → Prop)  (σ : St) : Prop := wp_X8_power 4 x2 (fun r1 σ1 => ∃ nn, wp_X1_firstBest_12 x1 x2 post nn (-1) r1 0 σ1) σ
set_option maxHeartbeats 4000000 in
set_option maxRecDepth 100000 in
theorem wk_X1_firstBest_0 {p : Program} {l : Launch} {e : Env} {s : State} {m : MethodId} {below : List Frame} {meth : Method} {c : Code} {D : va_G} {q : ClassId × ClassId × ClassId × ClassId} {ad : Nat → Nat → Nat} {t : Nat × Nat} {aK aV : Nat → Nat} {args : Array Value} (S : CallFix p m c cX1_firstBest 7 s args GW "OnChin$Evenings") (V : EvC D q ad t aK aV s) (hr : meth.sig.returnType = (some .int)) (hlocks : meth.locks = false) (x1 : Int32) (x2 : Int32) (post : Int32 → St → Prop)  : ∀ (σ : St) (H : Heap) (locs : List Loc) (ls : Array Slot), wp_X1_firstBest x1 x2 post  σ → wo D clA LC ad s.heap H locs (EC q ad σ) → lv_has ls 7 [(0, .ref (ad 17 0)), (1, .int x1), (2, .int x2)] → W p l e { frames := 2, cells := 0, slots := 0, locals := 50 } s m args below meth c H locs 0 0 (MQ below (zQi D clA LC ad (EC q ad) post) args s 0 0 (zA LC ad)) (F0 m 0 ls []) := by
  have hx := S.1
  have hb := S.2.1
  intro  σ H locs ls h  hw hl
  have h : wp_X8_power 4 x2 (fun r1 σ1 => ∃ nn, wp_X1_firstBest_12 x1 x2 post nn (-1) r1 0 σ1) σ := h
  refine lv_iconst (v := (-1)) hx hb dX1_firstBest_0 (by decide) ?_
  refine lv_istore_n (lv' := [(3, .int (-1)), (0, .ref (ad 17 0)), (1, .int x1), (2, .int x2)]) hx hb dX1_firstBest_1 rfl hl (by decide) rfl (fun ls hl => ?_)
  refine lv_iconst (v := 4) hx hb dX1_firstBest_2 (by decide) ?_
  refine lv_iload_n hx hb dX1_firstBest_3 rfl (lv_at hl 3 rfl) ?_
  refine call_SNi (As := [.int 4, .int x2]) (rest := []) EvC_ok S V hw (mt_X8_power l D q ad t aK aV 4 x2  σ _ h) ok_X8_power (V.2.2.1 _ (List.mem_of_getElem? (i := 15) rfl)) ⟨(Nat.le_of_ble_eq_true rfl), (Nat.le_of_ble_eq_true rfl)⟩ ⟨rfl, rfl⟩ rfl hl.1 rfl (Nat.le_of_ble_eq_true rfl) dX1_firstBest_4 (fun r1 σ1 H locs h hw => ?_)
  refine lv_istore (lv' := [(4, .int r1), (3, .int (-1)), (0, .ref (ad 17 0)), (1, .int x1), (2, .int x2)]) hx hb dX1_firstBest_7 hl (by decide) rfl (fun ls hl => ?_)
  refine lv_iconst (v := 0) hx hb dX1_firstBest_9 (by decide) ?_
  refine lv_istore (lv' := [(5, .int 0), (4, .int r1), (3, .int (-1)), (0, .ref (ad 17 0)), (1, .int x1), (2, .int x2)]) hx hb dX1_firstBest_10 hl (by decide) rfl (fun ls hl => ?_)
  obtain ⟨n9, h⟩ := h
  exact wk_X1_firstBest_12 S V hr hlocks x1 x2   post  n9 (-1) r1 0 _ _ _ _ h  hw (lv_sub hl [3, 4, 5, 2, 1, 0] rfl)
theorem mt_X1_firstBest (l : Launch) (D : va_G) (q : ClassId × ClassId × ClassId × ClassId) (ad : Nat → Nat → Nat) (t : Nat × Nat) (aK aV : Nat → Nat) (x1 : Int32) (x2 : Int32) (σ : St) (post : Int32 → St → Prop) (h : wp_X1_firstBest x1 x2 post σ) : cI l D clA LC ad (EC q ad) (EvC D q ad t aK aV) yX1_firstBest cX1_firstBest 7 (some .int) { frames := 2, cells := 0, slots := 0, locals := 50 } [.ref (ad 17 0), .int x1, .int x2] σ post :=
  ent_i (by decide) (Nat.le_of_ble_eq_true rfl) (fun p e s m below meth c S V hr hlocks hw ls hl => wk_X1_firstBest_0 S V hr hlocks x1 x2  post   σ _ _ ls h  hw (lv_sub hl [0, 1, 2] rfl))
def wp_X2_append_39 (x1 : Int32) (x2 : Int32) (post : St → Prop)  (σ : St) : Prop := post σ
set_option maxHeartbeats 4000000 in
set_option maxRecDepth 100000 in
theorem wk_X2_append_39 {p : Program} {l : Launch} {e : Env} {s : State} {m : MethodId} {below : List Frame} {meth : Method} {c : Code} {D : va_G} {q : ClassId × ClassId × ClassId × ClassId} {ad : Nat → Nat → Nat} {t : Nat × Nat} {aK aV : Nat → Nat} {args : Array Value} (S : CallFix p m c cX2_append 3 s args GW "OnChin$Film") (V : EvC D q ad t aK aV s) (hr : meth.sig.returnType = none) (hlocks : meth.locks = false) (x1 : Int32) (x2 : Int32) (post : St → Prop)  : ∀ (σ : St) (H : Heap) (locs : List Loc) (ls : Array Slot), wp_X2_append_39 x1 x2 post  σ → wo D clA LC ad s.heap H locs (EC q ad σ) → lv_has ls 3 [(0, .ref (ad 19 0)), (1, .int x1), (2, .int x2)] → W p l e { frames := 0, cells := 0, slots := 0, locals := 0 } s m args below meth c H locs 0 0 (MQ below (zQv D clA LC ad (EC q ad) post) args s 0 0 (zA LC ad)) (F0 m 39 ls []) := by
  have hx := S.1
  have hb := S.2.1
  intro  σ H locs ls h  hw hl
  exact ret_v S hr hlocks hw h dX2_append_39
def wp_X2_append (x1 : Int32) (x2 : Int32) (post : St → Prop)  (σ : St) : Prop := ((24 ≤ (σ 19 0 0) → wp_X2_append_39 x1 x2 post  σ) ∧ (¬ 24 ≤ (σ 19 0 0) → (vp_in (σ 19 0 0) 25 ∧ (vp_in (σ 19 0 0) 24 ∧ wp_X2_append_39 x1 x2 post  (su (su (su σ 20 0 ((σ 19 0 0).toNatClampNeg) x1) 21 0 ((σ 19 0 0).toNatClampNeg) x2) 19 0 0 ((σ 19 0 0) + 1))))))
set_option maxHeartbeats 4000000 in
set_option maxRecDepth 100000 in
theorem wk_X2_append_0 {p : Program} {l : Launch} {e : Env} {s : State} {m : MethodId} {below : List Frame} {meth : Method} {c : Code} {D : va_G} {q : ClassId × ClassId × ClassId × ClassId} {ad : Nat → Nat → Nat} {t : Nat × Nat} {aK aV : Nat → Nat} {args : Array Value} (S : CallFix p m c cX2_append 3 s args GW "OnChin$Film") (V : EvC D q ad t aK aV s) (hr : meth.sig.returnType = none) (hlocks : meth.locks = false) (x1 : Int32) (x2 : Int32) (post : St → Prop)  : ∀ (σ : St) (H : Heap) (locs : List Loc) (ls : Array Slot), wp_X2_append x1 x2 post  σ → wo D clA LC ad s.heap H locs (EC q ad σ) → lv_has ls 3 [(0, .ref (ad 19 0)), (1, .int x1), (2, .int x2)] → W p l e { frames := 0, cells := 0, slots := 0, locals := 0 } s m args below meth c H locs 0 0 (MQ below (zQv D clA LC ad (EC q ad) post) args s 0 0 (zA LC ad)) (F0 m 0 ls []) := by
  have hx := S.1
  have hb := S.2.1
  intro  σ H locs ls h  hw hl
  refine lv_aload_n hx hb dX2_append_0 rfl (lv_at hl 0 rfl) ?_
  refine gC_19_0 S V hw (Nat.le_of_ble_eq_true rfl) fl_X2_9 rfl dX2_append_1 ?_
  refine lv_bipush (v := 24) hx hb dX2_append_4 (by decide) ?_
  refine lv_icmp_ge (tgt := 39) hx hb dX2_append_6 (by decide) (fun hc => ?_) (fun hc => ?_)
  · have h := h.1 hc
    exact wk_X2_append_39 S V hr hlocks x1 x2   post   _ _ _ _ h  hw (lv_sub hl [0, 1, 2] rfl)
  · have h := h.2 hc
    refine lv_aload_n hx hb dX2_append_9 rfl (lv_at hl 0 rfl) ?_
    refine gC_19_7 S V hw (Nat.le_of_ble_eq_true rfl) fl_X2_33 dX2_append_10 ?_
    refine lv_aload_n hx hb dX2_append_13 rfl (lv_at hl 0 rfl) ?_
    refine gC_19_0 S V hw (Nat.le_of_ble_eq_true rfl) fl_X2_9 rfl dX2_append_14 ?_
    refine lv_iload_n hx hb dX2_append_17 rfl (lv_at hl 1 rfl) ?_
    refine sC_20 S V hw (Nat.le_of_ble_eq_true rfl) h.1 dX2_append_18 (fun H locs hw => ?_)
    have h := h.2
    refine lv_aload_n hx hb dX2_append_19 rfl (lv_at hl 0 rfl) ?_
    refine gC_19_8 S V hw (Nat.le_of_ble_eq_true rfl) fl_X2_37 dX2_append_20 ?_
    refine lv_aload_n hx hb dX2_append_23 rfl (lv_at hl 0 rfl) ?_
    refine gC_19_0 S V hw (Nat.le_of_ble_eq_true rfl) fl_X2_9 (su_nc rfl) dX2_append_24 ?_
    refine lv_iload_n hx hb dX2_append_27 rfl (lv_at hl 2 rfl) ?_
    refine sC_21 S V hw (Nat.le_of_ble_eq_true rfl) h.1 dX2_append_28 (fun H locs hw => ?_)
    have h := h.2
    refine lv_aload_n hx hb dX2_append_29 rfl (lv_at hl 0 rfl) ?_
    refine lv_dup hx hb dX2_append_30 rfl ?_
    refine gC_19_0 S V hw (Nat.le_of_ble_eq_true rfl) fl_X2_9 ((su_nc rfl).trans (su_nc rfl)) dX2_append_31 ?_
    refine lv_iconst (v := 1) hx hb dX2_append_34 (by decide) ?_
    refine lv_iadd hx hb dX2_append_35 ?_
    refine pC_19_0 S V hw (Nat.le_of_ble_eq_true rfl) fl_X2_9 dX2_append_36 (fun H locs hw => ?_)
    exact wk_X2_append_39 S V hr hlocks x1 x2   post   _ _ _ _ h  hw (lv_sub hl [0, 1, 2] rfl)
theorem mt_X2_append (l : Launch) (D : va_G) (q : ClassId × ClassId × ClassId × ClassId) (ad : Nat → Nat → Nat) (t : Nat × Nat) (aK aV : Nat → Nat) (x1 : Int32) (x2 : Int32) (σ : St) (post : St → Prop) (h : wp_X2_append x1 x2 post σ) : cV l D clA LC ad (EC q ad) (EvC D q ad t aK aV) yX2_append cX2_append 3 none { frames := 0, cells := 0, slots := 0, locals := 0 } [.ref (ad 19 0), .int x1, .int x2] σ post :=
  ent_v (by decide) (Nat.le_of_ble_eq_true rfl) (fun p e s m below meth c S V hr hlocks hw ls hl => wk_X2_append_0 S V hr hlocks x1 x2  post   σ _ _ ls h  hw (lv_sub hl [0, 1, 2] rfl))
def wp_X2_moveIn (x1 : Int32) (post : Int32 → St → Prop)  (σ : St) : Prop := (vp_in (if 0 < (x1 - (σ 6 2 2)) then (x1 - (σ 6 2 2)) else 0) 25 ∧ (vp_in (if 0 < ((x1 - (σ 6 2 2)) - 1) then ((x1 - (σ 6 2 2)) - 1) else 0) 25 ∧ wp_X8_wish 2 (σ 20 0 ((if 0 < (x1 - (σ 6 2 2)) then (x1 - (σ 6 2 2)) else 0).toNatClampNeg)) (σ 20 0 ((if 0 < ((x1 - (σ 6 2 2)) - 1) then ((x1 - (σ 6 2 2)) - 1) else 0).toNatClampNeg)) (fun r1 σ1 => post r1 σ1) σ))
set_option maxHeartbeats 4000000 in
set_option maxRecDepth 100000 in
theorem wk_X2_moveIn_0 {p : Program} {l : Launch} {e : Env} {s : State} {m : MethodId} {below : List Frame} {meth : Method} {c : Code} {D : va_G} {q : ClassId × ClassId × ClassId × ClassId} {ad : Nat → Nat → Nat} {t : Nat × Nat} {aK aV : Nat → Nat} {args : Array Value} (S : CallFix p m c cX2_moveIn 3 s args GW "OnChin$Film") (V : EvC D q ad t aK aV s) (hr : meth.sig.returnType = (some .int)) (hlocks : meth.locks = false) (x1 : Int32) (post : Int32 → St → Prop)  : ∀ (σ : St) (H : Heap) (locs : List Loc) (ls : Array Slot), wp_X2_moveIn x1 post  σ → wo D clA LC ad s.heap H locs (EC q ad σ) → lv_has ls 3 [(0, .ref (ad 19 0)), (1, .int x1)] → W p l e { frames := 2, cells := 0, slots := 0, locals := 43 } s m args below meth c H locs 0 0 (MQ below (zQi D clA LC ad (EC q ad) post) args s 0 0 (zA LC ad)) (F0 m 0 ls []) := by
  have hx := S.1
  have hb := S.2.1
  intro  σ H locs ls h  hw hl
  refine lv_iload_n hx hb dX2_moveIn_0 rfl (lv_at hl 1 rfl) ?_
  refine lv_aload_n hx hb dX2_moveIn_1 rfl (lv_at hl 0 rfl) ?_
  refine gC_19_9 S V hw (Nat.le_of_ble_eq_true rfl) fl_X2_40 dX2_moveIn_2 ?_
  refine lv_iconst (v := 2) hx hb dX2_moveIn_5 (by decide) ?_
  refine aC_6 S V hw (Nat.le_of_ble_eq_true rfl) (vp_in_nI (n := 2) (Nat.le_of_ble_eq_true rfl) (Nat.le_of_ble_eq_true rfl)) (z := (σ 6 2 2)) rfl dX2_moveIn_6 ?_
  refine lv_isub hx hb dX2_moveIn_7 ?_
  refine lv_istore_n (lv' := [(2, .int (x1 - (σ 6 2 2))), (0, .ref (ad 19 0)), (1, .int x1)]) hx hb dX2_moveIn_8 rfl hl (by decide) rfl (fun ls hl => ?_)
  refine lv_aload_n hx hb dX2_moveIn_9 rfl (lv_at hl 1 rfl) ?_
  refine gC_19_9 S V hw (Nat.le_of_ble_eq_true rfl) fl_X2_40 dX2_moveIn_10 ?_
  refine lv_aload_n hx hb dX2_moveIn_13 rfl (lv_at hl 1 rfl) ?_
  refine gC_19_7 S V hw (Nat.le_of_ble_eq_true rfl) fl_X2_33 dX2_moveIn_14 ?_
  refine lv_iconst (v := 0) hx hb dX2_moveIn_17 (by decide) ?_
  refine lv_iload_n hx hb dX2_moveIn_18 rfl (lv_at hl 0 rfl) ?_
  refine x_max S hl.1 ml_X2_60 ws_max wi_J9 wc_max (Nat.le_of_ble_eq_true rfl) (Nat.le_of_ble_eq_true rfl) dX2_moveIn_19 ?_
  refine aC_20 S V hw (Nat.le_of_ble_eq_true rfl) h.1 (z := (σ 20 0 ((if 0 < (x1 - (σ 6 2 2)) then (x1 - (σ 6 2 2)) else 0).toNatClampNeg))) rfl dX2_moveIn_22 ?_
  have h := h.2
  refine lv_aload_n hx hb dX2_moveIn_23 rfl (lv_at hl 1 rfl) ?_
  refine gC_19_7 S V hw (Nat.le_of_ble_eq_true rfl) fl_X2_33 dX2_moveIn_24 ?_
  refine lv_iconst (v := 0) hx hb dX2_moveIn_27 (by decide) ?_
  refine lv_iload_n hx hb dX2_moveIn_28 rfl (lv_at hl 0 rfl) ?_
  refine lv_iconst (v := 1) hx hb dX2_moveIn_29 (by decide) ?_
  refine lv_isub hx hb dX2_moveIn_30 ?_
  refine x_max S hl.1 ml_X2_60 ws_max wi_J9 wc_max (Nat.le_of_ble_eq_true rfl) (Nat.le_of_ble_eq_true rfl) dX2_moveIn_31 ?_
  refine aC_20 S V hw (Nat.le_of_ble_eq_true rfl) h.1 (z := (σ 20 0 ((if 0 < ((x1 - (σ 6 2 2)) - 1) then ((x1 - (σ 6 2 2)) - 1) else 0).toNatClampNeg))) rfl dX2_moveIn_34 ?_
  have h := h.2
  refine call_SNi (As := [.ref (ad 6 2), .int (σ 20 0 ((if 0 < (x1 - (σ 6 2 2)) then (x1 - (σ 6 2 2)) else 0).toNatClampNeg)), .int (σ 20 0 ((if 0 < ((x1 - (σ 6 2 2)) - 1) then ((x1 - (σ 6 2 2)) - 1) else 0).toNatClampNeg))]) (rest := []) EvC_ok S V hw (mt_X8_wish l D q ad t aK aV 2 (σ 20 0 ((if 0 < (x1 - (σ 6 2 2)) then (x1 - (σ 6 2 2)) else 0).toNatClampNeg)) (σ 20 0 ((if 0 < ((x1 - (σ 6 2 2)) - 1) then ((x1 - (σ 6 2 2)) - 1) else 0).toNatClampNeg)) (Nat.le_of_ble_eq_true rfl) σ _ h) ok_X8_wish (V.2.2.1 _ (List.mem_of_getElem? (i := 14) rfl)) ⟨(Nat.le_of_ble_eq_true rfl), (Nat.le_of_ble_eq_true rfl)⟩ ⟨rfl, rfl⟩ rfl hl.1 rfl (Nat.le_of_ble_eq_true rfl) dX2_moveIn_35 (fun r1 σ1 H locs h hw => ?_)
  exact ret_i S hr hlocks hw h dX2_moveIn_38
theorem mt_X2_moveIn (l : Launch) (D : va_G) (q : ClassId × ClassId × ClassId × ClassId) (ad : Nat → Nat → Nat) (t : Nat × Nat) (aK aV : Nat → Nat) (x1 : Int32) (σ : St) (post : Int32 → St → Prop) (h : wp_X2_moveIn x1 post σ) : cI l D clA LC ad (EC q ad) (EvC D q ad t aK aV) yX2_moveIn cX2_moveIn 3 (some .int) { frames := 2, cells := 0, slots := 0, locals := 43 } [.ref (ad 19 0), .int x1] σ post :=
  ent_i (by decide) (Nat.le_of_ble_eq_true rfl) (fun p e s m below meth c S V hr hlocks hw ls hl => wk_X2_moveIn_0 S V hr hlocks x1  post   σ _ _ ls h  hw (lv_sub hl [0, 1] rfl))
def wp_X2_isFit_2 (post : Int32 → St → Prop) : Nat → Int32 → St → Prop
  | 0 => fun _ _ => False
  | n + 1 => fun x1 σ => (((σ 19 0 0) ≤ x1 → post 1 σ) ∧ (¬ (σ 19 0 0) ≤ x1 → wp_X2_moveIn x1 (fun r1 σ1 => (vp_in x1 24 ∧ ((r1 = (σ1 21 0 x1.toNatClampNeg) → wp_X2_isFit_2 post n (x1 + 1) σ1) ∧ (¬ r1 = (σ1 21 0 x1.toNatClampNeg) → post 0 σ1)))) σ))
set_option maxHeartbeats 4000000 in
set_option maxRecDepth 100000 in
theorem wk_X2_isFit_2 {p : Program} {l : Launch} {e : Env} {s : State} {m : MethodId} {below : List Frame} {meth : Method} {c : Code} {D : va_G} {q : ClassId × ClassId × ClassId × ClassId} {ad : Nat → Nat → Nat} {t : Nat × Nat} {aK aV : Nat → Nat} {args : Array Value} (S : CallFix p m c cX2_isFit 2 s args GW "OnChin$Film") (V : EvC D q ad t aK aV s) (hr : meth.sig.returnType = (some .boolean)) (hlocks : meth.locks = false) (post : Int32 → St → Prop)  : ∀ (n : Nat) (x1 : Int32) (σ : St) (H : Heap) (locs : List Loc) (ls : Array Slot), wp_X2_isFit_2 post n x1 σ → wo D clA LC ad s.heap H locs (EC q ad σ) → lv_has ls 2 [(0, .ref (ad 19 0)), (1, .int x1)] → W p l e { frames := 3, cells := 0, slots := 0, locals := 65 } s m args below meth c H locs 0 0 (MQ below (zQi D clA LC ad (EC q ad) post) args s 0 0 (zA LC ad)) (F0 m 2 ls []) := by
  have hx := S.1
  have hb := S.2.1
  intro n
  induction n with
  | zero => intro x1 σ H locs ls h; exact False.elim h
  | succ n ih =>
    intro x1 σ H locs ls h  hw hl
    refine lv_iload_n hx hb dX2_isFit_2 rfl (lv_at hl 1 rfl) ?_
    refine lv_aload_n hx hb dX2_isFit_3 rfl (lv_at hl 0 rfl) ?_
    refine gC_19_0 S V hw (Nat.le_of_ble_eq_true rfl) fl_X2_9 rfl dX2_isFit_4 ?_
    refine lv_icmp_ge (tgt := 32) hx hb dX2_isFit_7 (by decide) (fun hc => ?_) (fun hc => ?_)
    · have h := h.1 hc
      refine lv_iconst (v := 1) hx hb dX2_isFit_32 (by decide) ?_
      exact ret_z S hr hlocks hw (by decide) h dX2_isFit_33
    · have h := h.2 hc
      refine lv_aload_n hx hb dX2_isFit_10 rfl (lv_at hl 0 rfl) ?_
      refine lv_iload_n hx hb dX2_isFit_11 rfl (lv_at hl 1 rfl) ?_
      refine call_Vi (As := [.int x1]) (rest := []) EvC_ok S V hw (mt_X2_moveIn l D q ad t aK aV x1  σ _ h) ok_X2_moveIn ml_X2_56 (rC_19 S V hw (Nat.le_of_ble_eq_true rfl)) ⟨(Nat.le_of_ble_eq_true rfl), (Nat.le_of_ble_eq_true rfl)⟩ ⟨rfl, rfl⟩ rfl hl.1 rfl (Nat.le_of_ble_eq_true rfl) dX2_isFit_12 (fun r1 σ1 H locs h hw => ?_)
      refine lv_aload_n hx hb dX2_isFit_15 rfl (lv_at hl 0 rfl) ?_
      refine gC_19_8 S V hw (Nat.le_of_ble_eq_true rfl) fl_X2_37 dX2_isFit_16 ?_
      refine lv_iload_n hx hb dX2_isFit_19 rfl (lv_at hl 1 rfl) ?_
      refine aC_21 S V hw (Nat.le_of_ble_eq_true rfl) h.1 (z := (σ1 21 0 x1.toNatClampNeg)) rfl dX2_isFit_20 ?_
      have h := h.2
      refine lv_icmp_eq (tgt := 26) hx hb dX2_isFit_21 (by decide) (fun hc => ?_) (fun hc => ?_)
      · have h := h.1 hc
        refine lv_iinc (v := (x1 + 1)) (lv' := [(1, .int (x1 + 1)), (0, .ref (ad 19 0))]) hx hb dX2_isFit_26 hl (k := 1) rfl rfl (by decide) rfl (fun ls hl => ?_)
        refine lv_goto (tgt := 2) hx hb dX2_isFit_29 (by decide) ?_
        exact ih (x1 + 1) _ _ _ _ h  hw (lv_sub hl [1, 0] rfl)
      · have h := h.2 hc
        refine lv_iconst (v := 0) hx hb dX2_isFit_24 (by decide) ?_
        exact ret_z S hr hlocks hw (by decide) h dX2_isFit_25
def wp_X2_isFit (post : Int32 → St → Prop)  (σ : St) : Prop := ∃ nn, wp_X2_isFit_2 post nn 0 σ
set_option maxHeartbeats 4000000 in
set_option maxRecDepth 100000 in
theorem wk_X2_isFit_0 {p : Program} {l : Launch} {e : Env} {s : State} {m : MethodId} {below : List Frame} {meth : Method} {c : Code} {D : va_G} {q : ClassId × ClassId × ClassId × ClassId} {ad : Nat → Nat → Nat} {t : Nat × Nat} {aK aV : Nat → Nat} {args : Array Value} (S : CallFix p m c cX2_isFit 2 s args GW "OnChin$Film") (V : EvC D q ad t aK aV s) (hr : meth.sig.returnType = (some .boolean)) (hlocks : meth.locks = false) (post : Int32 → St → Prop)  : ∀ (σ : St) (H : Heap) (locs : List Loc) (ls : Array Slot), wp_X2_isFit post  σ → wo D clA LC ad s.heap H locs (EC q ad σ) → lv_has ls 2 [(0, .ref (ad 19 0))] → W p l e { frames := 3, cells := 0, slots := 0, locals := 65 } s m args below meth c H locs 0 0 (MQ below (zQi D clA LC ad (EC q ad) post) args s 0 0 (zA LC ad)) (F0 m 0 ls []) := by
  have hx := S.1
  have hb := S.2.1
  intro  σ H locs ls h  hw hl
  refine lv_iconst (v := 0) hx hb dX2_isFit_0 (by decide) ?_
  refine lv_istore_n (lv' := [(1, .int 0), (0, .ref (ad 19 0))]) hx hb dX2_isFit_1 rfl hl (by decide) rfl (fun ls hl => ?_)
  obtain ⟨n9, h⟩ := h
  exact wk_X2_isFit_2 S V hr hlocks    post  n9 0 _ _ _ _ h  hw (lv_sub hl [1, 0] rfl)
theorem mt_X2_isFit (l : Launch) (D : va_G) (q : ClassId × ClassId × ClassId × ClassId) (ad : Nat → Nat → Nat) (t : Nat × Nat) (aK aV : Nat → Nat)  (σ : St) (post : Int32 → St → Prop) (h : wp_X2_isFit post σ) : cI l D clA LC ad (EC q ad) (EvC D q ad t aK aV) yX2_isFit cX2_isFit 2 (some .boolean) { frames := 3, cells := 0, slots := 0, locals := 65 } [.ref (ad 19 0)] σ post :=
  ent_i (by decide) (Nat.le_of_ble_eq_true rfl) (fun p e s m below meth c S V hr hlocks hw ls hl => wk_X2_isFit_0 S V hr hlocks   post   σ _ _ ls h  hw (lv_sub hl [0] rfl))
def wp_X2_noteFit_56 (post : St → Prop) (x1 : Int32) (σ : St) : Prop := post (su (su (su σ 19 0 5 (if x1 < (σ 19 0 5) then x1 else (σ 19 0 5))) 19 0 6 (if (σ 19 0 6) < x1 then x1 else (σ 19 0 6))) 19 0 1 ((σ 19 0 1) + 1))
set_option maxHeartbeats 4000000 in
set_option maxRecDepth 100000 in
theorem wk_X2_noteFit_56 {p : Program} {l : Launch} {e : Env} {s : State} {m : MethodId} {below : List Frame} {meth : Method} {c : Code} {D : va_G} {q : ClassId × ClassId × ClassId × ClassId} {ad : Nat → Nat → Nat} {t : Nat × Nat} {aK aV : Nat → Nat} {args : Array Value} (S : CallFix p m c cX2_noteFit 2 s args GW "OnChin$Film") (V : EvC D q ad t aK aV s) (hr : meth.sig.returnType = none) (hlocks : meth.locks = false) (post : St → Prop)  : ∀ (x1 : Int32) (σ : St) (H : Heap) (locs : List Loc) (ls : Array Slot), wp_X2_noteFit_56 post x1 σ → wo D clA LC ad s.heap H locs (EC q ad σ) → lv_has ls 2 [(0, .ref (ad 19 0)), (1, .int x1)] → W p l e { frames := 3, cells := 0, slots := 0, locals := 65 } s m args below meth c H locs 0 0 (MQ below (zQv D clA LC ad (EC q ad) post) args s 0 0 (zA LC ad)) (F0 m 56 ls []) := by
  have hx := S.1
  have hb := S.2.1
  intro x1 σ H locs ls h  hw hl
  refine lv_aload_n hx hb dX2_noteFit_56 rfl (lv_at hl 0 rfl) ?_
  refine lv_aload_n hx hb dX2_noteFit_57 rfl (lv_at hl 0 rfl) ?_
  refine gC_19_5 S V hw (Nat.le_of_ble_eq_true rfl) fl_X2_27 rfl dX2_noteFit_58 ?_
  refine lv_iload_n hx hb dX2_noteFit_61 rfl (lv_at hl 1 rfl) ?_
  refine x_min S hl.1 ml_X2_70 ws_min wi_J9 wc_min (Nat.le_of_ble_eq_true rfl) (Nat.le_of_ble_eq_true rfl) dX2_noteFit_62 ?_
  refine pC_19_5 S V hw (Nat.le_of_ble_eq_true rfl) fl_X2_27 dX2_noteFit_65 (fun H locs hw => ?_)
  refine lv_aload_n hx hb dX2_noteFit_68 rfl (lv_at hl 0 rfl) ?_
  refine lv_aload_n hx hb dX2_noteFit_69 rfl (lv_at hl 0 rfl) ?_
  refine gC_19_6 S V hw (Nat.le_of_ble_eq_true rfl) fl_X2_30 (su_nk rfl) dX2_noteFit_70 ?_
  refine lv_iload_n hx hb dX2_noteFit_73 rfl (lv_at hl 1 rfl) ?_
  refine x_max S hl.1 ml_X2_60 ws_max wi_J9 wc_max (Nat.le_of_ble_eq_true rfl) (Nat.le_of_ble_eq_true rfl) dX2_noteFit_74 ?_
  refine pC_19_6 S V hw (Nat.le_of_ble_eq_true rfl) fl_X2_30 dX2_noteFit_77 (fun H locs hw => ?_)
  refine lv_aload_n hx hb dX2_noteFit_80 rfl (lv_at hl 0 rfl) ?_
  refine lv_dup hx hb dX2_noteFit_81 rfl ?_
  refine gC_19_1 S V hw (Nat.le_of_ble_eq_true rfl) fl_X2_15 ((su_nk rfl).trans (su_nk rfl)) dX2_noteFit_82 ?_
  refine lv_iconst (v := 1) hx hb dX2_noteFit_85 (by decide) ?_
  refine lv_iadd hx hb dX2_noteFit_86 ?_
  refine pC_19_1 S V hw (Nat.le_of_ble_eq_true rfl) fl_X2_15 dX2_noteFit_87 (fun H locs hw => ?_)
  exact ret_v S hr hlocks hw h dX2_noteFit_90
def wp_X2_noteFit (post : St → Prop)  (σ : St) : Prop := wp_X2_moveIn (σ 19 0 0) (fun r1 σ1 => ((¬ (σ1 19 0 1) = 0 → wp_X2_noteFit_56 post r1 σ1) ∧ ((σ1 19 0 1) = 0 → wp_X2_noteFit_56 post r1 (su (su (su (su (su σ1 19 0 2 (σ1 6 2 2)) 19 0 3 (σ1 6 2 0)) 19 0 4 (σ1 6 2 1)) 19 0 5 r1) 19 0 6 r1)))) σ
set_option maxHeartbeats 4000000 in
set_option maxRecDepth 100000 in
theorem wk_X2_noteFit_0 {p : Program} {l : Launch} {e : Env} {s : State} {m : MethodId} {below : List Frame} {meth : Method} {c : Code} {D : va_G} {q : ClassId × ClassId × ClassId × ClassId} {ad : Nat → Nat → Nat} {t : Nat × Nat} {aK aV : Nat → Nat} {args : Array Value} (S : CallFix p m c cX2_noteFit 2 s args GW "OnChin$Film") (V : EvC D q ad t aK aV s) (hr : meth.sig.returnType = none) (hlocks : meth.locks = false) (post : St → Prop)  : ∀ (σ : St) (H : Heap) (locs : List Loc) (ls : Array Slot), wp_X2_noteFit post  σ → wo D clA LC ad s.heap H locs (EC q ad σ) → lv_has ls 2 [(0, .ref (ad 19 0))] → W p l e { frames := 3, cells := 0, slots := 0, locals := 65 } s m args below meth c H locs 0 0 (MQ below (zQv D clA LC ad (EC q ad) post) args s 0 0 (zA LC ad)) (F0 m 0 ls []) := by
  have hx := S.1
  have hb := S.2.1
  intro  σ H locs ls h  hw hl
  have h : wp_X2_moveIn (σ 19 0 0) (fun r1 σ1 => ((¬ (σ1 19 0 1) = 0 → wp_X2_noteFit_56 post r1 σ1) ∧ ((σ1 19 0 1) = 0 → wp_X2_noteFit_56 post r1 (su (su (su (su (su σ1 19 0 2 (σ1 6 2 2)) 19 0 3 (σ1 6 2 0)) 19 0 4 (σ1 6 2 1)) 19 0 5 r1) 19 0 6 r1)))) σ := h
  refine lv_aload_n hx hb dX2_noteFit_0 rfl (lv_at hl 0 rfl) ?_
  refine lv_aload_n hx hb dX2_noteFit_1 rfl (lv_at hl 0 rfl) ?_
  refine gC_19_0 S V hw (Nat.le_of_ble_eq_true rfl) fl_X2_9 rfl dX2_noteFit_2 ?_
  refine call_Vi (As := [.int (σ 19 0 0)]) (rest := []) EvC_ok S V hw (mt_X2_moveIn l D q ad t aK aV (σ 19 0 0)  σ _ h) ok_X2_moveIn ml_X2_56 (rC_19 S V hw (Nat.le_of_ble_eq_true rfl)) ⟨(Nat.le_of_ble_eq_true rfl), (Nat.le_of_ble_eq_true rfl)⟩ ⟨rfl, rfl⟩ rfl hl.1 rfl (Nat.le_of_ble_eq_true rfl) dX2_noteFit_5 (fun r1 σ1 H locs h hw => ?_)
  refine lv_istore_n (lv' := [(1, .int r1), (0, .ref (ad 19 0))]) hx hb dX2_noteFit_8 rfl hl (by decide) rfl (fun ls hl => ?_)
  refine lv_aload_n hx hb dX2_noteFit_9 rfl (lv_at hl 1 rfl) ?_
  refine gC_19_1 S V hw (Nat.le_of_ble_eq_true rfl) fl_X2_15 rfl dX2_noteFit_10 ?_
  refine lv_if_ne (tgt := 56) hx hb dX2_noteFit_13 (by decide) (fun hc => ?_) (fun hc => ?_)
  · have h := h.1 hc
    exact wk_X2_noteFit_56 S V hr hlocks    post  r1 _ _ _ _ h  hw (lv_sub hl [1, 0] rfl)
  · have h := h.2 hc
    refine lv_aload_n hx hb dX2_noteFit_16 rfl (lv_at hl 1 rfl) ?_
    refine lv_aload_n hx hb dX2_noteFit_17 rfl (lv_at hl 1 rfl) ?_
    refine gC_19_9 S V hw (Nat.le_of_ble_eq_true rfl) fl_X2_40 dX2_noteFit_18 ?_
    refine lv_iconst (v := 2) hx hb dX2_noteFit_21 (by decide) ?_
    refine aC_6 S V hw (Nat.le_of_ble_eq_true rfl) (vp_in_nI (n := 2) (Nat.le_of_ble_eq_true rfl) (Nat.le_of_ble_eq_true rfl)) (z := (σ1 6 2 2)) rfl dX2_noteFit_22 ?_
    refine pC_19_2 S V hw (Nat.le_of_ble_eq_true rfl) fl_X2_18 dX2_noteFit_23 (fun H locs hw => ?_)
    refine lv_aload_n hx hb dX2_noteFit_26 rfl (lv_at hl 1 rfl) ?_
    refine lv_aload_n hx hb dX2_noteFit_27 rfl (lv_at hl 1 rfl) ?_
    refine gC_19_9 S V hw (Nat.le_of_ble_eq_true rfl) fl_X2_40 dX2_noteFit_28 ?_
    refine lv_iconst (v := 0) hx hb dX2_noteFit_31 (by decide) ?_
    refine aC_6 S V hw (Nat.le_of_ble_eq_true rfl) (vp_in_nI (n := 0) (Nat.le_of_ble_eq_true rfl) (Nat.le_of_ble_eq_true rfl)) (z := (σ1 6 2 0)) (su_nc rfl) dX2_noteFit_32 ?_
    refine pC_19_3 S V hw (Nat.le_of_ble_eq_true rfl) fl_X2_21 dX2_noteFit_33 (fun H locs hw => ?_)
    refine lv_aload_n hx hb dX2_noteFit_36 rfl (lv_at hl 1 rfl) ?_
    refine lv_aload_n hx hb dX2_noteFit_37 rfl (lv_at hl 1 rfl) ?_
    refine gC_19_9 S V hw (Nat.le_of_ble_eq_true rfl) fl_X2_40 dX2_noteFit_38 ?_
    refine lv_iconst (v := 1) hx hb dX2_noteFit_41 (by decide) ?_
    refine aC_6 S V hw (Nat.le_of_ble_eq_true rfl) (vp_in_nI (n := 1) (Nat.le_of_ble_eq_true rfl) (Nat.le_of_ble_eq_true rfl)) (z := (σ1 6 2 1)) ((su_nc rfl).trans (su_nc rfl)) dX2_noteFit_42 ?_
    refine pC_19_4 S V hw (Nat.le_of_ble_eq_true rfl) fl_X2_24 dX2_noteFit_43 (fun H locs hw => ?_)
    refine lv_aload_n hx hb dX2_noteFit_46 rfl (lv_at hl 1 rfl) ?_
    refine lv_iload_n hx hb dX2_noteFit_47 rfl (lv_at hl 0 rfl) ?_
    refine pC_19_5 S V hw (Nat.le_of_ble_eq_true rfl) fl_X2_27 dX2_noteFit_48 (fun H locs hw => ?_)
    refine lv_aload_n hx hb dX2_noteFit_51 rfl (lv_at hl 1 rfl) ?_
    refine lv_iload_n hx hb dX2_noteFit_52 rfl (lv_at hl 0 rfl) ?_
    refine pC_19_6 S V hw (Nat.le_of_ble_eq_true rfl) fl_X2_30 dX2_noteFit_53 (fun H locs hw => ?_)
    exact wk_X2_noteFit_56 S V hr hlocks    post  r1 _ _ _ _ h  hw (lv_sub hl [1, 0] rfl)
theorem mt_X2_noteFit (l : Launch) (D : va_G) (q : ClassId × ClassId × ClassId × ClassId) (ad : Nat → Nat → Nat) (t : Nat × Nat) (aK aV : Nat → Nat)  (σ : St) (post : St → Prop) (h : wp_X2_noteFit post σ) : cV l D clA LC ad (EC q ad) (EvC D q ad t aK aV) yX2_noteFit cX2_noteFit 2 none { frames := 3, cells := 0, slots := 0, locals := 65 } [.ref (ad 19 0)] σ post :=
  ent_v (by decide) (Nat.le_of_ble_eq_true rfl) (fun p e s m below meth c S V hr hlocks hw ls hl => wk_X2_noteFit_0 S V hr hlocks   post   σ _ _ ls h  hw (lv_sub hl [0] rfl))
def wp_X2_seek_104 (o1 : Nat) (x2 : Int32) (K44 : Int32 → St → Prop) (K53 : Int32 → Int32 → St → Prop) (K63 : Int32 → Int32 → Int32 → St → Prop) (post : St → Prop) (x3 : Int32) (x4 : Int32) (x5 : Int32) (σ : St) : Prop := K63 x3 x4 (x5 + 1) σ
set_option maxHeartbeats 4000000 in
set_option maxRecDepth 100000 in
theorem wk_X2_seek_104 {p : Program} {l : Launch} {e : Env} {s : State} {m : MethodId} {below : List Frame} {meth : Method} {c : Code} {D : va_G} {q : ClassId × ClassId × ClassId × ClassId} {ad : Nat → Nat → Nat} {t : Nat × Nat} {aK aV : Nat → Nat} {args : Array Value} (S : CallFix p m c cX2_seek 6 s args GW "OnChin$Film") (V : EvC D q ad t aK aV s) (hr : meth.sig.returnType = none) (hlocks : meth.locks = false) (o1 : Nat) (x2 : Int32) (ho1 : o1 < 3) (K44 : Int32 → St → Prop) (K53 : Int32 → Int32 → St → Prop) (K63 : Int32 → Int32 → Int32 → St → Prop) (post : St → Prop) (hK44 : ∀ (x3 : Int32) (σ : St) (H : Heap) (locs : List Loc) (ls : Array Slot), K44 x3 σ → wo D clA LC ad s.heap H locs (EC q ad σ) → lv_has ls 6 [(0, .ref (ad 19 0)), (1, .ref (ad 6 o1)), (2, .int x2), (3, .int x3)] → W p l e { frames := 4, cells := 0, slots := 0, locals := 86 } s m args below meth c H locs 0 0 (MQ below (zQv D clA LC ad (EC q ad) post) args s 0 0 (zA LC ad)) (F0 m 44 ls [])) (hK53 : ∀ (x3 : Int32) (x4 : Int32) (σ : St) (H : Heap) (locs : List Loc) (ls : Array Slot), K53 x3 x4 σ → wo D clA LC ad s.heap H locs (EC q ad σ) → lv_has ls 6 [(0, .ref (ad 19 0)), (1, .ref (ad 6 o1)), (2, .int x2), (3, .int x3), (4, .int x4)] → W p l e { frames := 4, cells := 0, slots := 0, locals := 86 } s m args below meth c H locs 0 0 (MQ below (zQv D clA LC ad (EC q ad) post) args s 0 0 (zA LC ad)) (F0 m 53 ls [])) (hK63 : ∀ (x3 : Int32) (x4 : Int32) (x5 : Int32) (σ : St) (H : Heap) (locs : List Loc) (ls : Array Slot), K63 x3 x4 x5 σ → wo D clA LC ad s.heap H locs (EC q ad σ) → lv_has ls 6 [(0, .ref (ad 19 0)), (1, .ref (ad 6 o1)), (2, .int x2), (3, .int x3), (4, .int x4), (5, .int x5)] → W p l e { frames := 4, cells := 0, slots := 0, locals := 86 } s m args below meth c H locs 0 0 (MQ below (zQv D clA LC ad (EC q ad) post) args s 0 0 (zA LC ad)) (F0 m 63 ls [])) : ∀ (x3 : Int32) (x4 : Int32) (x5 : Int32) (σ : St) (H : Heap) (locs : List Loc) (ls : Array Slot), wp_X2_seek_104 o1 x2 K44 K53 K63 post x3 x4 x5 σ → wo D clA LC ad s.heap H locs (EC q ad σ) → lv_has ls 6 [(0, .ref (ad 19 0)), (1, .ref (ad 6 o1)), (2, .int x2), (3, .int x3), (4, .int x4), (5, .int x5)] → W p l e { frames := 4, cells := 0, slots := 0, locals := 86 } s m args below meth c H locs 0 0 (MQ below (zQv D clA LC ad (EC q ad) post) args s 0 0 (zA LC ad)) (F0 m 104 ls []) := by
  have hx := S.1
  have hb := S.2.1
  intro x3 x4 x5 σ H locs ls h  hw hl
  refine lv_iinc (v := (x5 + 1)) (lv' := [(5, .int (x5 + 1)), (0, .ref (ad 19 0)), (1, .ref (ad 6 o1)), (2, .int x2), (3, .int x3), (4, .int x4)]) hx hb dX2_seek_104 hl (k := 5) rfl rfl (by decide) rfl (fun ls hl => ?_)
  refine lv_goto (tgt := 63) hx hb dX2_seek_107 (by decide) ?_
  exact hK63 x3 x4 (x5 + 1) _ _ _ _ h  hw (lv_sub hl [1, 2, 3, 4, 5, 0] rfl)
def wp_X2_seek_63 (o1 : Nat) (x2 : Int32) (K44 : Int32 → St → Prop) (K53 : Int32 → Int32 → St → Prop) (post : St → Prop) : Nat → Int32 → Int32 → Int32 → St → Prop
  | 0 => fun _ _ _ _ => False
  | n + 1 => fun x3 x4 x5 σ => ((20 < x5 → K53 x3 (x4 + 1) σ) ∧ (¬ 20 < x5 → wp_X2_isFit (fun r1 σ1 => ((r1 = 0 → wp_X2_seek_104 o1 x2 K44 K53 (fun y0 y1 y2 τ => wp_X2_seek_63 o1 x2 K44 K53 post n y0 y1 y2 τ) post x3 x4 x5 σ1) ∧ (¬ r1 = 0 → wp_X2_noteFit (fun σ2 => wp_X2_seek_104 o1 x2 K44 K53 (fun y0 y1 y2 τ => wp_X2_seek_63 o1 x2 K44 K53 post n y0 y1 y2 τ) post x3 x4 x5 σ2) σ1))) (su (su (su σ 6 2 2 x3) 6 2 0 x4) 6 2 1 x5)))
set_option maxHeartbeats 4000000 in
set_option maxRecDepth 100000 in
theorem wk_X2_seek_63 {p : Program} {l : Launch} {e : Env} {s : State} {m : MethodId} {below : List Frame} {meth : Method} {c : Code} {D : va_G} {q : ClassId × ClassId × ClassId × ClassId} {ad : Nat → Nat → Nat} {t : Nat × Nat} {aK aV : Nat → Nat} {args : Array Value} (S : CallFix p m c cX2_seek 6 s args GW "OnChin$Film") (V : EvC D q ad t aK aV s) (hr : meth.sig.returnType = none) (hlocks : meth.locks = false) (o1 : Nat) (x2 : Int32) (ho1 : o1 < 3) (K44 : Int32 → St → Prop) (K53 : Int32 → Int32 → St → Prop) (post : St → Prop) (hK44 : ∀ (x3 : Int32) (σ : St) (H : Heap) (locs : List Loc) (ls : Array Slot), K44 x3 σ → wo D clA LC ad s.heap H locs (EC q ad σ) → lv_has ls 6 [(0, .ref (ad 19 0)), (1, .ref (ad 6 o1)), (2, .int x2), (3, .int x3)] → W p l e { frames := 4, cells := 0, slots := 0, locals := 86 } s m args below meth c H locs 0 0 (MQ below (zQv D clA LC ad (EC q ad) post) args s 0 0 (zA LC ad)) (F0 m 44 ls [])) (hK53 : ∀ (x3 : Int32) (x4 : Int32) (σ : St) (H : Heap) (locs : List Loc) (ls : Array Slot), K53 x3 x4 σ → wo D clA LC ad s.heap H locs (EC q ad σ) → lv_has ls 6 [(0, .ref (ad 19 0)), (1, .ref (ad 6 o1)), (2, .int x2), (3, .int x3), (4, .int x4)] → W p l e { frames := 4, cells := 0, slots := 0, locals := 86 } s m args below meth c H locs 0 0 (MQ below (zQv D clA LC ad (EC q ad) post) args s 0 0 (zA LC ad)) (F0 m 53 ls [])) : ∀ (n : Nat) (x3 : Int32) (x4 : Int32) (x5 : Int32) (σ : St) (H : Heap) (locs : List Loc) (ls : Array Slot), wp_X2_seek_63 o1 x2 K44 K53 post n x3 x4 x5 σ → wo D clA LC ad s.heap H locs (EC q ad σ) → lv_has ls 6 [(0, .ref (ad 19 0)), (1, .ref (ad 6 o1)), (2, .int x2), (3, .int x3), (4, .int x4), (5, .int x5)] → W p l e { frames := 4, cells := 0, slots := 0, locals := 86 } s m args below meth c H locs 0 0 (MQ below (zQv D clA LC ad (EC q ad) post) args s 0 0 (zA LC ad)) (F0 m 63 ls []) := by
  have hx := S.1
  have hb := S.2.1
  intro n
  induction n with
  | zero => intro x3 x4 x5 σ H locs ls h; exact False.elim h
  | succ n ih =>
    intro x3 x4 x5 σ H locs ls h  hw hl
    refine lv_iload hx hb dX2_seek_63 (lv_at hl 5 rfl) ?_
    refine lv_bipush (v := 20) hx hb dX2_seek_65 (by decide) ?_
    refine lv_icmp_gt (tgt := 110) hx hb dX2_seek_67 (by decide) (fun hc => ?_) (fun hc => ?_)
    · have h := h.1 hc
      refine lv_iinc (v := (x4 + 1)) (lv' := [(4, .int (x4 + 1)), (0, .ref (ad 19 0)), (1, .ref (ad 6 o1)), (2, .int x2), (3, .int x3), (5, .int x5)]) hx hb dX2_seek_110 hl (k := 4) rfl rfl (by decide) rfl (fun ls hl => ?_)
      refine lv_goto (tgt := 53) hx hb dX2_seek_113 (by decide) ?_
      exact hK53 x3 (x4 + 1) _ _ _ _ h  hw (lv_sub hl [1, 2, 3, 4, 0] rfl)
    · have h := h.2 hc
      refine lv_aload_n hx hb dX2_seek_70 rfl (lv_at hl 0 rfl) ?_
      refine gC_19_9 S V hw (Nat.le_of_ble_eq_true rfl) fl_X2_40 dX2_seek_71 ?_
      refine lv_iconst (v := 2) hx hb dX2_seek_74 (by decide) ?_
      refine lv_iload_n hx hb dX2_seek_75 rfl (lv_at hl 3 rfl) ?_
      refine sC_6 S V hw (Nat.le_of_ble_eq_true rfl) (vp_in_nI (n := 2) (Nat.le_of_ble_eq_true rfl) (Nat.le_of_ble_eq_true rfl)) dX2_seek_76 (fun H locs hw => ?_)
      have hw : wo D clA LC ad s.heap H locs (EC q ad (su σ 6 2 2 x3)) := hw
      refine lv_aload_n hx hb dX2_seek_77 rfl (lv_at hl 0 rfl) ?_
      refine gC_19_9 S V hw (Nat.le_of_ble_eq_true rfl) fl_X2_40 dX2_seek_78 ?_
      refine lv_iconst (v := 0) hx hb dX2_seek_81 (by decide) ?_
      refine lv_iload hx hb dX2_seek_82 (lv_at hl 4 rfl) ?_
      refine sC_6 S V hw (Nat.le_of_ble_eq_true rfl) (vp_in_nI (n := 0) (Nat.le_of_ble_eq_true rfl) (Nat.le_of_ble_eq_true rfl)) dX2_seek_84 (fun H locs hw => ?_)
      have hw : wo D clA LC ad s.heap H locs (EC q ad (su (su σ 6 2 2 x3) 6 2 0 x4)) := hw
      refine lv_aload_n hx hb dX2_seek_85 rfl (lv_at hl 0 rfl) ?_
      refine gC_19_9 S V hw (Nat.le_of_ble_eq_true rfl) fl_X2_40 dX2_seek_86 ?_
      refine lv_iconst (v := 1) hx hb dX2_seek_89 (by decide) ?_
      refine lv_iload hx hb dX2_seek_90 (lv_at hl 5 rfl) ?_
      refine sC_6 S V hw (Nat.le_of_ble_eq_true rfl) (vp_in_nI (n := 1) (Nat.le_of_ble_eq_true rfl) (Nat.le_of_ble_eq_true rfl)) dX2_seek_92 (fun H locs hw => ?_)
      have hw : wo D clA LC ad s.heap H locs (EC q ad (su (su (su σ 6 2 2 x3) 6 2 0 x4) 6 2 1 x5)) := hw
      refine lv_aload_n hx hb dX2_seek_93 rfl (lv_at hl 0 rfl) ?_
      refine call_Vi (As := []) (rest := []) EvC_ok S V hw (mt_X2_isFit l D q ad t aK aV   (su (su (su σ 6 2 2 x3) 6 2 0 x4) 6 2 1 x5) _ h) ok_X2_isFit ml_X2_49 (rC_19 S V hw (Nat.le_of_ble_eq_true rfl)) ⟨(Nat.le_of_ble_eq_true rfl), (Nat.le_of_ble_eq_true rfl)⟩ ⟨rfl, rfl⟩ rfl hl.1 rfl (Nat.le_of_ble_eq_true rfl) dX2_seek_94 (fun r1 σ1 H locs h hw => ?_)
      refine lv_if_eq (tgt := 104) hx hb dX2_seek_97 (by decide) (fun hc => ?_) (fun hc => ?_)
      · have h := h.1 hc
        exact wk_X2_seek_104 S V hr hlocks o1 x2 ho1 K44 K53 (fun y0 y1 y2 τ => wp_X2_seek_63 o1 x2 K44 K53 post n y0 y1 y2 τ) post hK44 hK53 ih x3 x4 x5 _ _ _ _ h  hw (lv_sub hl [0, 1, 2, 3, 4, 5] rfl)
      · have h := h.2 hc
        refine lv_aload_n hx hb dX2_seek_100 rfl (lv_at hl 0 rfl) ?_
        refine call_Vv (As := []) (rest := []) EvC_ok S V hw (mt_X2_noteFit l D q ad t aK aV   σ1 _ h) ok_X2_noteFit ml_X2_53 (rC_19 S V hw (Nat.le_of_ble_eq_true rfl)) ⟨(Nat.le_of_ble_eq_true rfl), (Nat.le_of_ble_eq_true rfl)⟩ ⟨rfl, rfl⟩ rfl hl.1 rfl (Nat.le_of_ble_eq_true rfl) dX2_seek_101 (fun σ2 H locs h hw => ?_)
        exact wk_X2_seek_104 S V hr hlocks o1 x2 ho1 K44 K53 (fun y0 y1 y2 τ => wp_X2_seek_63 o1 x2 K44 K53 post n y0 y1 y2 τ) post hK44 hK53 ih x3 x4 x5 _ _ _ _ h  hw (lv_sub hl [0, 1, 2, 3, 4, 5] rfl)
def wp_X2_seek_53 (o1 : Nat) (x2 : Int32) (K44 : Int32 → St → Prop) (post : St → Prop) : Nat → Int32 → Int32 → St → Prop
  | 0 => fun _ _ _ => False
  | n + 1 => fun x3 x4 σ => ((20 < x4 → K44 (x3 + 1) σ) ∧ (¬ 20 < x4 → ∃ nn, wp_X2_seek_63 o1 x2 K44 (fun y0 y1 τ => wp_X2_seek_53 o1 x2 K44 post n y0 y1 τ) post nn x3 x4 0 σ))
set_option maxHeartbeats 4000000 in
set_option maxRecDepth 100000 in
theorem wk_X2_seek_53 {p : Program} {l : Launch} {e : Env} {s : State} {m : MethodId} {below : List Frame} {meth : Method} {c : Code} {D : va_G} {q : ClassId × ClassId × ClassId × ClassId} {ad : Nat → Nat → Nat} {t : Nat × Nat} {aK aV : Nat → Nat} {args : Array Value} (S : CallFix p m c cX2_seek 6 s args GW "OnChin$Film") (V : EvC D q ad t aK aV s) (hr : meth.sig.returnType = none) (hlocks : meth.locks = false) (o1 : Nat) (x2 : Int32) (ho1 : o1 < 3) (K44 : Int32 → St → Prop) (post : St → Prop) (hK44 : ∀ (x3 : Int32) (σ : St) (H : Heap) (locs : List Loc) (ls : Array Slot), K44 x3 σ → wo D clA LC ad s.heap H locs (EC q ad σ) → lv_has ls 6 [(0, .ref (ad 19 0)), (1, .ref (ad 6 o1)), (2, .int x2), (3, .int x3)] → W p l e { frames := 4, cells := 0, slots := 0, locals := 86 } s m args below meth c H locs 0 0 (MQ below (zQv D clA LC ad (EC q ad) post) args s 0 0 (zA LC ad)) (F0 m 44 ls [])) : ∀ (n : Nat) (x3 : Int32) (x4 : Int32) (σ : St) (H : Heap) (locs : List Loc) (ls : Array Slot), wp_X2_seek_53 o1 x2 K44 post n x3 x4 σ → wo D clA LC ad s.heap H locs (EC q ad σ) → lv_has ls 6 [(0, .ref (ad 19 0)), (1, .ref (ad 6 o1)), (2, .int x2), (3, .int x3), (4, .int x4)] → W p l e { frames := 4, cells := 0, slots := 0, locals := 86 } s m args below meth c H locs 0 0 (MQ below (zQv D clA LC ad (EC q ad) post) args s 0 0 (zA LC ad)) (F0 m 53 ls []) := by
  have hx := S.1
  have hb := S.2.1
  intro n
  induction n with
  | zero => intro x3 x4 σ H locs ls h; exact False.elim h
  | succ n ih =>
    intro x3 x4 σ H locs ls h  hw hl
    refine lv_iload hx hb dX2_seek_53 (lv_at hl 4 rfl) ?_
    refine lv_bipush (v := 20) hx hb dX2_seek_55 (by decide) ?_
    refine lv_icmp_gt (tgt := 116) hx hb dX2_seek_57 (by decide) (fun hc => ?_) (fun hc => ?_)
    · have h := h.1 hc
      refine lv_iinc (v := (x3 + 1)) (lv' := [(3, .int (x3 + 1)), (0, .ref (ad 19 0)), (1, .ref (ad 6 o1)), (2, .int x2), (4, .int x4)]) hx hb dX2_seek_116 hl (k := 3) rfl rfl (by decide) rfl (fun ls hl => ?_)
      refine lv_goto (tgt := 44) hx hb dX2_seek_119 (by decide) ?_
      exact hK44 (x3 + 1) _ _ _ _ h  hw (lv_sub hl [1, 2, 3, 0] rfl)
    · have h := h.2 hc
      refine lv_iconst (v := 0) hx hb dX2_seek_60 (by decide) ?_
      refine lv_istore (lv' := [(5, .int 0), (0, .ref (ad 19 0)), (1, .ref (ad 6 o1)), (2, .int x2), (3, .int x3), (4, .int x4)]) hx hb dX2_seek_61 hl (by decide) rfl (fun ls hl => ?_)
      obtain ⟨n9, h⟩ := h
      exact wk_X2_seek_63 S V hr hlocks o1 x2 ho1 K44 (fun y0 y1 τ => wp_X2_seek_53 o1 x2 K44 post n y0 y1 τ) post hK44 ih n9 x3 x4 0 _ _ _ _ h  hw (lv_sub hl [1, 2, 3, 4, 5, 0] rfl)
def wp_X2_seek_44 (o1 : Nat) (x2 : Int32) (post : St → Prop) : Nat → Int32 → St → Prop
  | 0 => fun _ _ => False
  | n + 1 => fun x3 σ => ((6 < x3 → post σ) ∧ (¬ 6 < x3 → ∃ nn, wp_X2_seek_53 o1 x2 (fun y0 τ => wp_X2_seek_44 o1 x2 post n y0 τ) post nn x3 0 σ))
set_option maxHeartbeats 4000000 in
set_option maxRecDepth 100000 in
theorem wk_X2_seek_44 {p : Program} {l : Launch} {e : Env} {s : State} {m : MethodId} {below : List Frame} {meth : Method} {c : Code} {D : va_G} {q : ClassId × ClassId × ClassId × ClassId} {ad : Nat → Nat → Nat} {t : Nat × Nat} {aK aV : Nat → Nat} {args : Array Value} (S : CallFix p m c cX2_seek 6 s args GW "OnChin$Film") (V : EvC D q ad t aK aV s) (hr : meth.sig.returnType = none) (hlocks : meth.locks = false) (o1 : Nat) (x2 : Int32) (ho1 : o1 < 3) (post : St → Prop)  : ∀ (n : Nat) (x3 : Int32) (σ : St) (H : Heap) (locs : List Loc) (ls : Array Slot), wp_X2_seek_44 o1 x2 post n x3 σ → wo D clA LC ad s.heap H locs (EC q ad σ) → lv_has ls 6 [(0, .ref (ad 19 0)), (1, .ref (ad 6 o1)), (2, .int x2), (3, .int x3)] → W p l e { frames := 4, cells := 0, slots := 0, locals := 86 } s m args below meth c H locs 0 0 (MQ below (zQv D clA LC ad (EC q ad) post) args s 0 0 (zA LC ad)) (F0 m 44 ls []) := by
  have hx := S.1
  have hb := S.2.1
  intro n
  induction n with
  | zero => intro x3 σ H locs ls h; exact False.elim h
  | succ n ih =>
    intro x3 σ H locs ls h  hw hl
    refine lv_iload_n hx hb dX2_seek_44 rfl (lv_at hl 3 rfl) ?_
    refine lv_bipush (v := 6) hx hb dX2_seek_45 (by decide) ?_
    refine lv_icmp_gt (tgt := 122) hx hb dX2_seek_47 (by decide) (fun hc => ?_) (fun hc => ?_)
    · have h := h.1 hc
      exact ret_v S hr hlocks hw h dX2_seek_122
    · have h := h.2 hc
      refine lv_iconst (v := 0) hx hb dX2_seek_50 (by decide) ?_
      refine lv_istore (lv' := [(4, .int 0), (0, .ref (ad 19 0)), (1, .ref (ad 6 o1)), (2, .int x2), (3, .int x3)]) hx hb dX2_seek_51 hl (by decide) rfl (fun ls hl => ?_)
      obtain ⟨n9, h⟩ := h
      exact wk_X2_seek_53 S V hr hlocks o1 x2 ho1 (fun y0 τ => wp_X2_seek_44 o1 x2 post n y0 τ) post ih n9 x3 0 _ _ _ _ h  hw (lv_sub hl [1, 2, 3, 4, 0] rfl)
def wp_X2_seek (o1 : Nat) (x2 : Int32) (post : St → Prop)  (σ : St) : Prop := (vp_in (σ 19 0 0) 25 ∧ ∃ nn, wp_X2_seek_44 o1 x2 post nn 0 (su (su (su (su (su (sr σ 6 2 (va_cpy (fun i => σ 6 o1 i) (fun i => σ 6 2 i) 0 0 10)) 20 0 ((σ 19 0 0).toNatClampNeg) x2) 19 0 1 0) 19 0 2 (-1)) 19 0 3 (-1)) 19 0 4 (-1)))
set_option maxHeartbeats 4000000 in
set_option maxRecDepth 100000 in
theorem wk_X2_seek_0 {p : Program} {l : Launch} {e : Env} {s : State} {m : MethodId} {below : List Frame} {meth : Method} {c : Code} {D : va_G} {q : ClassId × ClassId × ClassId × ClassId} {ad : Nat → Nat → Nat} {t : Nat × Nat} {aK aV : Nat → Nat} {args : Array Value} (S : CallFix p m c cX2_seek 6 s args GW "OnChin$Film") (V : EvC D q ad t aK aV s) (hr : meth.sig.returnType = none) (hlocks : meth.locks = false) (o1 : Nat) (x2 : Int32) (ho1 : o1 < 3) (post : St → Prop)  : ∀ (σ : St) (H : Heap) (locs : List Loc) (ls : Array Slot), wp_X2_seek o1 x2 post  σ → wo D clA LC ad s.heap H locs (EC q ad σ) → lv_has ls 6 [(0, .ref (ad 19 0)), (1, .ref (ad 6 o1)), (2, .int x2)] → W p l e { frames := 4, cells := 0, slots := 0, locals := 86 } s m args below meth c H locs 0 0 (MQ below (zQv D clA LC ad (EC q ad) post) args s 0 0 (zA LC ad)) (F0 m 0 ls []) := by
  have hx := S.1
  have hb := S.2.1
  intro  σ H locs ls h  hw hl
  refine lv_aload_n hx hb dX2_seek_0 rfl (lv_at hl 1 rfl) ?_
  refine lv_iconst (v := 0) hx hb dX2_seek_1 (by decide) ?_
  refine lv_aload_n hx hb dX2_seek_2 rfl (lv_at hl 0 rfl) ?_
  refine gC_19_9 S V hw (Nat.le_of_ble_eq_true rfl) fl_X2_40 dX2_seek_3 ?_
  refine lv_iconst (v := 0) hx hb dX2_seek_6 (by decide) ?_
  refine lv_bipush (v := 10) hx hb dX2_seek_7 (by decide) ?_
  refine x_copy S V.1 V.2.1 hw hl.1 ml_X2_43 wn_arraycopy ws_arraycopy wi_J10 (kC_6 ho1) (kC_6 (Nat.le_of_ble_eq_true rfl)) rfl rfl 0 rfl (by decide) (by decide) (by decide) (Nat.le_of_ble_eq_true rfl) (Nat.le_of_ble_eq_true rfl) (Nat.le_of_ble_eq_true rfl) (Nat.le_of_ble_eq_true rfl) dX2_seek_9 (f' := EC q ad (sr σ 6 2 (va_cpy (fun i => σ 6 o1 i) (fun i => σ 6 2 i) 0 0 10))) (by show Sum.inl _ = _; rw [sr_row]; try rfl) EC_sr (fun H locs hw => ?_)
  refine lv_aload_n hx hb dX2_seek_12 rfl (lv_at hl 0 rfl) ?_
  refine gC_19_7 S V hw (Nat.le_of_ble_eq_true rfl) fl_X2_33 dX2_seek_13 ?_
  refine lv_aload_n hx hb dX2_seek_16 rfl (lv_at hl 0 rfl) ?_
  refine gC_19_0 S V hw (Nat.le_of_ble_eq_true rfl) fl_X2_9 (sr_nc rfl) dX2_seek_17 ?_
  refine lv_iload_n hx hb dX2_seek_20 rfl (lv_at hl 2 rfl) ?_
  refine sC_20 S V hw (Nat.le_of_ble_eq_true rfl) h.1 dX2_seek_21 (fun H locs hw => ?_)
  have h := h.2
  refine lv_aload_n hx hb dX2_seek_22 rfl (lv_at hl 0 rfl) ?_
  refine lv_iconst (v := 0) hx hb dX2_seek_23 (by decide) ?_
  refine pC_19_1 S V hw (Nat.le_of_ble_eq_true rfl) fl_X2_15 dX2_seek_24 (fun H locs hw => ?_)
  refine lv_aload_n hx hb dX2_seek_27 rfl (lv_at hl 0 rfl) ?_
  refine lv_iconst (v := (-1)) hx hb dX2_seek_28 (by decide) ?_
  refine pC_19_2 S V hw (Nat.le_of_ble_eq_true rfl) fl_X2_18 dX2_seek_29 (fun H locs hw => ?_)
  refine lv_aload_n hx hb dX2_seek_32 rfl (lv_at hl 0 rfl) ?_
  refine lv_iconst (v := (-1)) hx hb dX2_seek_33 (by decide) ?_
  refine pC_19_3 S V hw (Nat.le_of_ble_eq_true rfl) fl_X2_21 dX2_seek_34 (fun H locs hw => ?_)
  refine lv_aload_n hx hb dX2_seek_37 rfl (lv_at hl 0 rfl) ?_
  refine lv_iconst (v := (-1)) hx hb dX2_seek_38 (by decide) ?_
  refine pC_19_4 S V hw (Nat.le_of_ble_eq_true rfl) fl_X2_24 dX2_seek_39 (fun H locs hw => ?_)
  refine lv_iconst (v := 0) hx hb dX2_seek_42 (by decide) ?_
  refine lv_istore_n (lv' := [(3, .int 0), (0, .ref (ad 19 0)), (1, .ref (ad 6 o1)), (2, .int x2)]) hx hb dX2_seek_43 rfl hl (by decide) rfl (fun ls hl => ?_)
  obtain ⟨n9, h⟩ := h
  exact wk_X2_seek_44 S V hr hlocks o1 x2 ho1  post  n9 0 _ _ _ _ h  hw (lv_sub hl [1, 2, 3, 0] rfl)
theorem mt_X2_seek (l : Launch) (D : va_G) (q : ClassId × ClassId × ClassId × ClassId) (ad : Nat → Nat → Nat) (t : Nat × Nat) (aK aV : Nat → Nat) (o1 : Nat) (x2 : Int32) (ho1 : o1 < 3) (σ : St) (post : St → Prop) (h : wp_X2_seek o1 x2 post σ) : cV l D clA LC ad (EC q ad) (EvC D q ad t aK aV) yX2_seek cX2_seek 6 none { frames := 4, cells := 0, slots := 0, locals := 86 } [.ref (ad 19 0), .ref (ad 6 o1), .int x2] σ post :=
  ent_v (by decide) (Nat.le_of_ble_eq_true rfl) (fun p e s m below meth c S V hr hlocks hw ls hl => wk_X2_seek_0 S V hr hlocks o1 x2 ho1 post   σ _ _ ls h  hw (lv_sub hl [0, 1, 2] rfl))
def wp_X3_isOpen_46 (x1 : Int32) (x2 : Int32) (x3 : Int32) (post : Int32 → St → Prop) (xs0 : Int32) (σ : St) : Prop := (narrow .boolean (.int xs0) = .int xs0 ∧ post xs0 σ)
set_option maxHeartbeats 4000000 in
set_option maxRecDepth 100000 in
theorem wk_X3_isOpen_46 {p : Program} {l : Launch} {e : Env} {s : State} {m : MethodId} {below : List Frame} {meth : Method} {c : Code} {D : va_G} {q : ClassId × ClassId × ClassId × ClassId} {ad : Nat → Nat → Nat} {t : Nat × Nat} {aK aV : Nat → Nat} {args : Array Value} (S : CallFix p m c cX3_isOpen 5 s args GW "OnChin$House") (V : EvC D q ad t aK aV s) (hr : meth.sig.returnType = (some .boolean)) (hlocks : meth.locks = false) (x1 : Int32) (x2 : Int32) (x3 : Int32) (post : Int32 → St → Prop)  : ∀ (xs0 : Int32) (σ : St) (H : Heap) (locs : List Loc) (ls : Array Slot), wp_X3_isOpen_46 x1 x2 x3 post xs0 σ → wo D clA LC ad s.heap H locs (EC q ad σ) → lv_has ls 5 [(0, .ref (ad 22 0)), (1, .int x1), (2, .int x2), (3, .int x3)] → W p l e { frames := 0, cells := 0, slots := 0, locals := 0 } s m args below meth c H locs 0 0 (MQ below (zQi D clA LC ad (EC q ad) post) args s 0 0 (zA LC ad)) (F0 m 46 ls [.int xs0]) := by
  have hx := S.1
  have hb := S.2.1
  intro xs0 σ H locs ls h  hw hl
  exact ret_z S hr hlocks hw h.1 h.2 dX3_isOpen_46
def wp_X3_isOpen_45 (x1 : Int32) (x2 : Int32) (x3 : Int32) (post : Int32 → St → Prop)  (σ : St) : Prop := wp_X3_isOpen_46 x1 x2 x3 post 0 σ
set_option maxHeartbeats 4000000 in
set_option maxRecDepth 100000 in
theorem wk_X3_isOpen_45 {p : Program} {l : Launch} {e : Env} {s : State} {m : MethodId} {below : List Frame} {meth : Method} {c : Code} {D : va_G} {q : ClassId × ClassId × ClassId × ClassId} {ad : Nat → Nat → Nat} {t : Nat × Nat} {aK aV : Nat → Nat} {args : Array Value} (S : CallFix p m c cX3_isOpen 5 s args GW "OnChin$House") (V : EvC D q ad t aK aV s) (hr : meth.sig.returnType = (some .boolean)) (hlocks : meth.locks = false) (x1 : Int32) (x2 : Int32) (x3 : Int32) (post : Int32 → St → Prop)  : ∀ (σ : St) (H : Heap) (locs : List Loc) (ls : Array Slot), wp_X3_isOpen_45 x1 x2 x3 post  σ → wo D clA LC ad s.heap H locs (EC q ad σ) → lv_has ls 5 [(0, .ref (ad 22 0)), (1, .int x1), (2, .int x2), (3, .int x3)] → W p l e { frames := 0, cells := 0, slots := 0, locals := 0 } s m args below meth c H locs 0 0 (MQ below (zQi D clA LC ad (EC q ad) post) args s 0 0 (zA LC ad)) (F0 m 45 ls []) := by
  have hx := S.1
  have hb := S.2.1
  intro  σ H locs ls h  hw hl
  have h : wp_X3_isOpen_46 x1 x2 x3 post 0 σ := h
  refine lv_iconst (v := 0) hx hb dX3_isOpen_45 (by decide) ?_
  exact wk_X3_isOpen_46 S V hr hlocks x1 x2 x3   post  0 _ _ _ _ h  hw (lv_sub hl [0, 1, 2, 3] rfl)
def wp_X3_isOpen_24 (x1 : Int32) (x2 : Int32) (x3 : Int32) (post : Int32 → St → Prop) (xs0 : Int32) (σ : St) : Prop := (vp_in x1 36 ∧ ((x2 < (σ 23 0 x1.toNatClampNeg) → wp_X3_isOpen_45 x1 x2 x3 post  σ) ∧ (¬ x2 < (σ 23 0 x1.toNatClampNeg) → ((¬ xs0 = 0 → wp_X3_isOpen_45 x1 x2 x3 post  σ) ∧ (xs0 = 0 → wp_X3_isOpen_46 x1 x2 x3 post 1 σ)))))
set_option maxHeartbeats 4000000 in
set_option maxRecDepth 100000 in
theorem wk_X3_isOpen_24 {p : Program} {l : Launch} {e : Env} {s : State} {m : MethodId} {below : List Frame} {meth : Method} {c : Code} {D : va_G} {q : ClassId × ClassId × ClassId × ClassId} {ad : Nat → Nat → Nat} {t : Nat × Nat} {aK aV : Nat → Nat} {args : Array Value} (S : CallFix p m c cX3_isOpen 5 s args GW "OnChin$House") (V : EvC D q ad t aK aV s) (hr : meth.sig.returnType = (some .boolean)) (hlocks : meth.locks = false) (x1 : Int32) (x2 : Int32) (x3 : Int32) (post : Int32 → St → Prop)  : ∀ (xs0 : Int32) (σ : St) (H : Heap) (locs : List Loc) (ls : Array Slot), wp_X3_isOpen_24 x1 x2 x3 post xs0 σ → wo D clA LC ad s.heap H locs (EC q ad σ) → lv_has ls 5 [(0, .ref (ad 22 0)), (1, .int x1), (2, .int x2), (3, .int x3)] → W p l e { frames := 0, cells := 0, slots := 0, locals := 0 } s m args below meth c H locs 0 0 (MQ below (zQi D clA LC ad (EC q ad) post) args s 0 0 (zA LC ad)) (F0 m 24 ls [.int xs0]) := by
  have hx := S.1
  have hb := S.2.1
  intro xs0 σ H locs ls h  hw hl
  refine lv_istore (lv' := [(4, .int xs0), (0, .ref (ad 22 0)), (1, .int x1), (2, .int x2), (3, .int x3)]) hx hb dX3_isOpen_24 hl (by decide) rfl (fun ls hl => ?_)
  refine lv_aload_n hx hb dX3_isOpen_26 rfl (lv_at hl 1 rfl) ?_
  refine gC_22_0 S V hw (Nat.le_of_ble_eq_true rfl) fl_X3_9 dX3_isOpen_27 ?_
  refine lv_iload_n hx hb dX3_isOpen_30 rfl (lv_at hl 2 rfl) ?_
  refine aC_23 S V hw (Nat.le_of_ble_eq_true rfl) h.1 (z := (σ 23 0 x1.toNatClampNeg)) rfl dX3_isOpen_31 ?_
  have h := h.2
  refine lv_iload_n hx hb dX3_isOpen_32 rfl (lv_at hl 3 rfl) ?_
  refine lv_icmp_gt (tgt := 45) hx hb dX3_isOpen_33 (by decide) (fun hc => ?_) (fun hc => ?_)
  · have h := h.1 hc
    exact wk_X3_isOpen_45 S V hr hlocks x1 x2 x3   post   _ _ _ _ h  hw (lv_sub hl [1, 2, 3, 4] rfl)
  · have h := h.2 hc
    refine lv_iload hx hb dX3_isOpen_36 (lv_at hl 0 rfl) ?_
    refine lv_if_ne (tgt := 45) hx hb dX3_isOpen_38 (by decide) (fun hc => ?_) (fun hc => ?_)
    · have h := h.1 hc
      exact wk_X3_isOpen_45 S V hr hlocks x1 x2 x3   post   _ _ _ _ h  hw (lv_sub hl [1, 2, 3, 4] rfl)
    · have h := h.2 hc
      refine lv_iconst (v := 1) hx hb dX3_isOpen_41 (by decide) ?_
      refine lv_goto (tgt := 46) hx hb dX3_isOpen_42 (by decide) ?_
      exact wk_X3_isOpen_46 S V hr hlocks x1 x2 x3   post  1 _ _ _ _ h  hw (lv_sub hl [1, 2, 3, 4] rfl)
def wp_X3_isOpen_23 (x1 : Int32) (x2 : Int32) (x3 : Int32) (post : Int32 → St → Prop)  (σ : St) : Prop := wp_X3_isOpen_24 x1 x2 x3 post 0 σ
set_option maxHeartbeats 4000000 in
set_option maxRecDepth 100000 in
theorem wk_X3_isOpen_23 {p : Program} {l : Launch} {e : Env} {s : State} {m : MethodId} {below : List Frame} {meth : Method} {c : Code} {D : va_G} {q : ClassId × ClassId × ClassId × ClassId} {ad : Nat → Nat → Nat} {t : Nat × Nat} {aK aV : Nat → Nat} {args : Array Value} (S : CallFix p m c cX3_isOpen 5 s args GW "OnChin$House") (V : EvC D q ad t aK aV s) (hr : meth.sig.returnType = (some .boolean)) (hlocks : meth.locks = false) (x1 : Int32) (x2 : Int32) (x3 : Int32) (post : Int32 → St → Prop)  : ∀ (σ : St) (H : Heap) (locs : List Loc) (ls : Array Slot), wp_X3_isOpen_23 x1 x2 x3 post  σ → wo D clA LC ad s.heap H locs (EC q ad σ) → lv_has ls 5 [(0, .ref (ad 22 0)), (1, .int x1), (2, .int x2), (3, .int x3)] → W p l e { frames := 0, cells := 0, slots := 0, locals := 0 } s m args below meth c H locs 0 0 (MQ below (zQi D clA LC ad (EC q ad) post) args s 0 0 (zA LC ad)) (F0 m 23 ls []) := by
  have hx := S.1
  have hb := S.2.1
  intro  σ H locs ls h  hw hl
  have h : wp_X3_isOpen_24 x1 x2 x3 post 0 σ := h
  refine lv_iconst (v := 0) hx hb dX3_isOpen_23 (by decide) ?_
  exact wk_X3_isOpen_24 S V hr hlocks x1 x2 x3   post  0 _ _ _ _ h  hw (lv_sub hl [0, 1, 2, 3] rfl)
def wp_X3_isOpen (x1 : Int32) (x2 : Int32) (x3 : Int32) (post : Int32 → St → Prop)  (σ : St) : Prop := (vp_in x1 36 ∧ (((σ 24 0 x1.toNatClampNeg) = 0 → wp_X3_isOpen_23 x1 x2 x3 post  σ) ∧ (¬ (σ 24 0 x1.toNatClampNeg) = 0 → (vp_in x1 36 ∧ ((x3 < (σ 24 0 x1.toNatClampNeg) → wp_X3_isOpen_23 x1 x2 x3 post  σ) ∧ (¬ x3 < (σ 24 0 x1.toNatClampNeg) → wp_X3_isOpen_24 x1 x2 x3 post 1 σ))))))
set_option maxHeartbeats 4000000 in
set_option maxRecDepth 100000 in
theorem wk_X3_isOpen_0 {p : Program} {l : Launch} {e : Env} {s : State} {m : MethodId} {below : List Frame} {meth : Method} {c : Code} {D : va_G} {q : ClassId × ClassId × ClassId × ClassId} {ad : Nat → Nat → Nat} {t : Nat × Nat} {aK aV : Nat → Nat} {args : Array Value} (S : CallFix p m c cX3_isOpen 5 s args GW "OnChin$House") (V : EvC D q ad t aK aV s) (hr : meth.sig.returnType = (some .boolean)) (hlocks : meth.locks = false) (x1 : Int32) (x2 : Int32) (x3 : Int32) (post : Int32 → St → Prop)  : ∀ (σ : St) (H : Heap) (locs : List Loc) (ls : Array Slot), wp_X3_isOpen x1 x2 x3 post  σ → wo D clA LC ad s.heap H locs (EC q ad σ) → lv_has ls 5 [(0, .ref (ad 22 0)), (1, .int x1), (2, .int x2), (3, .int x3)] → W p l e { frames := 0, cells := 0, slots := 0, locals := 0 } s m args below meth c H locs 0 0 (MQ below (zQi D clA LC ad (EC q ad) post) args s 0 0 (zA LC ad)) (F0 m 0 ls []) := by
  have hx := S.1
  have hb := S.2.1
  intro  σ H locs ls h  hw hl
  refine lv_aload_n hx hb dX3_isOpen_0 rfl (lv_at hl 0 rfl) ?_
  refine gC_22_1 S V hw (Nat.le_of_ble_eq_true rfl) fl_X3_15 dX3_isOpen_1 ?_
  refine lv_iload_n hx hb dX3_isOpen_4 rfl (lv_at hl 1 rfl) ?_
  refine aC_24 S V hw (Nat.le_of_ble_eq_true rfl) h.1 (z := (σ 24 0 x1.toNatClampNeg)) rfl dX3_isOpen_5 ?_
  have h := h.2
  refine lv_if_eq (tgt := 23) hx hb dX3_isOpen_6 (by decide) (fun hc => ?_) (fun hc => ?_)
  · have h := h.1 hc
    exact wk_X3_isOpen_23 S V hr hlocks x1 x2 x3   post   _ _ _ _ h  hw (lv_sub hl [0, 1, 2, 3] rfl)
  · have h := h.2 hc
    refine lv_aload_n hx hb dX3_isOpen_9 rfl (lv_at hl 0 rfl) ?_
    refine gC_22_1 S V hw (Nat.le_of_ble_eq_true rfl) fl_X3_15 dX3_isOpen_10 ?_
    refine lv_iload_n hx hb dX3_isOpen_13 rfl (lv_at hl 1 rfl) ?_
    refine aC_24 S V hw (Nat.le_of_ble_eq_true rfl) h.1 (z := (σ 24 0 x1.toNatClampNeg)) rfl dX3_isOpen_14 ?_
    have h := h.2
    refine lv_iload_n hx hb dX3_isOpen_15 rfl (lv_at hl 3 rfl) ?_
    refine lv_icmp_gt (tgt := 23) hx hb dX3_isOpen_16 (by decide) (fun hc => ?_) (fun hc => ?_)
    · have h := h.1 hc
      exact wk_X3_isOpen_23 S V hr hlocks x1 x2 x3   post   _ _ _ _ h  hw (lv_sub hl [0, 1, 2, 3] rfl)
    · have h := h.2 hc
      refine lv_iconst (v := 1) hx hb dX3_isOpen_19 (by decide) ?_
      refine lv_goto (tgt := 24) hx hb dX3_isOpen_20 (by decide) ?_
      exact wk_X3_isOpen_24 S V hr hlocks x1 x2 x3   post  1 _ _ _ _ h  hw (lv_sub hl [0, 1, 2, 3] rfl)
theorem mt_X3_isOpen (l : Launch) (D : va_G) (q : ClassId × ClassId × ClassId × ClassId) (ad : Nat → Nat → Nat) (t : Nat × Nat) (aK aV : Nat → Nat) (x1 : Int32) (x2 : Int32) (x3 : Int32) (σ : St) (post : Int32 → St → Prop) (h : wp_X3_isOpen x1 x2 x3 post σ) : cI l D clA LC ad (EC q ad) (EvC D q ad t aK aV) yX3_isOpen cX3_isOpen 5 (some .boolean) { frames := 0, cells := 0, slots := 0, locals := 0 } [.ref (ad 22 0), .int x1, .int x2, .int x3] σ post :=
  ent_i (by decide) (Nat.le_of_ble_eq_true rfl) (fun p e s m below meth c S V hr hlocks hw ls hl => wk_X3_isOpen_0 S V hr hlocks x1 x2 x3  post   σ _ _ ls h  hw (lv_sub hl [0, 1, 2, 3] rfl))
def wp_X3_enter_94 (x1 : Int32) (x2 : Int32) (x3 : Int32) (post : St → Prop)  (σ : St) : Prop := post σ
set_option maxHeartbeats 4000000 in
set_option maxRecDepth 100000 in
theorem wk_X3_enter_94 {p : Program} {l : Launch} {e : Env} {s : State} {m : MethodId} {below : List Frame} {meth : Method} {c : Code} {D : va_G} {q : ClassId × ClassId × ClassId × ClassId} {ad : Nat → Nat → Nat} {t : Nat × Nat} {aK aV : Nat → Nat} {args : Array Value} (S : CallFix p m c cX3_enter 5 s args GW "OnChin$House") (V : EvC D q ad t aK aV s) (hr : meth.sig.returnType = none) (hlocks : meth.locks = false) (x1 : Int32) (x2 : Int32) (x3 : Int32) (post : St → Prop)  : ∀ (σ : St) (H : Heap) (locs : List Loc) (ls : Array Slot), wp_X3_enter_94 x1 x2 x3 post  σ → wo D clA LC ad s.heap H locs (EC q ad σ) → lv_has ls 5 [(0, .ref (ad 22 0)), (1, .int x1), (2, .int x2), (3, .int x3)] → W p l e { frames := 1, cells := 0, slots := 0, locals := 21 } s m args below meth c H locs 0 0 (MQ below (zQv D clA LC ad (EC q ad) post) args s 0 0 (zA LC ad)) (F0 m 94 ls []) := by
  have hx := S.1
  have hb := S.2.1
  intro  σ H locs ls h  hw hl
  exact ret_v S hr hlocks hw h dX3_enter_94
def wp_X3_enter_67 (x1 : Int32) (x2 : Int32) (x3 : Int32) (post : St → Prop) (x4 : Int32) (σ : St) : Prop := (vp_in x1 36 ∧ ((¬ (σ 25 0 x1.toNatClampNeg) = x2 → wp_X3_enter_94 x1 x2 x3 post  σ) ∧ ((σ 25 0 x1.toNatClampNeg) = x2 → (vp_in x1 36 ∧ (vp_in x1 36 ∧ wp_X3_enter_94 x1 x2 x3 post  (su σ 26 0 x1.toNatClampNeg (if x4 < (σ 26 0 x1.toNatClampNeg) then x4 else (σ 26 0 x1.toNatClampNeg))))))))
set_option maxHeartbeats 4000000 in
set_option maxRecDepth 100000 in
theorem wk_X3_enter_67 {p : Program} {l : Launch} {e : Env} {s : State} {m : MethodId} {below : List Frame} {meth : Method} {c : Code} {D : va_G} {q : ClassId × ClassId × ClassId × ClassId} {ad : Nat → Nat → Nat} {t : Nat × Nat} {aK aV : Nat → Nat} {args : Array Value} (S : CallFix p m c cX3_enter 5 s args GW "OnChin$House") (V : EvC D q ad t aK aV s) (hr : meth.sig.returnType = none) (hlocks : meth.locks = false) (x1 : Int32) (x2 : Int32) (x3 : Int32) (post : St → Prop)  : ∀ (x4 : Int32) (σ : St) (H : Heap) (locs : List Loc) (ls : Array Slot), wp_X3_enter_67 x1 x2 x3 post x4 σ → wo D clA LC ad s.heap H locs (EC q ad σ) → lv_has ls 5 [(0, .ref (ad 22 0)), (1, .int x1), (2, .int x2), (3, .int x3), (4, .int x4)] → W p l e { frames := 1, cells := 0, slots := 0, locals := 21 } s m args below meth c H locs 0 0 (MQ below (zQv D clA LC ad (EC q ad) post) args s 0 0 (zA LC ad)) (F0 m 67 ls []) := by
  have hx := S.1
  have hb := S.2.1
  intro x4 σ H locs ls h  hw hl
  refine lv_aload_n hx hb dX3_enter_67 rfl (lv_at hl 0 rfl) ?_
  refine gC_22_2 S V hw (Nat.le_of_ble_eq_true rfl) fl_X3_18 dX3_enter_68 ?_
  refine lv_iload_n hx hb dX3_enter_71 rfl (lv_at hl 1 rfl) ?_
  refine aC_25 S V hw (Nat.le_of_ble_eq_true rfl) h.1 (z := (σ 25 0 x1.toNatClampNeg)) rfl dX3_enter_72 ?_
  have h := h.2
  refine lv_iload_n hx hb dX3_enter_73 rfl (lv_at hl 2 rfl) ?_
  refine lv_icmp_ne (tgt := 94) hx hb dX3_enter_74 (by decide) (fun hc => ?_) (fun hc => ?_)
  · have h := h.1 hc
    exact wk_X3_enter_94 S V hr hlocks x1 x2 x3   post   _ _ _ _ h  hw (lv_sub hl [0, 1, 2, 3] rfl)
  · have h := h.2 hc
    refine lv_aload_n hx hb dX3_enter_77 rfl (lv_at hl 0 rfl) ?_
    refine gC_22_3 S V hw (Nat.le_of_ble_eq_true rfl) fl_X3_21 dX3_enter_78 ?_
    refine lv_iload_n hx hb dX3_enter_81 rfl (lv_at hl 1 rfl) ?_
    refine lv_aload_n hx hb dX3_enter_82 rfl (lv_at hl 0 rfl) ?_
    refine gC_22_3 S V hw (Nat.le_of_ble_eq_true rfl) fl_X3_21 dX3_enter_83 ?_
    refine lv_iload_n hx hb dX3_enter_86 rfl (lv_at hl 1 rfl) ?_
    refine aC_26 S V hw (Nat.le_of_ble_eq_true rfl) h.1 (z := (σ 26 0 x1.toNatClampNeg)) rfl dX3_enter_87 ?_
    have h := h.2
    refine lv_iload hx hb dX3_enter_88 (lv_at hl 4 rfl) ?_
    refine x_min S hl.1 ml_X3_43 ws_min wi_J9 wc_min (Nat.le_of_ble_eq_true rfl) (Nat.le_of_ble_eq_true rfl) dX3_enter_90 ?_
    refine sC_26 S V hw (Nat.le_of_ble_eq_true rfl) h.1 dX3_enter_93 (fun H locs hw => ?_)
    have h := h.2
    exact wk_X3_enter_94 S V hr hlocks x1 x2 x3   post   _ _ _ _ h  hw (lv_sub hl [0, 1, 2, 3] rfl)
def wp_X3_enter (x1 : Int32) (x2 : Int32) (x3 : Int32) (post : St → Prop)  (σ : St) : Prop := (vp_in x1 36 ∧ (vp_in x1 36 ∧ ((¬ (σ 25 0 x1.toNatClampNeg) = (-1) → wp_X3_enter_67 x1 x2 x3 post (x3 + (σ 23 0 x1.toNatClampNeg)) σ) ∧ ((σ 25 0 x1.toNatClampNeg) = (-1) → ((36 ≤ (σ 22 0 5) → wp_X3_enter_67 x1 x2 x3 post (x3 + (σ 23 0 x1.toNatClampNeg)) σ) ∧ (¬ 36 ≤ (σ 22 0 5) → (vp_in x1 36 ∧ (vp_in x1 36 ∧ (vp_in (σ 22 0 5) 36 ∧ wp_X3_enter_94 x1 x2 x3 post  (su (su (su (su σ 25 0 x1.toNatClampNeg x2) 26 0 x1.toNatClampNeg (x3 + (σ 23 0 x1.toNatClampNeg))) 27 0 ((σ 22 0 5).toNatClampNeg) x1) 22 0 5 ((σ 22 0 5) + 1)))))))))))
set_option maxHeartbeats 4000000 in
set_option maxRecDepth 100000 in
theorem wk_X3_enter_0 {p : Program} {l : Launch} {e : Env} {s : State} {m : MethodId} {below : List Frame} {meth : Method} {c : Code} {D : va_G} {q : ClassId × ClassId × ClassId × ClassId} {ad : Nat → Nat → Nat} {t : Nat × Nat} {aK aV : Nat → Nat} {args : Array Value} (S : CallFix p m c cX3_enter 5 s args GW "OnChin$House") (V : EvC D q ad t aK aV s) (hr : meth.sig.returnType = none) (hlocks : meth.locks = false) (x1 : Int32) (x2 : Int32) (x3 : Int32) (post : St → Prop)  : ∀ (σ : St) (H : Heap) (locs : List Loc) (ls : Array Slot), wp_X3_enter x1 x2 x3 post  σ → wo D clA LC ad s.heap H locs (EC q ad σ) → lv_has ls 5 [(0, .ref (ad 22 0)), (1, .int x1), (2, .int x2), (3, .int x3)] → W p l e { frames := 1, cells := 0, slots := 0, locals := 21 } s m args below meth c H locs 0 0 (MQ below (zQv D clA LC ad (EC q ad) post) args s 0 0 (zA LC ad)) (F0 m 0 ls []) := by
  have hx := S.1
  have hb := S.2.1
  intro  σ H locs ls h  hw hl
  refine lv_iload_n hx hb dX3_enter_0 rfl (lv_at hl 3 rfl) ?_
  refine lv_aload_n hx hb dX3_enter_1 rfl (lv_at hl 0 rfl) ?_
  refine gC_22_0 S V hw (Nat.le_of_ble_eq_true rfl) fl_X3_9 dX3_enter_2 ?_
  refine lv_iload_n hx hb dX3_enter_5 rfl (lv_at hl 1 rfl) ?_
  refine aC_23 S V hw (Nat.le_of_ble_eq_true rfl) h.1 (z := (σ 23 0 x1.toNatClampNeg)) rfl dX3_enter_6 ?_
  have h := h.2
  refine lv_iadd hx hb dX3_enter_7 ?_
  refine lv_istore (lv' := [(4, .int (x3 + (σ 23 0 x1.toNatClampNeg))), (0, .ref (ad 22 0)), (1, .int x1), (2, .int x2), (3, .int x3)]) hx hb dX3_enter_8 hl (by decide) rfl (fun ls hl => ?_)
  refine lv_aload_n hx hb dX3_enter_10 rfl (lv_at hl 1 rfl) ?_
  refine gC_22_2 S V hw (Nat.le_of_ble_eq_true rfl) fl_X3_18 dX3_enter_11 ?_
  refine lv_iload_n hx hb dX3_enter_14 rfl (lv_at hl 2 rfl) ?_
  refine aC_25 S V hw (Nat.le_of_ble_eq_true rfl) h.1 (z := (σ 25 0 x1.toNatClampNeg)) rfl dX3_enter_15 ?_
  have h := h.2
  refine lv_iconst (v := (-1)) hx hb dX3_enter_16 (by decide) ?_
  refine lv_icmp_ne (tgt := 67) hx hb dX3_enter_17 (by decide) (fun hc => ?_) (fun hc => ?_)
  · have h := h.1 hc
    exact wk_X3_enter_67 S V hr hlocks x1 x2 x3   post  (x3 + (σ 23 0 x1.toNatClampNeg)) _ _ _ _ h  hw (lv_sub hl [1, 2, 3, 4, 0] rfl)
  · have h := h.2 hc
    refine lv_aload_n hx hb dX3_enter_20 rfl (lv_at hl 1 rfl) ?_
    refine gC_22_5 S V hw (Nat.le_of_ble_eq_true rfl) fl_X3_27 rfl dX3_enter_21 ?_
    refine lv_bipush (v := 36) hx hb dX3_enter_24 (by decide) ?_
    refine lv_icmp_ge (tgt := 67) hx hb dX3_enter_26 (by decide) (fun hc => ?_) (fun hc => ?_)
    · have h := h.1 hc
      exact wk_X3_enter_67 S V hr hlocks x1 x2 x3   post  (x3 + (σ 23 0 x1.toNatClampNeg)) _ _ _ _ h  hw (lv_sub hl [1, 2, 3, 4, 0] rfl)
    · have h := h.2 hc
      refine lv_aload_n hx hb dX3_enter_29 rfl (lv_at hl 1 rfl) ?_
      refine gC_22_2 S V hw (Nat.le_of_ble_eq_true rfl) fl_X3_18 dX3_enter_30 ?_
      refine lv_iload_n hx hb dX3_enter_33 rfl (lv_at hl 2 rfl) ?_
      refine lv_iload_n hx hb dX3_enter_34 rfl (lv_at hl 3 rfl) ?_
      refine sC_25 S V hw (Nat.le_of_ble_eq_true rfl) h.1 dX3_enter_35 (fun H locs hw => ?_)
      have h := h.2
      refine lv_aload_n hx hb dX3_enter_36 rfl (lv_at hl 1 rfl) ?_
      refine gC_22_3 S V hw (Nat.le_of_ble_eq_true rfl) fl_X3_21 dX3_enter_37 ?_
      refine lv_iload_n hx hb dX3_enter_40 rfl (lv_at hl 2 rfl) ?_
      refine lv_iload hx hb dX3_enter_41 (lv_at hl 0 rfl) ?_
      refine sC_26 S V hw (Nat.le_of_ble_eq_true rfl) h.1 dX3_enter_43 (fun H locs hw => ?_)
      have h := h.2
      refine lv_aload_n hx hb dX3_enter_44 rfl (lv_at hl 1 rfl) ?_
      refine gC_22_4 S V hw (Nat.le_of_ble_eq_true rfl) fl_X3_24 dX3_enter_45 ?_
      refine lv_aload_n hx hb dX3_enter_48 rfl (lv_at hl 1 rfl) ?_
      refine gC_22_5 S V hw (Nat.le_of_ble_eq_true rfl) fl_X3_27 ((su_nc rfl).trans (su_nc rfl)) dX3_enter_49 ?_
      refine lv_iload_n hx hb dX3_enter_52 rfl (lv_at hl 2 rfl) ?_
      refine sC_27 S V hw (Nat.le_of_ble_eq_true rfl) h.1 dX3_enter_53 (fun H locs hw => ?_)
      have h := h.2
      refine lv_aload_n hx hb dX3_enter_54 rfl (lv_at hl 1 rfl) ?_
      refine lv_dup hx hb dX3_enter_55 rfl ?_
      refine gC_22_5 S V hw (Nat.le_of_ble_eq_true rfl) fl_X3_27 ((su_nc rfl).trans ((su_nc rfl).trans (su_nc rfl))) dX3_enter_56 ?_
      refine lv_iconst (v := 1) hx hb dX3_enter_59 (by decide) ?_
      refine lv_iadd hx hb dX3_enter_60 ?_
      refine pC_22_5 S V hw (Nat.le_of_ble_eq_true rfl) fl_X3_27 dX3_enter_61 (fun H locs hw => ?_)
      refine lv_goto (tgt := 94) hx hb dX3_enter_64 (by decide) ?_
      exact wk_X3_enter_94 S V hr hlocks x1 x2 x3   post   _ _ _ _ h  hw (lv_sub hl [1, 2, 3, 4] rfl)
theorem mt_X3_enter (l : Launch) (D : va_G) (q : ClassId × ClassId × ClassId × ClassId) (ad : Nat → Nat → Nat) (t : Nat × Nat) (aK aV : Nat → Nat) (x1 : Int32) (x2 : Int32) (x3 : Int32) (σ : St) (post : St → Prop) (h : wp_X3_enter x1 x2 x3 post σ) : cV l D clA LC ad (EC q ad) (EvC D q ad t aK aV) yX3_enter cX3_enter 5 none { frames := 1, cells := 0, slots := 0, locals := 21 } [.ref (ad 22 0), .int x1, .int x2, .int x3] σ post :=
  ent_v (by decide) (Nat.le_of_ble_eq_true rfl) (fun p e s m below meth c S V hr hlocks hw ls hl => wk_X3_enter_0 S V hr hlocks x1 x2 x3  post   σ _ _ ls h  hw (lv_sub hl [0, 1, 2, 3] rfl))
def wp_X3_beside_46 (x0 : Int32) (x1 : Int32) (post : Int32 → St → Prop) (xs0 : Int32) (σ : St) : Prop := post xs0 σ
set_option maxHeartbeats 4000000 in
set_option maxRecDepth 100000 in
theorem wk_X3_beside_46 {p : Program} {l : Launch} {e : Env} {s : State} {m : MethodId} {below : List Frame} {meth : Method} {c : Code} {D : va_G} {q : ClassId × ClassId × ClassId × ClassId} {ad : Nat → Nat → Nat} {t : Nat × Nat} {aK aV : Nat → Nat} {args : Array Value} (S : CallFix p m c cX3_beside 3 s args GW "OnChin$House") (V : EvC D q ad t aK aV s) (hr : meth.sig.returnType = (some .int)) (hlocks : meth.locks = false) (x0 : Int32) (x1 : Int32) (post : Int32 → St → Prop)  : ∀ (xs0 : Int32) (σ : St) (H : Heap) (locs : List Loc) (ls : Array Slot), wp_X3_beside_46 x0 x1 post xs0 σ → wo D clA LC ad s.heap H locs (EC q ad σ) → lv_has ls 3 [(0, .int x0), (1, .int x1)] → W p l e { frames := 0, cells := 0, slots := 0, locals := 0 } s m args below meth c H locs 0 0 (MQ below (zQi D clA LC ad (EC q ad) post) args s 0 0 (zA LC ad)) (F0 m 46 ls [.int xs0]) := by
  have hx := S.1
  have hb := S.2.1
  intro xs0 σ H locs ls h  hw hl
  exact ret_i S hr hlocks hw h dX3_beside_46
def wp_X3_beside_58 (x0 : Int32) (x1 : Int32) (post : Int32 → St → Prop) (xs0 : Int32) (σ : St) : Prop := post xs0 σ
set_option maxHeartbeats 4000000 in
set_option maxRecDepth 100000 in
theorem wk_X3_beside_58 {p : Program} {l : Launch} {e : Env} {s : State} {m : MethodId} {below : List Frame} {meth : Method} {c : Code} {D : va_G} {q : ClassId × ClassId × ClassId × ClassId} {ad : Nat → Nat → Nat} {t : Nat × Nat} {aK aV : Nat → Nat} {args : Array Value} (S : CallFix p m c cX3_beside 3 s args GW "OnChin$House") (V : EvC D q ad t aK aV s) (hr : meth.sig.returnType = (some .int)) (hlocks : meth.locks = false) (x0 : Int32) (x1 : Int32) (post : Int32 → St → Prop)  : ∀ (xs0 : Int32) (σ : St) (H : Heap) (locs : List Loc) (ls : Array Slot), wp_X3_beside_58 x0 x1 post xs0 σ → wo D clA LC ad s.heap H locs (EC q ad σ) → lv_has ls 3 [(0, .int x0), (1, .int x1)] → W p l e { frames := 0, cells := 0, slots := 0, locals := 0 } s m args below meth c H locs 0 0 (MQ below (zQi D clA LC ad (EC q ad) post) args s 0 0 (zA LC ad)) (F0 m 58 ls [.int xs0]) := by
  have hx := S.1
  have hb := S.2.1
  intro xs0 σ H locs ls h  hw hl
  exact ret_i S hr hlocks hw h dX3_beside_58
def wp_X3_beside_71 (x0 : Int32) (x1 : Int32) (post : Int32 → St → Prop) (xs0 : Int32) (σ : St) : Prop := post xs0 σ
set_option maxHeartbeats 4000000 in
set_option maxRecDepth 100000 in
theorem wk_X3_beside_71 {p : Program} {l : Launch} {e : Env} {s : State} {m : MethodId} {below : List Frame} {meth : Method} {c : Code} {D : va_G} {q : ClassId × ClassId × ClassId × ClassId} {ad : Nat → Nat → Nat} {t : Nat × Nat} {aK aV : Nat → Nat} {args : Array Value} (S : CallFix p m c cX3_beside 3 s args GW "OnChin$House") (V : EvC D q ad t aK aV s) (hr : meth.sig.returnType = (some .int)) (hlocks : meth.locks = false) (x0 : Int32) (x1 : Int32) (post : Int32 → St → Prop)  : ∀ (xs0 : Int32) (σ : St) (H : Heap) (locs : List Loc) (ls : Array Slot), wp_X3_beside_71 x0 x1 post xs0 σ → wo D clA LC ad s.heap H locs (EC q ad σ) → lv_has ls 3 [(0, .int x0), (1, .int x1)] → W p l e { frames := 0, cells := 0, slots := 0, locals := 0 } s m args below meth c H locs 0 0 (MQ below (zQi D clA LC ad (EC q ad) post) args s 0 0 (zA LC ad)) (F0 m 71 ls [.int xs0]) := by
  have hx := S.1
  have hb := S.2.1
  intro xs0 σ H locs ls h  hw hl
  exact ret_i S hr hlocks hw h dX3_beside_71
def wp_X3_beside_86 (x0 : Int32) (x1 : Int32) (post : Int32 → St → Prop) (xs0 : Int32) (σ : St) : Prop := post xs0 σ
set_option maxHeartbeats 4000000 in
set_option maxRecDepth 100000 in
theorem wk_X3_beside_86 {p : Program} {l : Launch} {e : Env} {s : State} {m : MethodId} {below : List Frame} {meth : Method} {c : Code} {D : va_G} {q : ClassId × ClassId × ClassId × ClassId} {ad : Nat → Nat → Nat} {t : Nat × Nat} {aK aV : Nat → Nat} {args : Array Value} (S : CallFix p m c cX3_beside 3 s args GW "OnChin$House") (V : EvC D q ad t aK aV s) (hr : meth.sig.returnType = (some .int)) (hlocks : meth.locks = false) (x0 : Int32) (x1 : Int32) (post : Int32 → St → Prop)  : ∀ (xs0 : Int32) (σ : St) (H : Heap) (locs : List Loc) (ls : Array Slot), wp_X3_beside_86 x0 x1 post xs0 σ → wo D clA LC ad s.heap H locs (EC q ad σ) → lv_has ls 3 [(0, .int x0), (1, .int x1)] → W p l e { frames := 0, cells := 0, slots := 0, locals := 0 } s m args below meth c H locs 0 0 (MQ below (zQi D clA LC ad (EC q ad) post) args s 0 0 (zA LC ad)) (F0 m 86 ls [.int xs0]) := by
  have hx := S.1
  have hb := S.2.1
  intro xs0 σ H locs ls h  hw hl
  exact ret_i S hr hlocks hw h dX3_beside_86
def wp_X3_beside (x0 : Int32) (x1 : Int32) (post : Int32 → St → Prop)  (σ : St) : Prop := ((x1 = 0 → ((x0 < 6 → wp_X3_beside_46 x0 x1 post (-1) σ) ∧ (¬ x0 < 6 → wp_X3_beside_46 x0 x1 post (x0 - 6) σ))) ∧ (¬ x1 = 0 → ((x1 = 1 → (((x0 - x0 / 6 * 6) ≤ 0 → wp_X3_beside_58 x0 x1 post (-1) σ) ∧ (¬ (x0 - x0 / 6 * 6) ≤ 0 → wp_X3_beside_58 x0 x1 post (x0 - 1) σ))) ∧ (¬ x1 = 1 → ((x1 = 2 → ((5 ≤ (x0 - x0 / 6 * 6) → wp_X3_beside_71 x0 x1 post (-1) σ) ∧ (¬ 5 ≤ (x0 - x0 / 6 * 6) → wp_X3_beside_71 x0 x1 post (x0 + 1) σ))) ∧ (¬ x1 = 2 → ((30 ≤ x0 → wp_X3_beside_86 x0 x1 post (-1) σ) ∧ (¬ 30 ≤ x0 → wp_X3_beside_86 x0 x1 post (x0 + 6) σ))))))))
set_option maxHeartbeats 4000000 in
set_option maxRecDepth 100000 in
theorem wk_X3_beside_0 {p : Program} {l : Launch} {e : Env} {s : State} {m : MethodId} {below : List Frame} {meth : Method} {c : Code} {D : va_G} {q : ClassId × ClassId × ClassId × ClassId} {ad : Nat → Nat → Nat} {t : Nat × Nat} {aK aV : Nat → Nat} {args : Array Value} (S : CallFix p m c cX3_beside 3 s args GW "OnChin$House") (V : EvC D q ad t aK aV s) (hr : meth.sig.returnType = (some .int)) (hlocks : meth.locks = false) (x0 : Int32) (x1 : Int32) (post : Int32 → St → Prop)  : ∀ (σ : St) (H : Heap) (locs : List Loc) (ls : Array Slot), wp_X3_beside x0 x1 post  σ → wo D clA LC ad s.heap H locs (EC q ad σ) → lv_has ls 3 [(0, .int x0), (1, .int x1)] → W p l e { frames := 0, cells := 0, slots := 0, locals := 0 } s m args below meth c H locs 0 0 (MQ below (zQi D clA LC ad (EC q ad) post) args s 0 0 (zA LC ad)) (F0 m 0 ls []) := by
  have hx := S.1
  have hb := S.2.1
  intro  σ H locs ls h  hw hl
  refine lv_iload_n hx hb dX3_beside_0 rfl (lv_at hl 0 rfl) ?_
  refine lv_bipush (v := 6) hx hb dX3_beside_1 (by decide) ?_
  refine lv_irem hx hb dX3_beside_3 (by decide) ?_
  refine lv_istore_n (lv' := [(2, .int (x0 - x0 / 6 * 6)), (0, .int x0), (1, .int x1)]) hx hb dX3_beside_4 rfl hl (by decide) rfl (fun ls hl => ?_)
  refine lv_iload_n hx hb dX3_beside_5 rfl (lv_at hl 2 rfl) ?_
  by_cases hc0 : x1 = 0
  · have h := h.1 hc0
    refine lv_tableIn (tgt := 32) hx hb dX3_beside_6 (by rw [hc0]; decide) (by rw [hc0]; decide) (by rw [hc0]; rfl) (by decide) ?_
    refine lv_iload_n hx hb dX3_beside_32 rfl (lv_at hl 1 rfl) ?_
    refine lv_bipush (v := 6) hx hb dX3_beside_33 (by decide) ?_
    refine lv_icmp_lt (tgt := 45) hx hb dX3_beside_35 (by decide) (fun hc => ?_) (fun hc => ?_)
    · have h := h.1 hc
      refine lv_iconst (v := (-1)) hx hb dX3_beside_45 (by decide) ?_
      exact wk_X3_beside_46 S V hr hlocks x0 x1   post  (-1) _ _ _ _ h  hw (lv_sub hl [1, 2] rfl)
    · have h := h.2 hc
      refine lv_iload_n hx hb dX3_beside_38 rfl (lv_at hl 1 rfl) ?_
      refine lv_bipush (v := 6) hx hb dX3_beside_39 (by decide) ?_
      refine lv_isub hx hb dX3_beside_41 ?_
      refine lv_goto (tgt := 46) hx hb dX3_beside_42 (by decide) ?_
      exact wk_X3_beside_46 S V hr hlocks x0 x1   post  (x0 - 6) _ _ _ _ h  hw (lv_sub hl [1, 2] rfl)
  · have h := h.2 hc0
    by_cases hc1 : x1 = 1
    · have h := h.1 hc1
      refine lv_tableIn (tgt := 47) hx hb dX3_beside_6 (by rw [hc1]; decide) (by rw [hc1]; decide) (by rw [hc1]; rfl) (by decide) ?_
      refine lv_iload_n hx hb dX3_beside_47 rfl (lv_at hl 0 rfl) ?_
      refine lv_if_le (tgt := 57) hx hb dX3_beside_48 (by decide) (fun hc => ?_) (fun hc => ?_)
      · have h := h.1 hc
        refine lv_iconst (v := (-1)) hx hb dX3_beside_57 (by decide) ?_
        exact wk_X3_beside_58 S V hr hlocks x0 x1   post  (-1) _ _ _ _ h  hw (lv_sub hl [1, 2] rfl)
      · have h := h.2 hc
        refine lv_iload_n hx hb dX3_beside_51 rfl (lv_at hl 1 rfl) ?_
        refine lv_iconst (v := 1) hx hb dX3_beside_52 (by decide) ?_
        refine lv_isub hx hb dX3_beside_53 ?_
        refine lv_goto (tgt := 58) hx hb dX3_beside_54 (by decide) ?_
        exact wk_X3_beside_58 S V hr hlocks x0 x1   post  (x0 - 1) _ _ _ _ h  hw (lv_sub hl [1, 2] rfl)
    · have h := h.2 hc1
      by_cases hc2 : x1 = 2
      · have h := h.1 hc2
        refine lv_tableIn (tgt := 59) hx hb dX3_beside_6 (by rw [hc2]; decide) (by rw [hc2]; decide) (by rw [hc2]; rfl) (by decide) ?_
        refine lv_iload_n hx hb dX3_beside_59 rfl (lv_at hl 0 rfl) ?_
        refine lv_iconst (v := 5) hx hb dX3_beside_60 (by decide) ?_
        refine lv_icmp_ge (tgt := 70) hx hb dX3_beside_61 (by decide) (fun hc => ?_) (fun hc => ?_)
        · have h := h.1 hc
          refine lv_iconst (v := (-1)) hx hb dX3_beside_70 (by decide) ?_
          exact wk_X3_beside_71 S V hr hlocks x0 x1   post  (-1) _ _ _ _ h  hw (lv_sub hl [1, 2] rfl)
        · have h := h.2 hc
          refine lv_iload_n hx hb dX3_beside_64 rfl (lv_at hl 1 rfl) ?_
          refine lv_iconst (v := 1) hx hb dX3_beside_65 (by decide) ?_
          refine lv_iadd hx hb dX3_beside_66 ?_
          refine lv_goto (tgt := 71) hx hb dX3_beside_67 (by decide) ?_
          exact wk_X3_beside_71 S V hr hlocks x0 x1   post  (x0 + 1) _ _ _ _ h  hw (lv_sub hl [1, 2] rfl)
      · have h := h.2 hc2
        refine lv_tableOut (tgt := 72) hx hb dX3_beside_6 (by have e0 := lv_neT (k := 0) (a := 0) hc0 rfl; have e1 := lv_neT (k := 1) (a := 1) hc1 rfl; have e2 := lv_neT (k := 2) (a := 2) hc2 rfl; omega) (by decide) ?_
        refine lv_iload_n hx hb dX3_beside_72 rfl (lv_at hl 1 rfl) ?_
        refine lv_bipush (v := 30) hx hb dX3_beside_73 (by decide) ?_
        refine lv_icmp_ge (tgt := 85) hx hb dX3_beside_75 (by decide) (fun hc => ?_) (fun hc => ?_)
        · have h := h.1 hc
          refine lv_iconst (v := (-1)) hx hb dX3_beside_85 (by decide) ?_
          exact wk_X3_beside_86 S V hr hlocks x0 x1   post  (-1) _ _ _ _ h  hw (lv_sub hl [1, 2] rfl)
        · have h := h.2 hc
          refine lv_iload_n hx hb dX3_beside_78 rfl (lv_at hl 1 rfl) ?_
          refine lv_bipush (v := 6) hx hb dX3_beside_79 (by decide) ?_
          refine lv_iadd hx hb dX3_beside_81 ?_
          refine lv_goto (tgt := 86) hx hb dX3_beside_82 (by decide) ?_
          exact wk_X3_beside_86 S V hr hlocks x0 x1   post  (x0 + 6) _ _ _ _ h  hw (lv_sub hl [1, 2] rfl)
theorem mt_X3_beside (l : Launch) (D : va_G) (q : ClassId × ClassId × ClassId × ClassId) (ad : Nat → Nat → Nat) (t : Nat × Nat) (aK aV : Nat → Nat) (x0 : Int32) (x1 : Int32) (σ : St) (post : Int32 → St → Prop) (h : wp_X3_beside x0 x1 post σ) : cI l D clA LC ad (EC q ad) (EvC D q ad t aK aV) yX3_beside cX3_beside 3 (some .int) { frames := 0, cells := 0, slots := 0, locals := 0 } [.int x0, .int x1] σ post :=
  ent_i (by decide) (Nat.le_of_ble_eq_true rfl) (fun p e s m below meth c S V hr hlocks hw ls hl => wk_X3_beside_0 S V hr hlocks x0 x1  post   σ _ _ ls h  hw (lv_sub hl [0, 1] rfl))
def wp_X3_walk_157 (x1 : Int32) (x2 : Int32) (x3 : Int32) (post : St → Prop)  (σ : St) : Prop := post σ
set_option maxHeartbeats 4000000 in
set_option maxRecDepth 100000 in
theorem wk_X3_walk_157 {p : Program} {l : Launch} {e : Env} {s : State} {m : MethodId} {below : List Frame} {meth : Method} {c : Code} {D : va_G} {q : ClassId × ClassId × ClassId × ClassId} {ad : Nat → Nat → Nat} {t : Nat × Nat} {aK aV : Nat → Nat} {args : Array Value} (S : CallFix p m c cX3_walk 7 s args GW "OnChin$House") (V : EvC D q ad t aK aV s) (hr : meth.sig.returnType = none) (hlocks : meth.locks = false) (x1 : Int32) (x2 : Int32) (x3 : Int32) (post : St → Prop)  : ∀ (σ : St) (H : Heap) (locs : List Loc) (ls : Array Slot), wp_X3_walk_157 x1 x2 x3 post  σ → wo D clA LC ad s.heap H locs (EC q ad σ) → lv_has ls 7 [(0, .ref (ad 22 0)), (1, .int x1), (2, .int x2), (3, .int x3)] → W p l e { frames := 2, cells := 0, slots := 0, locals := 45 } s m args below meth c H locs 0 0 (MQ below (zQv D clA LC ad (EC q ad) post) args s 0 0 (zA LC ad)) (F0 m 157 ls []) := by
  have hx := S.1
  have hb := S.2.1
  intro  σ H locs ls h  hw hl
  exact ret_v S hr hlocks hw h dX3_walk_157
def wp_X3_walk_145 (x1 : Int32) (x2 : Int32) (x3 : Int32) (K57 : Int32 → St → Prop) (K76 : Int32 → Int32 → St → Prop) (post : St → Prop) (x4 : Int32) (x5 : Int32) (σ : St) : Prop := K76 x4 (x5 + 1) σ
set_option maxHeartbeats 4000000 in
set_option maxRecDepth 100000 in
theorem wk_X3_walk_145 {p : Program} {l : Launch} {e : Env} {s : State} {m : MethodId} {below : List Frame} {meth : Method} {c : Code} {D : va_G} {q : ClassId × ClassId × ClassId × ClassId} {ad : Nat → Nat → Nat} {t : Nat × Nat} {aK aV : Nat → Nat} {args : Array Value} (S : CallFix p m c cX3_walk 7 s args GW "OnChin$House") (V : EvC D q ad t aK aV s) (hr : meth.sig.returnType = none) (hlocks : meth.locks = false) (x1 : Int32) (x2 : Int32) (x3 : Int32) (K57 : Int32 → St → Prop) (K76 : Int32 → Int32 → St → Prop) (post : St → Prop) (hK57 : ∀ (x4 : Int32) (σ : St) (H : Heap) (locs : List Loc) (ls : Array Slot), K57 x4 σ → wo D clA LC ad s.heap H locs (EC q ad σ) → lv_has ls 7 [(0, .ref (ad 22 0)), (1, .int x1), (2, .int x2), (3, .int x3), (4, .int x4)] → W p l e { frames := 2, cells := 0, slots := 0, locals := 45 } s m args below meth c H locs 0 0 (MQ below (zQv D clA LC ad (EC q ad) post) args s 0 0 (zA LC ad)) (F0 m 57 ls [])) (hK76 : ∀ (x4 : Int32) (x5 : Int32) (σ : St) (H : Heap) (locs : List Loc) (ls : Array Slot), K76 x4 x5 σ → wo D clA LC ad s.heap H locs (EC q ad σ) → lv_has ls 7 [(0, .ref (ad 22 0)), (1, .int x1), (2, .int x2), (3, .int x3), (4, .int x4), (5, .int x5)] → W p l e { frames := 2, cells := 0, slots := 0, locals := 45 } s m args below meth c H locs 0 0 (MQ below (zQv D clA LC ad (EC q ad) post) args s 0 0 (zA LC ad)) (F0 m 76 ls [])) : ∀ (x4 : Int32) (x5 : Int32) (σ : St) (H : Heap) (locs : List Loc) (ls : Array Slot), wp_X3_walk_145 x1 x2 x3 K57 K76 post x4 x5 σ → wo D clA LC ad s.heap H locs (EC q ad σ) → lv_has ls 7 [(0, .ref (ad 22 0)), (1, .int x1), (2, .int x2), (3, .int x3), (4, .int x4), (5, .int x5)] → W p l e { frames := 2, cells := 0, slots := 0, locals := 45 } s m args below meth c H locs 0 0 (MQ below (zQv D clA LC ad (EC q ad) post) args s 0 0 (zA LC ad)) (F0 m 145 ls []) := by
  have hx := S.1
  have hb := S.2.1
  intro x4 x5 σ H locs ls h  hw hl
  refine lv_iinc (v := (x5 + 1)) (lv' := [(5, .int (x5 + 1)), (0, .ref (ad 22 0)), (1, .int x1), (2, .int x2), (3, .int x3), (4, .int x4)]) hx hb dX3_walk_145 hl (k := 5) rfl rfl (by decide) rfl (fun ls hl => ?_)
  refine lv_goto (tgt := 76) hx hb dX3_walk_148 (by decide) ?_
  exact hK76 x4 (x5 + 1) _ _ _ _ h  hw (lv_sub hl [1, 2, 3, 4, 5, 0] rfl)
def wp_X3_walk_76 (x1 : Int32) (x2 : Int32) (x3 : Int32) (K57 : Int32 → St → Prop) (post : St → Prop) : Nat → Int32 → Int32 → St → Prop
  | 0 => fun _ _ _ => False
  | n + 1 => fun x4 x5 σ => ((4 ≤ x5 → K57 (x4 + 1) σ) ∧ (¬ 4 ≤ x5 → (vp_in x4 36 ∧ wp_X3_beside (σ 27 0 x4.toNatClampNeg) x5 (fun r1 σ1 => ((r1 = (-1) → wp_X3_walk_145 x1 x2 x3 K57 (fun y0 y1 τ => wp_X3_walk_76 x1 x2 x3 K57 post n y0 y1 τ) post x4 x5 σ1) ∧ (¬ r1 = (-1) → wp_X3_isOpen r1 x2 x3 (fun r2 σ2 => ((r2 = 0 → wp_X3_walk_145 x1 x2 x3 K57 (fun y0 y1 τ => wp_X3_walk_76 x1 x2 x3 K57 post n y0 y1 τ) post x4 x5 σ2) ∧ (¬ r2 = 0 → (vp_in x4 36 ∧ (vp_in (σ2 27 0 x4.toNatClampNeg) 36 ∧ (vp_in x4 36 ∧ (vp_in (σ2 27 0 x4.toNatClampNeg) 36 ∧ wp_X3_enter r1 ((σ2 25 0 ((σ2 27 0 x4.toNatClampNeg).toNatClampNeg)) + 1) (σ2 26 0 ((σ2 27 0 x4.toNatClampNeg).toNatClampNeg)) (fun σ3 => wp_X3_walk_145 x1 x2 x3 K57 (fun y0 y1 τ => wp_X3_walk_76 x1 x2 x3 K57 post n y0 y1 τ) post x4 x5 σ3) σ2))))))) σ1))) σ)))
set_option maxHeartbeats 4000000 in
set_option maxRecDepth 100000 in
theorem wk_X3_walk_76 {p : Program} {l : Launch} {e : Env} {s : State} {m : MethodId} {below : List Frame} {meth : Method} {c : Code} {D : va_G} {q : ClassId × ClassId × ClassId × ClassId} {ad : Nat → Nat → Nat} {t : Nat × Nat} {aK aV : Nat → Nat} {args : Array Value} (S : CallFix p m c cX3_walk 7 s args GW "OnChin$House") (V : EvC D q ad t aK aV s) (hr : meth.sig.returnType = none) (hlocks : meth.locks = false) (x1 : Int32) (x2 : Int32) (x3 : Int32) (K57 : Int32 → St → Prop) (post : St → Prop) (hK57 : ∀ (x4 : Int32) (σ : St) (H : Heap) (locs : List Loc) (ls : Array Slot), K57 x4 σ → wo D clA LC ad s.heap H locs (EC q ad σ) → lv_has ls 7 [(0, .ref (ad 22 0)), (1, .int x1), (2, .int x2), (3, .int x3), (4, .int x4)] → W p l e { frames := 2, cells := 0, slots := 0, locals := 45 } s m args below meth c H locs 0 0 (MQ below (zQv D clA LC ad (EC q ad) post) args s 0 0 (zA LC ad)) (F0 m 57 ls [])) : ∀ (n : Nat) (x4 : Int32) (x5 : Int32) (σ : St) (H : Heap) (locs : List Loc) (ls : Array Slot), wp_X3_walk_76 x1 x2 x3 K57 post n x4 x5 σ → wo D clA LC ad s.heap H locs (EC q ad σ) → lv_has ls 7 [(0, .ref (ad 22 0)), (1, .int x1), (2, .int x2), (3, .int x3), (4, .int x4), (5, .int x5)] → W p l e { frames := 2, cells := 0, slots := 0, locals := 45 } s m args below meth c H locs 0 0 (MQ below (zQv D clA LC ad (EC q ad) post) args s 0 0 (zA LC ad)) (F0 m 76 ls []) := by
  have hx := S.1
  have hb := S.2.1
  intro n
  induction n with
  | zero => intro x4 x5 σ H locs ls h; exact False.elim h
  | succ n ih =>
    intro x4 x5 σ H locs ls h  hw hl
    refine lv_iload hx hb dX3_walk_76 (lv_at hl 5 rfl) ?_
    refine lv_iconst (v := 4) hx hb dX3_walk_78 (by decide) ?_
    refine lv_icmp_ge (tgt := 151) hx hb dX3_walk_79 (by decide) (fun hc => ?_) (fun hc => ?_)
    · have h := h.1 hc
      refine lv_iinc (v := (x4 + 1)) (lv' := [(4, .int (x4 + 1)), (0, .ref (ad 22 0)), (1, .int x1), (2, .int x2), (3, .int x3), (5, .int x5)]) hx hb dX3_walk_151 hl (k := 4) rfl rfl (by decide) rfl (fun ls hl => ?_)
      refine lv_goto (tgt := 57) hx hb dX3_walk_154 (by decide) ?_
      exact hK57 (x4 + 1) _ _ _ _ h  hw (lv_sub hl [1, 2, 3, 4, 0] rfl)
    · have h := h.2 hc
      refine lv_aload_n hx hb dX3_walk_82 rfl (lv_at hl 0 rfl) ?_
      refine gC_22_4 S V hw (Nat.le_of_ble_eq_true rfl) fl_X3_24 dX3_walk_83 ?_
      refine lv_iload hx hb dX3_walk_86 (lv_at hl 4 rfl) ?_
      refine aC_27 S V hw (Nat.le_of_ble_eq_true rfl) h.1 (z := (σ 27 0 x4.toNatClampNeg)) rfl dX3_walk_88 ?_
      have h := h.2
      refine lv_iload hx hb dX3_walk_89 (lv_at hl 5 rfl) ?_
      refine call_Si (As := [.int (σ 27 0 x4.toNatClampNeg), .int x5]) (rest := []) EvC_ok S V hw (mt_X3_beside l D q ad t aK aV (σ 27 0 x4.toNatClampNeg) x5  σ _ h) ok_X3_beside ml_X3_39 ⟨(Nat.le_of_ble_eq_true rfl), (Nat.le_of_ble_eq_true rfl)⟩ ⟨rfl, rfl⟩ rfl hl.1 rfl (Nat.le_of_ble_eq_true rfl) dX3_walk_91 (fun r1 σ1 H locs h hw => ?_)
      refine lv_istore (lv' := [(6, .int r1), (0, .ref (ad 22 0)), (1, .int x1), (2, .int x2), (3, .int x3), (4, .int x4), (5, .int x5)]) hx hb dX3_walk_94 hl (by decide) rfl (fun ls hl => ?_)
      refine lv_iload hx hb dX3_walk_96 (lv_at hl 0 rfl) ?_
      refine lv_iconst (v := (-1)) hx hb dX3_walk_98 (by decide) ?_
      refine lv_icmp_eq (tgt := 145) hx hb dX3_walk_99 (by decide) (fun hc => ?_) (fun hc => ?_)
      · have h := h.1 hc
        exact wk_X3_walk_145 S V hr hlocks x1 x2 x3  K57 (fun y0 y1 τ => wp_X3_walk_76 x1 x2 x3 K57 post n y0 y1 τ) post hK57 ih x4 x5 _ _ _ _ h  hw (lv_sub hl [1, 2, 3, 4, 5, 6] rfl)
      · have h := h.2 hc
        refine lv_aload_n hx hb dX3_walk_102 rfl (lv_at hl 1 rfl) ?_
        refine lv_iload hx hb dX3_walk_103 (lv_at hl 0 rfl) ?_
        refine lv_iload_n hx hb dX3_walk_105 rfl (lv_at hl 3 rfl) ?_
        refine lv_iload_n hx hb dX3_walk_106 rfl (lv_at hl 4 rfl) ?_
        refine call_Vi (As := [.int r1, .int x2, .int x3]) (rest := []) EvC_ok S V hw (mt_X3_isOpen l D q ad t aK aV r1 x2 x3  σ1 _ h) ok_X3_isOpen ml_X3_31 (rC_22 S V hw (Nat.le_of_ble_eq_true rfl)) ⟨(Nat.le_of_ble_eq_true rfl), (Nat.le_of_ble_eq_true rfl)⟩ ⟨rfl, rfl⟩ rfl hl.1 rfl (Nat.le_of_ble_eq_true rfl) dX3_walk_107 (fun r2 σ2 H locs h hw => ?_)
        refine lv_if_eq (tgt := 145) hx hb dX3_walk_110 (by decide) (fun hc => ?_) (fun hc => ?_)
        · have h := h.1 hc
          exact wk_X3_walk_145 S V hr hlocks x1 x2 x3  K57 (fun y0 y1 τ => wp_X3_walk_76 x1 x2 x3 K57 post n y0 y1 τ) post hK57 ih x4 x5 _ _ _ _ h  hw (lv_sub hl [1, 2, 3, 4, 5, 6] rfl)
        · have h := h.2 hc
          refine lv_aload_n hx hb dX3_walk_113 rfl (lv_at hl 1 rfl) ?_
          refine lv_iload hx hb dX3_walk_114 (lv_at hl 0 rfl) ?_
          refine lv_aload_n hx hb dX3_walk_116 rfl (lv_at hl 1 rfl) ?_
          refine gC_22_2 S V hw (Nat.le_of_ble_eq_true rfl) fl_X3_18 dX3_walk_117 ?_
          refine lv_aload_n hx hb dX3_walk_120 rfl (lv_at hl 1 rfl) ?_
          refine gC_22_4 S V hw (Nat.le_of_ble_eq_true rfl) fl_X3_24 dX3_walk_121 ?_
          refine lv_iload hx hb dX3_walk_124 (lv_at hl 5 rfl) ?_
          refine aC_27 S V hw (Nat.le_of_ble_eq_true rfl) h.1 (z := (σ2 27 0 x4.toNatClampNeg)) rfl dX3_walk_126 ?_
          have h := h.2
          refine aC_25 S V hw (Nat.le_of_ble_eq_true rfl) h.1 (z := (σ2 25 0 ((σ2 27 0 x4.toNatClampNeg).toNatClampNeg))) rfl dX3_walk_127 ?_
          have h := h.2
          refine lv_iconst (v := 1) hx hb dX3_walk_128 (by decide) ?_
          refine lv_iadd hx hb dX3_walk_129 ?_
          refine lv_aload_n hx hb dX3_walk_130 rfl (lv_at hl 1 rfl) ?_
          refine gC_22_3 S V hw (Nat.le_of_ble_eq_true rfl) fl_X3_21 dX3_walk_131 ?_
          refine lv_aload_n hx hb dX3_walk_134 rfl (lv_at hl 1 rfl) ?_
          refine gC_22_4 S V hw (Nat.le_of_ble_eq_true rfl) fl_X3_24 dX3_walk_135 ?_
          refine lv_iload hx hb dX3_walk_138 (lv_at hl 5 rfl) ?_
          refine aC_27 S V hw (Nat.le_of_ble_eq_true rfl) h.1 (z := (σ2 27 0 x4.toNatClampNeg)) rfl dX3_walk_140 ?_
          have h := h.2
          refine aC_26 S V hw (Nat.le_of_ble_eq_true rfl) h.1 (z := (σ2 26 0 ((σ2 27 0 x4.toNatClampNeg).toNatClampNeg))) rfl dX3_walk_141 ?_
          have h := h.2
          refine call_Vv (As := [.int r1, .int ((σ2 25 0 ((σ2 27 0 x4.toNatClampNeg).toNatClampNeg)) + 1), .int (σ2 26 0 ((σ2 27 0 x4.toNatClampNeg).toNatClampNeg))]) (rest := []) EvC_ok S V hw (mt_X3_enter l D q ad t aK aV r1 ((σ2 25 0 ((σ2 27 0 x4.toNatClampNeg).toNatClampNeg)) + 1) (σ2 26 0 ((σ2 27 0 x4.toNatClampNeg).toNatClampNeg))  σ2 _ h) ok_X3_enter ml_X3_35 (rC_22 S V hw (Nat.le_of_ble_eq_true rfl)) ⟨(Nat.le_of_ble_eq_true rfl), (Nat.le_of_ble_eq_true rfl)⟩ ⟨rfl, rfl⟩ rfl hl.1 rfl (Nat.le_of_ble_eq_true rfl) dX3_walk_142 (fun σ3 H locs h hw => ?_)
          exact wk_X3_walk_145 S V hr hlocks x1 x2 x3  K57 (fun y0 y1 τ => wp_X3_walk_76 x1 x2 x3 K57 post n y0 y1 τ) post hK57 ih x4 x5 _ _ _ _ h  hw (lv_sub hl [1, 2, 3, 4, 5, 6] rfl)
def wp_X3_walk_57 (x1 : Int32) (x2 : Int32) (x3 : Int32) (post : St → Prop) : Nat → Int32 → St → Prop
  | 0 => fun _ _ => False
  | n + 1 => fun x4 σ => ((36 ≤ x4 → wp_X3_walk_157 x1 x2 x3 post  σ) ∧ (¬ 36 ≤ x4 → (((σ 22 0 5) ≤ x4 → wp_X3_walk_157 x1 x2 x3 post  σ) ∧ (¬ (σ 22 0 5) ≤ x4 → ∃ nn, wp_X3_walk_76 x1 x2 x3 (fun y0 τ => wp_X3_walk_57 x1 x2 x3 post n y0 τ) post nn x4 0 σ))))
set_option maxHeartbeats 4000000 in
set_option maxRecDepth 100000 in
theorem wk_X3_walk_57 {p : Program} {l : Launch} {e : Env} {s : State} {m : MethodId} {below : List Frame} {meth : Method} {c : Code} {D : va_G} {q : ClassId × ClassId × ClassId × ClassId} {ad : Nat → Nat → Nat} {t : Nat × Nat} {aK aV : Nat → Nat} {args : Array Value} (S : CallFix p m c cX3_walk 7 s args GW "OnChin$House") (V : EvC D q ad t aK aV s) (hr : meth.sig.returnType = none) (hlocks : meth.locks = false) (x1 : Int32) (x2 : Int32) (x3 : Int32) (post : St → Prop)  : ∀ (n : Nat) (x4 : Int32) (σ : St) (H : Heap) (locs : List Loc) (ls : Array Slot), wp_X3_walk_57 x1 x2 x3 post n x4 σ → wo D clA LC ad s.heap H locs (EC q ad σ) → lv_has ls 7 [(0, .ref (ad 22 0)), (1, .int x1), (2, .int x2), (3, .int x3), (4, .int x4)] → W p l e { frames := 2, cells := 0, slots := 0, locals := 45 } s m args below meth c H locs 0 0 (MQ below (zQv D clA LC ad (EC q ad) post) args s 0 0 (zA LC ad)) (F0 m 57 ls []) := by
  have hx := S.1
  have hb := S.2.1
  intro n
  induction n with
  | zero => intro x4 σ H locs ls h; exact False.elim h
  | succ n ih =>
    intro x4 σ H locs ls h  hw hl
    refine lv_iload hx hb dX3_walk_57 (lv_at hl 4 rfl) ?_
    refine lv_bipush (v := 36) hx hb dX3_walk_59 (by decide) ?_
    refine lv_icmp_ge (tgt := 157) hx hb dX3_walk_61 (by decide) (fun hc => ?_) (fun hc => ?_)
    · have h := h.1 hc
      exact wk_X3_walk_157 S V hr hlocks x1 x2 x3   post   _ _ _ _ h  hw (lv_sub hl [0, 1, 2, 3] rfl)
    · have h := h.2 hc
      refine lv_iload hx hb dX3_walk_64 (lv_at hl 4 rfl) ?_
      refine lv_aload_n hx hb dX3_walk_66 rfl (lv_at hl 0 rfl) ?_
      refine gC_22_5 S V hw (Nat.le_of_ble_eq_true rfl) fl_X3_27 rfl dX3_walk_67 ?_
      refine lv_icmp_ge (tgt := 157) hx hb dX3_walk_70 (by decide) (fun hc => ?_) (fun hc => ?_)
      · have h := h.1 hc
        exact wk_X3_walk_157 S V hr hlocks x1 x2 x3   post   _ _ _ _ h  hw (lv_sub hl [0, 1, 2, 3] rfl)
      · have h := h.2 hc
        refine lv_iconst (v := 0) hx hb dX3_walk_73 (by decide) ?_
        refine lv_istore (lv' := [(5, .int 0), (0, .ref (ad 22 0)), (1, .int x1), (2, .int x2), (3, .int x3), (4, .int x4)]) hx hb dX3_walk_74 hl (by decide) rfl (fun ls hl => ?_)
        obtain ⟨n9, h⟩ := h
        exact wk_X3_walk_76 S V hr hlocks x1 x2 x3  (fun y0 τ => wp_X3_walk_57 x1 x2 x3 post n y0 τ) post ih n9 x4 0 _ _ _ _ h  hw (lv_sub hl [1, 2, 3, 4, 5, 0] rfl)
def wp_X3_walk_54 (x1 : Int32) (x2 : Int32) (x3 : Int32) (post : St → Prop)  (σ : St) : Prop := ∃ nn, wp_X3_walk_57 x1 x2 x3 post nn 0 σ
set_option maxHeartbeats 4000000 in
set_option maxRecDepth 100000 in
theorem wk_X3_walk_54 {p : Program} {l : Launch} {e : Env} {s : State} {m : MethodId} {below : List Frame} {meth : Method} {c : Code} {D : va_G} {q : ClassId × ClassId × ClassId × ClassId} {ad : Nat → Nat → Nat} {t : Nat × Nat} {aK aV : Nat → Nat} {args : Array Value} (S : CallFix p m c cX3_walk 7 s args GW "OnChin$House") (V : EvC D q ad t aK aV s) (hr : meth.sig.returnType = none) (hlocks : meth.locks = false) (x1 : Int32) (x2 : Int32) (x3 : Int32) (post : St → Prop)  : ∀ (σ : St) (H : Heap) (locs : List Loc) (ls : Array Slot), wp_X3_walk_54 x1 x2 x3 post  σ → wo D clA LC ad s.heap H locs (EC q ad σ) → lv_has ls 7 [(0, .ref (ad 22 0)), (1, .int x1), (2, .int x2), (3, .int x3)] → W p l e { frames := 2, cells := 0, slots := 0, locals := 45 } s m args below meth c H locs 0 0 (MQ below (zQv D clA LC ad (EC q ad) post) args s 0 0 (zA LC ad)) (F0 m 54 ls []) := by
  have hx := S.1
  have hb := S.2.1
  intro  σ H locs ls h  hw hl
  refine lv_iconst (v := 0) hx hb dX3_walk_54 (by decide) ?_
  refine lv_istore (lv' := [(4, .int 0), (0, .ref (ad 22 0)), (1, .int x1), (2, .int x2), (3, .int x3)]) hx hb dX3_walk_55 hl (by decide) rfl (fun ls hl => ?_)
  obtain ⟨n9, h⟩ := h
  exact wk_X3_walk_57 S V hr hlocks x1 x2 x3   post  n9 0 _ _ _ _ h  hw (lv_sub hl [1, 2, 3, 4, 0] rfl)
def wp_X3_walk_3 (x1 : Int32) (x2 : Int32) (x3 : Int32) (post : St → Prop) : Nat → Int32 → St → Prop
  | 0 => fun _ _ => False
  | n + 1 => fun x4 σ => ((36 ≤ x4 → wp_X3_isOpen x1 x2 x3 (fun r1 σ1 => ((r1 = 0 → wp_X3_walk_54 x1 x2 x3 post  σ1) ∧ (¬ r1 = 0 → wp_X3_enter x1 0 0 (fun σ2 => wp_X3_walk_54 x1 x2 x3 post  σ2) σ1))) (su σ 22 0 5 0)) ∧ (¬ 36 ≤ x4 → (vp_in x4 36 ∧ (vp_in x4 36 ∧ wp_X3_walk_3 x1 x2 x3 post n (x4 + 1) (su (su σ 25 0 x4.toNatClampNeg (-1)) 26 0 x4.toNatClampNeg (-1))))))
set_option maxHeartbeats 4000000 in
set_option maxRecDepth 100000 in
theorem wk_X3_walk_3 {p : Program} {l : Launch} {e : Env} {s : State} {m : MethodId} {below : List Frame} {meth : Method} {c : Code} {D : va_G} {q : ClassId × ClassId × ClassId × ClassId} {ad : Nat → Nat → Nat} {t : Nat × Nat} {aK aV : Nat → Nat} {args : Array Value} (S : CallFix p m c cX3_walk 7 s args GW "OnChin$House") (V : EvC D q ad t aK aV s) (hr : meth.sig.returnType = none) (hlocks : meth.locks = false) (x1 : Int32) (x2 : Int32) (x3 : Int32) (post : St → Prop)  : ∀ (n : Nat) (x4 : Int32) (σ : St) (H : Heap) (locs : List Loc) (ls : Array Slot), wp_X3_walk_3 x1 x2 x3 post n x4 σ → wo D clA LC ad s.heap H locs (EC q ad σ) → lv_has ls 7 [(0, .ref (ad 22 0)), (1, .int x1), (2, .int x2), (3, .int x3), (4, .int x4)] → W p l e { frames := 2, cells := 0, slots := 0, locals := 45 } s m args below meth c H locs 0 0 (MQ below (zQv D clA LC ad (EC q ad) post) args s 0 0 (zA LC ad)) (F0 m 3 ls []) := by
  have hx := S.1
  have hb := S.2.1
  intro n
  induction n with
  | zero => intro x4 σ H locs ls h; exact False.elim h
  | succ n ih =>
    intro x4 σ H locs ls h  hw hl
    refine lv_iload hx hb dX3_walk_3 (lv_at hl 4 rfl) ?_
    refine lv_bipush (v := 36) hx hb dX3_walk_5 (by decide) ?_
    refine lv_icmp_ge (tgt := 32) hx hb dX3_walk_7 (by decide) (fun hc => ?_) (fun hc => ?_)
    · have h := h.1 hc
      refine lv_aload_n hx hb dX3_walk_32 rfl (lv_at hl 0 rfl) ?_
      refine lv_iconst (v := 0) hx hb dX3_walk_33 (by decide) ?_
      refine pC_22_5 S V hw (Nat.le_of_ble_eq_true rfl) fl_X3_27 dX3_walk_34 (fun H locs hw => ?_)
      refine lv_aload_n hx hb dX3_walk_37 rfl (lv_at hl 0 rfl) ?_
      refine lv_iload_n hx hb dX3_walk_38 rfl (lv_at hl 1 rfl) ?_
      refine lv_iload_n hx hb dX3_walk_39 rfl (lv_at hl 2 rfl) ?_
      refine lv_iload_n hx hb dX3_walk_40 rfl (lv_at hl 3 rfl) ?_
      refine call_Vi (As := [.int x1, .int x2, .int x3]) (rest := []) EvC_ok S V hw (mt_X3_isOpen l D q ad t aK aV x1 x2 x3  (su σ 22 0 5 0) _ h) ok_X3_isOpen ml_X3_31 (rC_22 S V hw (Nat.le_of_ble_eq_true rfl)) ⟨(Nat.le_of_ble_eq_true rfl), (Nat.le_of_ble_eq_true rfl)⟩ ⟨rfl, rfl⟩ rfl hl.1 rfl (Nat.le_of_ble_eq_true rfl) dX3_walk_41 (fun r1 σ1 H locs h hw => ?_)
      refine lv_if_eq (tgt := 54) hx hb dX3_walk_44 (by decide) (fun hc => ?_) (fun hc => ?_)
      · have h := h.1 hc
        exact wk_X3_walk_54 S V hr hlocks x1 x2 x3   post   _ _ _ _ h  hw (lv_sub hl [0, 1, 2, 3] rfl)
      · have h := h.2 hc
        refine lv_aload_n hx hb dX3_walk_47 rfl (lv_at hl 0 rfl) ?_
        refine lv_iload_n hx hb dX3_walk_48 rfl (lv_at hl 1 rfl) ?_
        refine lv_iconst (v := 0) hx hb dX3_walk_49 (by decide) ?_
        refine lv_iconst (v := 0) hx hb dX3_walk_50 (by decide) ?_
        refine call_Vv (As := [.int x1, .int 0, .int 0]) (rest := []) EvC_ok S V hw (mt_X3_enter l D q ad t aK aV x1 0 0  σ1 _ h) ok_X3_enter ml_X3_35 (rC_22 S V hw (Nat.le_of_ble_eq_true rfl)) ⟨(Nat.le_of_ble_eq_true rfl), (Nat.le_of_ble_eq_true rfl)⟩ ⟨rfl, rfl⟩ rfl hl.1 rfl (Nat.le_of_ble_eq_true rfl) dX3_walk_51 (fun σ2 H locs h hw => ?_)
        exact wk_X3_walk_54 S V hr hlocks x1 x2 x3   post   _ _ _ _ h  hw (lv_sub hl [0, 1, 2, 3] rfl)
    · have h := h.2 hc
      refine lv_aload_n hx hb dX3_walk_10 rfl (lv_at hl 0 rfl) ?_
      refine gC_22_2 S V hw (Nat.le_of_ble_eq_true rfl) fl_X3_18 dX3_walk_11 ?_
      refine lv_iload hx hb dX3_walk_14 (lv_at hl 4 rfl) ?_
      refine lv_iconst (v := (-1)) hx hb dX3_walk_16 (by decide) ?_
      refine sC_25 S V hw (Nat.le_of_ble_eq_true rfl) h.1 dX3_walk_17 (fun H locs hw => ?_)
      have h := h.2
      refine lv_aload_n hx hb dX3_walk_18 rfl (lv_at hl 0 rfl) ?_
      refine gC_22_3 S V hw (Nat.le_of_ble_eq_true rfl) fl_X3_21 dX3_walk_19 ?_
      refine lv_iload hx hb dX3_walk_22 (lv_at hl 4 rfl) ?_
      refine lv_iconst (v := (-1)) hx hb dX3_walk_24 (by decide) ?_
      refine sC_26 S V hw (Nat.le_of_ble_eq_true rfl) h.1 dX3_walk_25 (fun H locs hw => ?_)
      have h := h.2
      refine lv_iinc (v := (x4 + 1)) (lv' := [(4, .int (x4 + 1)), (0, .ref (ad 22 0)), (1, .int x1), (2, .int x2), (3, .int x3)]) hx hb dX3_walk_26 hl (k := 4) rfl rfl (by decide) rfl (fun ls hl => ?_)
      refine lv_goto (tgt := 3) hx hb dX3_walk_29 (by decide) ?_
      exact ih (x4 + 1) _ _ _ _ h  hw (lv_sub hl [1, 2, 3, 4, 0] rfl)
def wp_X3_walk (x1 : Int32) (x2 : Int32) (x3 : Int32) (post : St → Prop)  (σ : St) : Prop := ∃ nn, wp_X3_walk_3 x1 x2 x3 post nn 0 σ
set_option maxHeartbeats 4000000 in
set_option maxRecDepth 100000 in
theorem wk_X3_walk_0 {p : Program} {l : Launch} {e : Env} {s : State} {m : MethodId} {below : List Frame} {meth : Method} {c : Code} {D : va_G} {q : ClassId × ClassId × ClassId × ClassId} {ad : Nat → Nat → Nat} {t : Nat × Nat} {aK aV : Nat → Nat} {args : Array Value} (S : CallFix p m c cX3_walk 7 s args GW "OnChin$House") (V : EvC D q ad t aK aV s) (hr : meth.sig.returnType = none) (hlocks : meth.locks = false) (x1 : Int32) (x2 : Int32) (x3 : Int32) (post : St → Prop)  : ∀ (σ : St) (H : Heap) (locs : List Loc) (ls : Array Slot), wp_X3_walk x1 x2 x3 post  σ → wo D clA LC ad s.heap H locs (EC q ad σ) → lv_has ls 7 [(0, .ref (ad 22 0)), (1, .int x1), (2, .int x2), (3, .int x3)] → W p l e { frames := 2, cells := 0, slots := 0, locals := 45 } s m args below meth c H locs 0 0 (MQ below (zQv D clA LC ad (EC q ad) post) args s 0 0 (zA LC ad)) (F0 m 0 ls []) := by
  have hx := S.1
  have hb := S.2.1
  intro  σ H locs ls h  hw hl
  refine lv_iconst (v := 0) hx hb dX3_walk_0 (by decide) ?_
  refine lv_istore (lv' := [(4, .int 0), (0, .ref (ad 22 0)), (1, .int x1), (2, .int x2), (3, .int x3)]) hx hb dX3_walk_1 hl (by decide) rfl (fun ls hl => ?_)
  obtain ⟨n9, h⟩ := h
  exact wk_X3_walk_3 S V hr hlocks x1 x2 x3   post  n9 0 _ _ _ _ h  hw (lv_sub hl [1, 2, 3, 4, 0] rfl)
theorem mt_X3_walk (l : Launch) (D : va_G) (q : ClassId × ClassId × ClassId × ClassId) (ad : Nat → Nat → Nat) (t : Nat × Nat) (aK aV : Nat → Nat) (x1 : Int32) (x2 : Int32) (x3 : Int32) (σ : St) (post : St → Prop) (h : wp_X3_walk x1 x2 x3 post σ) : cV l D clA LC ad (EC q ad) (EvC D q ad t aK aV) yX3_walk cX3_walk 7 none { frames := 2, cells := 0, slots := 0, locals := 45 } [.ref (ad 22 0), .int x1, .int x2, .int x3] σ post :=
  ent_v (by decide) (Nat.le_of_ble_eq_true rfl) (fun p e s m below meth c S V hr hlocks hw ls hl => wk_X3_walk_0 S V hr hlocks x1 x2 x3  post   σ _ _ ls h  hw (lv_sub hl [0, 1, 2, 3] rfl))
def wp_X4_takeRule (o1 : Nat) (post : St → Prop)  (σ : St) : Prop := post (sr σ 6 1 (va_cpy (fun i => σ 6 o1 i) (fun i => σ 6 1 i) 0 0 10))
set_option maxHeartbeats 4000000 in
set_option maxRecDepth 100000 in
theorem wk_X4_takeRule_0 {p : Program} {l : Launch} {e : Env} {s : State} {m : MethodId} {below : List Frame} {meth : Method} {c : Code} {D : va_G} {q : ClassId × ClassId × ClassId × ClassId} {ad : Nat → Nat → Nat} {t : Nat × Nat} {aK aV : Nat → Nat} {args : Array Value} (S : CallFix p m c cX4_takeRule 2 s args GW "OnChin$Keeper") (V : EvC D q ad t aK aV s) (hr : meth.sig.returnType = none) (hlocks : meth.locks = false) (o1 : Nat) (ho1 : o1 < 3) (post : St → Prop)  : ∀ (σ : St) (H : Heap) (locs : List Loc) (ls : Array Slot), wp_X4_takeRule o1 post  σ → wo D clA LC ad s.heap H locs (EC q ad σ) → lv_has ls 2 [(0, .ref (ad 16 0)), (1, .ref (ad 6 o1))] → W p l e { frames := 1, cells := 0, slots := 0, locals := 26 } s m args below meth c H locs 0 0 (MQ below (zQv D clA LC ad (EC q ad) post) args s 0 0 (zA LC ad)) (F0 m 0 ls []) := by
  have hx := S.1
  have hb := S.2.1
  intro  σ H locs ls h  hw hl
  refine lv_aload_n hx hb dX4_takeRule_0 rfl (lv_at hl 1 rfl) ?_
  refine lv_iconst (v := 0) hx hb dX4_takeRule_1 (by decide) ?_
  refine lv_aload_n hx hb dX4_takeRule_2 rfl (lv_at hl 0 rfl) ?_
  refine gC_16_0 S V hw (Nat.le_of_ble_eq_true rfl) fl_X4_9 dX4_takeRule_3 ?_
  refine lv_iconst (v := 0) hx hb dX4_takeRule_6 (by decide) ?_
  refine lv_bipush (v := 10) hx hb dX4_takeRule_7 (by decide) ?_
  refine x_copy S V.1 V.2.1 hw hl.1 ml_X4_32 wn_arraycopy ws_arraycopy wi_J10 (kC_6 ho1) (kC_6 (Nat.le_of_ble_eq_true rfl)) rfl rfl 0 rfl (by decide) (by decide) (by decide) (Nat.le_of_ble_eq_true rfl) (Nat.le_of_ble_eq_true rfl) (Nat.le_of_ble_eq_true rfl) (Nat.le_of_ble_eq_true rfl) dX4_takeRule_9 (f' := EC q ad (sr σ 6 1 (va_cpy (fun i => σ 6 o1 i) (fun i => σ 6 1 i) 0 0 10))) (by show Sum.inl _ = _; rw [sr_row]; try rfl) EC_sr (fun H locs hw => ?_)
  exact ret_v S hr hlocks hw h dX4_takeRule_12
theorem mt_X4_takeRule (l : Launch) (D : va_G) (q : ClassId × ClassId × ClassId × ClassId) (ad : Nat → Nat → Nat) (t : Nat × Nat) (aK aV : Nat → Nat) (o1 : Nat) (ho1 : o1 < 3) (σ : St) (post : St → Prop) (h : wp_X4_takeRule o1 post σ) : cV l D clA LC ad (EC q ad) (EvC D q ad t aK aV) yX4_takeRule cX4_takeRule 2 none { frames := 1, cells := 0, slots := 0, locals := 26 } [.ref (ad 16 0), .ref (ad 6 o1)] σ post :=
  ent_v (by decide) (Nat.le_of_ble_eq_true rfl) (fun p e s m below meth c S V hr hlocks hw ls hl => wk_X4_takeRule_0 S V hr hlocks o1 ho1 post   σ _ _ ls h  hw (lv_sub hl [0, 1] rfl))
def wp_X4_leftmost_16 (x1 : Int32) (post : Int32 → St → Prop) (xs0 : Int32) (σ : St) : Prop := post xs0 σ
set_option maxHeartbeats 4000000 in
set_option maxRecDepth 100000 in
theorem wk_X4_leftmost_16 {p : Program} {l : Launch} {e : Env} {s : State} {m : MethodId} {below : List Frame} {meth : Method} {c : Code} {D : va_G} {q : ClassId × ClassId × ClassId × ClassId} {ad : Nat → Nat → Nat} {t : Nat × Nat} {aK aV : Nat → Nat} {args : Array Value} (S : CallFix p m c cX4_leftmost 2 s args GW "OnChin$Keeper") (V : EvC D q ad t aK aV s) (hr : meth.sig.returnType = (some .int)) (hlocks : meth.locks = false) (x1 : Int32) (post : Int32 → St → Prop)  : ∀ (xs0 : Int32) (σ : St) (H : Heap) (locs : List Loc) (ls : Array Slot), wp_X4_leftmost_16 x1 post xs0 σ → wo D clA LC ad s.heap H locs (EC q ad σ) → lv_has ls 2 [(0, .ref (ad 16 0)), (1, .int x1)] → W p l e { frames := 0, cells := 0, slots := 0, locals := 0 } s m args below meth c H locs 0 0 (MQ below (zQi D clA LC ad (EC q ad) post) args s 0 0 (zA LC ad)) (F0 m 16 ls [.int xs0]) := by
  have hx := S.1
  have hb := S.2.1
  intro xs0 σ H locs ls h  hw hl
  exact ret_i S hr hlocks hw h dX4_leftmost_16
def wp_X4_leftmost (x1 : Int32) (post : Int32 → St → Prop)  (σ : St) : Prop := ((¬ (σ 6 1 8) = 0 → wp_X4_leftmost_16 x1 post (-x1) σ) ∧ ((σ 6 1 8) = 0 → wp_X4_leftmost_16 x1 post 0 σ))
set_option maxHeartbeats 4000000 in
set_option maxRecDepth 100000 in
theorem wk_X4_leftmost_0 {p : Program} {l : Launch} {e : Env} {s : State} {m : MethodId} {below : List Frame} {meth : Method} {c : Code} {D : va_G} {q : ClassId × ClassId × ClassId × ClassId} {ad : Nat → Nat → Nat} {t : Nat × Nat} {aK aV : Nat → Nat} {args : Array Value} (S : CallFix p m c cX4_leftmost 2 s args GW "OnChin$Keeper") (V : EvC D q ad t aK aV s) (hr : meth.sig.returnType = (some .int)) (hlocks : meth.locks = false) (x1 : Int32) (post : Int32 → St → Prop)  : ∀ (σ : St) (H : Heap) (locs : List Loc) (ls : Array Slot), wp_X4_leftmost x1 post  σ → wo D clA LC ad s.heap H locs (EC q ad σ) → lv_has ls 2 [(0, .ref (ad 16 0)), (1, .int x1)] → W p l e { frames := 0, cells := 0, slots := 0, locals := 0 } s m args below meth c H locs 0 0 (MQ below (zQi D clA LC ad (EC q ad) post) args s 0 0 (zA LC ad)) (F0 m 0 ls []) := by
  have hx := S.1
  have hb := S.2.1
  intro  σ H locs ls h  hw hl
  refine lv_aload_n hx hb dX4_leftmost_0 rfl (lv_at hl 0 rfl) ?_
  refine gC_16_0 S V hw (Nat.le_of_ble_eq_true rfl) fl_X4_9 dX4_leftmost_1 ?_
  refine lv_bipush (v := 8) hx hb dX4_leftmost_4 (by decide) ?_
  refine aC_6 S V hw (Nat.le_of_ble_eq_true rfl) (vp_in_nI (n := 8) (Nat.le_of_ble_eq_true rfl) (Nat.le_of_ble_eq_true rfl)) (z := (σ 6 1 8)) rfl dX4_leftmost_6 ?_
  refine lv_if_ne (tgt := 14) hx hb dX4_leftmost_7 (by decide) (fun hc => ?_) (fun hc => ?_)
  · have h := h.1 hc
    refine lv_iload_n hx hb dX4_leftmost_14 rfl (lv_at hl 1 rfl) ?_
    refine lv_ineg hx hb dX4_leftmost_15 ?_
    exact wk_X4_leftmost_16 S V hr hlocks x1   post  (-x1) _ _ _ _ h  hw (lv_sub hl [0, 1] rfl)
  · have h := h.2 hc
    refine lv_iconst (v := 0) hx hb dX4_leftmost_10 (by decide) ?_
    refine lv_goto (tgt := 16) hx hb dX4_leftmost_11 (by decide) ?_
    exact wk_X4_leftmost_16 S V hr hlocks x1   post  0 _ _ _ _ h  hw (lv_sub hl [0, 1] rfl)
theorem mt_X4_leftmost (l : Launch) (D : va_G) (q : ClassId × ClassId × ClassId × ClassId) (ad : Nat → Nat → Nat) (t : Nat × Nat) (aK aV : Nat → Nat) (x1 : Int32) (σ : St) (post : Int32 → St → Prop) (h : wp_X4_leftmost x1 post σ) : cI l D clA LC ad (EC q ad) (EvC D q ad t aK aV) yX4_leftmost cX4_leftmost 2 (some .int) { frames := 0, cells := 0, slots := 0, locals := 0 } [.ref (ad 16 0), .int x1] σ post :=
  ent_i (by decide) (Nat.le_of_ble_eq_true rfl) (fun p e s m below meth c S V hr hlocks hw ls hl => wk_X4_leftmost_0 S V hr hlocks x1  post   σ _ _ ls h  hw (lv_sub hl [0, 1] rfl))
def wp_X4_leastFrom_11 (o1 : Nat) (x2 : Int32) (post : Int32 → St → Prop) : Nat → Int32 → Int32 → St → Prop
  | 0 => fun _ _ _ => False
  | n + 1 => fun x3 x4 σ => ((x2 < x4 → post x3 σ) ∧ (¬ x2 < x4 → wp_X4_lasts o1 x4 0 400 (fun r1 σ1 => wp_X4_leastFrom_11 o1 x2 post n (if r1 < x3 then r1 else x3) (x4 + 1) σ1) σ))
set_option maxHeartbeats 4000000 in
set_option maxRecDepth 100000 in
theorem wk_X4_leastFrom_11 {p : Program} {l : Launch} {e : Env} {s : State} {m : MethodId} {below : List Frame} {meth : Method} {c : Code} {D : va_G} {q : ClassId × ClassId × ClassId × ClassId} {ad : Nat → Nat → Nat} {t : Nat × Nat} {aK aV : Nat → Nat} {args : Array Value} (S : CallFix p m c cX4_leastFrom 5 s args GW "OnChin$Keeper") (V : EvC D q ad t aK aV s) (hr : meth.sig.returnType = (some .int)) (hlocks : meth.locks = false) (o1 : Nat) (x2 : Int32) (ho1 : o1 < 5) (post : Int32 → St → Prop)  : ∀ (n : Nat) (x3 : Int32) (x4 : Int32) (σ : St) (H : Heap) (locs : List Loc) (ls : Array Slot), wp_X4_leastFrom_11 o1 x2 post n x3 x4 σ → wo D clA LC ad s.heap H locs (EC q ad σ) → lv_has ls 5 [(0, .ref (ad 16 0)), (1, .ref (ad 2 o1)), (2, .int x2), (3, .int x3), (4, .int x4)] → W p l e { frames := 5, cells := 0, slots := 0, locals := 119 } s m args below meth c H locs 0 0 (MQ below (zQi D clA LC ad (EC q ad) post) args s 0 0 (zA LC ad)) (F0 m 11 ls []) := by
  have hx := S.1
  have hb := S.2.1
  intro n
  induction n with
  | zero => intro x3 x4 σ H locs ls h; exact False.elim h
  | succ n ih =>
    intro x3 x4 σ H locs ls h  hw hl
    refine lv_iload hx hb dX4_leastFrom_11 (lv_at hl 4 rfl) ?_
    refine lv_iload_n hx hb dX4_leastFrom_13 rfl (lv_at hl 2 rfl) ?_
    refine lv_icmp_gt (tgt := 39) hx hb dX4_leastFrom_14 (by decide) (fun hc => ?_) (fun hc => ?_)
    · have h := h.1 hc
      refine lv_iload_n hx hb dX4_leastFrom_39 rfl (lv_at hl 3 rfl) ?_
      exact ret_i S hr hlocks hw h dX4_leastFrom_40
    · have h := h.2 hc
      refine lv_iload_n hx hb dX4_leastFrom_17 rfl (lv_at hl 3 rfl) ?_
      refine lv_aload_n hx hb dX4_leastFrom_18 rfl (lv_at hl 0 rfl) ?_
      refine lv_aload_n hx hb dX4_leastFrom_19 rfl (lv_at hl 1 rfl) ?_
      refine lv_iload hx hb dX4_leastFrom_20 (lv_at hl 4 rfl) ?_
      refine lv_iconst (v := 0) hx hb dX4_leastFrom_22 (by decide) ?_
      refine lv_sipush (v := 400) hx hb dX4_leastFrom_23 (by decide) ?_
      refine call_Vi (As := [.ref (ad 2 o1), .int x4, .int 0, .int 400]) (rest := [.int x3]) EvC_ok S V hw (mt_X4_lasts l D q ad t aK aV o1 x4 0 400 ho1 σ _ h) ok_X4_lasts ml_X4_70 (rC_16 S V hw (Nat.le_of_ble_eq_true rfl)) ⟨(Nat.le_of_ble_eq_true rfl), (Nat.le_of_ble_eq_true rfl)⟩ ⟨rfl, rfl⟩ rfl hl.1 rfl (Nat.le_of_ble_eq_true rfl) dX4_leastFrom_26 (fun r1 σ1 H locs h hw => ?_)
      refine x_min S hl.1 ml_X4_74 ws_min wi_J9 wc_min (Nat.le_of_ble_eq_true rfl) (Nat.le_of_ble_eq_true rfl) dX4_leastFrom_29 ?_
      refine lv_istore_n (lv' := [(3, .int (if r1 < x3 then r1 else x3)), (0, .ref (ad 16 0)), (1, .ref (ad 2 o1)), (2, .int x2), (4, .int x4)]) hx hb dX4_leastFrom_32 rfl hl (by decide) rfl (fun ls hl => ?_)
      refine lv_iinc (v := (x4 + 1)) (lv' := [(4, .int (x4 + 1)), (3, .int (if r1 < x3 then r1 else x3)), (0, .ref (ad 16 0)), (1, .ref (ad 2 o1)), (2, .int x2)]) hx hb dX4_leastFrom_33 hl (k := 4) rfl rfl (by decide) rfl (fun ls hl => ?_)
      refine lv_goto (tgt := 11) hx hb dX4_leastFrom_36 (by decide) ?_
      exact ih (if r1 < x3 then r1 else x3) (x4 + 1) _ _ _ _ h  hw (lv_sub hl [2, 3, 4, 1, 0] rfl)
def wp_X4_leastFrom (o1 : Nat) (x2 : Int32) (post : Int32 → St → Prop)  (σ : St) : Prop := wp_X4_leftmost x2 (fun r1 σ1 => ∃ nn, wp_X4_leastFrom_11 o1 x2 post nn 400 r1 σ1) σ
set_option maxHeartbeats 4000000 in
set_option maxRecDepth 100000 in
theorem wk_X4_leastFrom_0 {p : Program} {l : Launch} {e : Env} {s : State} {m : MethodId} {below : List Frame} {meth : Method} {c : Code} {D : va_G} {q : ClassId × ClassId × ClassId × ClassId} {ad : Nat → Nat → Nat} {t : Nat × Nat} {aK aV : Nat → Nat} {args : Array Value} (S : CallFix p m c cX4_leastFrom 5 s args GW "OnChin$Keeper") (V : EvC D q ad t aK aV s) (hr : meth.sig.returnType = (some .int)) (hlocks : meth.locks = false) (o1 : Nat) (x2 : Int32) (ho1 : o1 < 5) (post : Int32 → St → Prop)  : ∀ (σ : St) (H : Heap) (locs : List Loc) (ls : Array Slot), wp_X4_leastFrom o1 x2 post  σ → wo D clA LC ad s.heap H locs (EC q ad σ) → lv_has ls 5 [(0, .ref (ad 16 0)), (1, .ref (ad 2 o1)), (2, .int x2)] → W p l e { frames := 5, cells := 0, slots := 0, locals := 119 } s m args below meth c H locs 0 0 (MQ below (zQi D clA LC ad (EC q ad) post) args s 0 0 (zA LC ad)) (F0 m 0 ls []) := by
  have hx := S.1
  have hb := S.2.1
  intro  σ H locs ls h  hw hl
  have h : wp_X4_leftmost x2 (fun r1 σ1 => ∃ nn, wp_X4_leastFrom_11 o1 x2 post nn 400 r1 σ1) σ := h
  refine lv_sipush (v := 400) hx hb dX4_leastFrom_0 (by decide) ?_
  refine lv_istore_n (lv' := [(3, .int 400), (0, .ref (ad 16 0)), (1, .ref (ad 2 o1)), (2, .int x2)]) hx hb dX4_leastFrom_3 rfl hl (by decide) rfl (fun ls hl => ?_)
  refine lv_aload_n hx hb dX4_leastFrom_4 rfl (lv_at hl 1 rfl) ?_
  refine lv_iload_n hx hb dX4_leastFrom_5 rfl (lv_at hl 3 rfl) ?_
  refine call_Vi (As := [.int x2]) (rest := []) EvC_ok S V hw (mt_X4_leftmost l D q ad t aK aV x2  σ _ h) ok_X4_leftmost ml_X4_66 (rC_16 S V hw (Nat.le_of_ble_eq_true rfl)) ⟨(Nat.le_of_ble_eq_true rfl), (Nat.le_of_ble_eq_true rfl)⟩ ⟨rfl, rfl⟩ rfl hl.1 rfl (Nat.le_of_ble_eq_true rfl) dX4_leastFrom_6 (fun r1 σ1 H locs h hw => ?_)
  refine lv_istore (lv' := [(4, .int r1), (3, .int 400), (0, .ref (ad 16 0)), (1, .ref (ad 2 o1)), (2, .int x2)]) hx hb dX4_leastFrom_9 hl (by decide) rfl (fun ls hl => ?_)
  obtain ⟨n9, h⟩ := h
  exact wk_X4_leastFrom_11 S V hr hlocks o1 x2 ho1  post  n9 400 r1 _ _ _ _ h  hw (lv_sub hl [2, 3, 4, 1, 0] rfl)
theorem mt_X4_leastFrom (l : Launch) (D : va_G) (q : ClassId × ClassId × ClassId × ClassId) (ad : Nat → Nat → Nat) (t : Nat × Nat) (aK aV : Nat → Nat) (o1 : Nat) (x2 : Int32) (ho1 : o1 < 5) (σ : St) (post : Int32 → St → Prop) (h : wp_X4_leastFrom o1 x2 post σ) : cI l D clA LC ad (EC q ad) (EvC D q ad t aK aV) yX4_leastFrom cX4_leastFrom 5 (some .int) { frames := 5, cells := 0, slots := 0, locals := 119 } [.ref (ad 16 0), .ref (ad 2 o1), .int x2] σ post :=
  ent_i (by decide) (Nat.le_of_ble_eq_true rfl) (fun p e s m below meth c S V hr hlocks hw ls hl => wk_X4_leastFrom_0 S V hr hlocks o1 x2 ho1 post   σ _ _ ls h  hw (lv_sub hl [0, 1, 2] rfl))
def wp_X4_isSteady_9 (o1 : Nat) (x2 : Int32) (post : Int32 → St → Prop) : Nat → Int32 → Int32 → St → Prop
  | 0 => fun _ _ _ => False
  | n + 1 => fun x3 x4 σ => ((x4 < x3 → post 1 σ) ∧ (¬ x4 < x3 → wp_X4_lasts o1 x4 0 400 (fun r1 σ1 => ((400 ≤ r1 → wp_X4_isSteady_9 o1 x2 post n x3 (x4 + (-1)) σ1) ∧ (¬ 400 ≤ r1 → post 0 σ1))) σ))
set_option maxHeartbeats 4000000 in
set_option maxRecDepth 100000 in
theorem wk_X4_isSteady_9 {p : Program} {l : Launch} {e : Env} {s : State} {m : MethodId} {below : List Frame} {meth : Method} {c : Code} {D : va_G} {q : ClassId × ClassId × ClassId × ClassId} {ad : Nat → Nat → Nat} {t : Nat × Nat} {aK aV : Nat → Nat} {args : Array Value} (S : CallFix p m c cX4_isSteady 5 s args GW "OnChin$Keeper") (V : EvC D q ad t aK aV s) (hr : meth.sig.returnType = (some .boolean)) (hlocks : meth.locks = false) (o1 : Nat) (x2 : Int32) (ho1 : o1 < 5) (post : Int32 → St → Prop)  : ∀ (n : Nat) (x3 : Int32) (x4 : Int32) (σ : St) (H : Heap) (locs : List Loc) (ls : Array Slot), wp_X4_isSteady_9 o1 x2 post n x3 x4 σ → wo D clA LC ad s.heap H locs (EC q ad σ) → lv_has ls 5 [(0, .ref (ad 16 0)), (1, .ref (ad 2 o1)), (2, .int x2), (3, .int x3), (4, .int x4)] → W p l e { frames := 5, cells := 0, slots := 0, locals := 119 } s m args below meth c H locs 0 0 (MQ below (zQi D clA LC ad (EC q ad) post) args s 0 0 (zA LC ad)) (F0 m 9 ls []) := by
  have hx := S.1
  have hb := S.2.1
  intro n
  induction n with
  | zero => intro x3 x4 σ H locs ls h; exact False.elim h
  | succ n ih =>
    intro x3 x4 σ H locs ls h  hw hl
    refine lv_iload hx hb dX4_isSteady_9 (lv_at hl 4 rfl) ?_
    refine lv_iload_n hx hb dX4_isSteady_11 rfl (lv_at hl 3 rfl) ?_
    refine lv_icmp_lt (tgt := 40) hx hb dX4_isSteady_12 (by decide) (fun hc => ?_) (fun hc => ?_)
    · have h := h.1 hc
      refine lv_iconst (v := 1) hx hb dX4_isSteady_40 (by decide) ?_
      exact ret_z S hr hlocks hw (by decide) h dX4_isSteady_41
    · have h := h.2 hc
      refine lv_aload_n hx hb dX4_isSteady_15 rfl (lv_at hl 0 rfl) ?_
      refine lv_aload_n hx hb dX4_isSteady_16 rfl (lv_at hl 1 rfl) ?_
      refine lv_iload hx hb dX4_isSteady_17 (lv_at hl 4 rfl) ?_
      refine lv_iconst (v := 0) hx hb dX4_isSteady_19 (by decide) ?_
      refine lv_sipush (v := 400) hx hb dX4_isSteady_20 (by decide) ?_
      refine call_Vi (As := [.ref (ad 2 o1), .int x4, .int 0, .int 400]) (rest := []) EvC_ok S V hw (mt_X4_lasts l D q ad t aK aV o1 x4 0 400 ho1 σ _ h) ok_X4_lasts ml_X4_70 (rC_16 S V hw (Nat.le_of_ble_eq_true rfl)) ⟨(Nat.le_of_ble_eq_true rfl), (Nat.le_of_ble_eq_true rfl)⟩ ⟨rfl, rfl⟩ rfl hl.1 rfl (Nat.le_of_ble_eq_true rfl) dX4_isSteady_23 (fun r1 σ1 H locs h hw => ?_)
      refine lv_sipush (v := 400) hx hb dX4_isSteady_26 (by decide) ?_
      refine lv_icmp_ge (tgt := 34) hx hb dX4_isSteady_29 (by decide) (fun hc => ?_) (fun hc => ?_)
      · have h := h.1 hc
        refine lv_iinc (v := (x4 + (-1))) (lv' := [(4, .int (x4 + (-1))), (0, .ref (ad 16 0)), (1, .ref (ad 2 o1)), (2, .int x2), (3, .int x3)]) hx hb dX4_isSteady_34 hl (k := 4) rfl rfl (by decide) rfl (fun ls hl => ?_)
        refine lv_goto (tgt := 9) hx hb dX4_isSteady_37 (by decide) ?_
        exact ih x3 (x4 + (-1)) _ _ _ _ h  hw (lv_sub hl [1, 2, 3, 4, 0] rfl)
      · have h := h.2 hc
        refine lv_iconst (v := 0) hx hb dX4_isSteady_32 (by decide) ?_
        exact ret_z S hr hlocks hw (by decide) h dX4_isSteady_33
def wp_X4_isSteady (o1 : Nat) (x2 : Int32) (post : Int32 → St → Prop)  (σ : St) : Prop := wp_X4_leftmost x2 (fun r1 σ1 => ∃ nn, wp_X4_isSteady_9 o1 x2 post nn r1 x2 σ1) σ
set_option maxHeartbeats 4000000 in
set_option maxRecDepth 100000 in
theorem wk_X4_isSteady_0 {p : Program} {l : Launch} {e : Env} {s : State} {m : MethodId} {below : List Frame} {meth : Method} {c : Code} {D : va_G} {q : ClassId × ClassId × ClassId × ClassId} {ad : Nat → Nat → Nat} {t : Nat × Nat} {aK aV : Nat → Nat} {args : Array Value} (S : CallFix p m c cX4_isSteady 5 s args GW "OnChin$Keeper") (V : EvC D q ad t aK aV s) (hr : meth.sig.returnType = (some .boolean)) (hlocks : meth.locks = false) (o1 : Nat) (x2 : Int32) (ho1 : o1 < 5) (post : Int32 → St → Prop)  : ∀ (σ : St) (H : Heap) (locs : List Loc) (ls : Array Slot), wp_X4_isSteady o1 x2 post  σ → wo D clA LC ad s.heap H locs (EC q ad σ) → lv_has ls 5 [(0, .ref (ad 16 0)), (1, .ref (ad 2 o1)), (2, .int x2)] → W p l e { frames := 5, cells := 0, slots := 0, locals := 119 } s m args below meth c H locs 0 0 (MQ below (zQi D clA LC ad (EC q ad) post) args s 0 0 (zA LC ad)) (F0 m 0 ls []) := by
  have hx := S.1
  have hb := S.2.1
  intro  σ H locs ls h  hw hl
  have h : wp_X4_leftmost x2 (fun r1 σ1 => ∃ nn, wp_X4_isSteady_9 o1 x2 post nn r1 x2 σ1) σ := h
  refine lv_aload_n hx hb dX4_isSteady_0 rfl (lv_at hl 0 rfl) ?_
  refine lv_iload_n hx hb dX4_isSteady_1 rfl (lv_at hl 2 rfl) ?_
  refine call_Vi (As := [.int x2]) (rest := []) EvC_ok S V hw (mt_X4_leftmost l D q ad t aK aV x2  σ _ h) ok_X4_leftmost ml_X4_66 (rC_16 S V hw (Nat.le_of_ble_eq_true rfl)) ⟨(Nat.le_of_ble_eq_true rfl), (Nat.le_of_ble_eq_true rfl)⟩ ⟨rfl, rfl⟩ rfl hl.1 rfl (Nat.le_of_ble_eq_true rfl) dX4_isSteady_2 (fun r1 σ1 H locs h hw => ?_)
  refine lv_istore_n (lv' := [(3, .int r1), (0, .ref (ad 16 0)), (1, .ref (ad 2 o1)), (2, .int x2)]) hx hb dX4_isSteady_5 rfl hl (by decide) rfl (fun ls hl => ?_)
  refine lv_iload_n hx hb dX4_isSteady_6 rfl (lv_at hl 3 rfl) ?_
  refine lv_istore (lv' := [(4, .int x2), (3, .int r1), (0, .ref (ad 16 0)), (1, .ref (ad 2 o1)), (2, .int x2)]) hx hb dX4_isSteady_7 hl (by decide) rfl (fun ls hl => ?_)
  obtain ⟨n9, h⟩ := h
  exact wk_X4_isSteady_9 S V hr hlocks o1 x2 ho1  post  n9 r1 x2 _ _ _ _ h  hw (lv_sub hl [2, 3, 4, 1, 0] rfl)
theorem mt_X4_isSteady (l : Launch) (D : va_G) (q : ClassId × ClassId × ClassId × ClassId) (ad : Nat → Nat → Nat) (t : Nat × Nat) (aK aV : Nat → Nat) (o1 : Nat) (x2 : Int32) (ho1 : o1 < 5) (σ : St) (post : Int32 → St → Prop) (h : wp_X4_isSteady o1 x2 post σ) : cI l D clA LC ad (EC q ad) (EvC D q ad t aK aV) yX4_isSteady cX4_isSteady 5 (some .boolean) { frames := 5, cells := 0, slots := 0, locals := 119 } [.ref (ad 16 0), .ref (ad 2 o1), .int x2] σ post :=
  ent_i (by decide) (Nat.le_of_ble_eq_true rfl) (fun p e s m below meth c S V hr hlocks hw ls hl => wk_X4_isSteady_0 S V hr hlocks o1 x2 ho1 post   σ _ _ ls h  hw (lv_sub hl [0, 1, 2] rfl))
def wp_X4_shortestSteady_6 (x1 : Int32) (post : Int32 → St → Prop) : Nat → Int32 → Int32 → St → Prop
  | 0 => fun _ _ _ => False
  | n + 1 => fun x2 x3 σ => ((x3 < 1 → post x2 σ) ∧ (¬ x3 < 1 → wp_X6_strip 4 (fun σ1 => wp_X6_addLump 4 x3 1 (fun σ2 => wp_X4_isSteady 4 x1 (fun r3 σ3 => ((¬ r3 = 0 → wp_X4_shortestSteady_6 x1 post n x3 (x3 + (-1)) σ3) ∧ (r3 = 0 → post x2 σ3))) σ2) σ1) σ))
set_option maxHeartbeats 4000000 in
set_option maxRecDepth 100000 in
theorem wk_X4_shortestSteady_6 {p : Program} {l : Launch} {e : Env} {s : State} {m : MethodId} {below : List Frame} {meth : Method} {c : Code} {D : va_G} {q : ClassId × ClassId × ClassId × ClassId} {ad : Nat → Nat → Nat} {t : Nat × Nat} {aK aV : Nat → Nat} {args : Array Value} (S : CallFix p m c cX4_shortestSteady 4 s args GW "OnChin$Keeper") (V : EvC D q ad t aK aV s) (hr : meth.sig.returnType = (some .int)) (hlocks : meth.locks = false) (x1 : Int32) (post : Int32 → St → Prop)  : ∀ (n : Nat) (x2 : Int32) (x3 : Int32) (σ : St) (H : Heap) (locs : List Loc) (ls : Array Slot), wp_X4_shortestSteady_6 x1 post n x2 x3 σ → wo D clA LC ad s.heap H locs (EC q ad σ) → lv_has ls 4 [(0, .ref (ad 16 0)), (1, .int x1), (2, .int x2), (3, .int x3)] → W p l e { frames := 6, cells := 0, slots := 0, locals := 143 } s m args below meth c H locs 0 0 (MQ below (zQi D clA LC ad (EC q ad) post) args s 0 0 (zA LC ad)) (F0 m 6 ls []) := by
  have hx := S.1
  have hb := S.2.1
  intro n
  induction n with
  | zero => intro x2 x3 σ H locs ls h; exact False.elim h
  | succ n ih =>
    intro x2 x3 σ H locs ls h  hw hl
    refine lv_iload_n hx hb dX4_shortestSteady_6 rfl (lv_at hl 3 rfl) ?_
    refine lv_iconst (v := 1) hx hb dX4_shortestSteady_7 (by decide) ?_
    refine lv_icmp_lt (tgt := 49) hx hb dX4_shortestSteady_8 (by decide) (fun hc => ?_) (fun hc => ?_)
    · have h := h.1 hc
      refine lv_iload_n hx hb dX4_shortestSteady_49 rfl (lv_at hl 2 rfl) ?_
      exact ret_i S hr hlocks hw h dX4_shortestSteady_50
    · have h := h.2 hc
      refine lv_aload_n hx hb dX4_shortestSteady_11 rfl (lv_at hl 0 rfl) ?_
      refine gC_16_3 S V hw (Nat.le_of_ble_eq_true rfl) fl_X4_28 dX4_shortestSteady_12 ?_
      refine call_Vv (As := []) (rest := []) EvC_ok S V hw (mt_X6_strip l D q ad t aK aV 4 (Nat.le_of_ble_eq_true rfl) σ _ h) ok_X6_strip ml_X4_80 (rC_2 S V hw (Nat.le_of_ble_eq_true rfl)) ⟨(Nat.le_of_ble_eq_true rfl), (Nat.le_of_ble_eq_true rfl)⟩ ⟨rfl, rfl⟩ rfl hl.1 rfl (Nat.le_of_ble_eq_true rfl) dX4_shortestSteady_15 (fun σ1 H locs h hw => ?_)
      refine lv_aload_n hx hb dX4_shortestSteady_18 rfl (lv_at hl 0 rfl) ?_
      refine gC_16_3 S V hw (Nat.le_of_ble_eq_true rfl) fl_X4_28 dX4_shortestSteady_19 ?_
      refine lv_iload_n hx hb dX4_shortestSteady_22 rfl (lv_at hl 3 rfl) ?_
      refine lv_iconst (v := 1) hx hb dX4_shortestSteady_23 (by decide) ?_
      refine call_Vv (As := [.int x3, .int 1]) (rest := []) EvC_ok S V hw (mt_X6_addLump l D q ad t aK aV 4 x3 1 (Nat.le_of_ble_eq_true rfl) σ1 _ h) ok_X6_addLump ml_X4_83 (rC_2 S V hw (Nat.le_of_ble_eq_true rfl)) ⟨(Nat.le_of_ble_eq_true rfl), (Nat.le_of_ble_eq_true rfl)⟩ ⟨rfl, rfl⟩ rfl hl.1 rfl (Nat.le_of_ble_eq_true rfl) dX4_shortestSteady_24 (fun σ2 H locs h hw => ?_)
      refine lv_aload_n hx hb dX4_shortestSteady_27 rfl (lv_at hl 0 rfl) ?_
      refine lv_aload_n hx hb dX4_shortestSteady_28 rfl (lv_at hl 0 rfl) ?_
      refine gC_16_3 S V hw (Nat.le_of_ble_eq_true rfl) fl_X4_28 dX4_shortestSteady_29 ?_
      refine lv_iload_n hx hb dX4_shortestSteady_32 rfl (lv_at hl 1 rfl) ?_
      refine call_Vi (As := [.ref (ad 2 4), .int x1]) (rest := []) EvC_ok S V hw (mt_X4_isSteady l D q ad t aK aV 4 x1 (Nat.le_of_ble_eq_true rfl) σ2 _ h) ok_X4_isSteady ml_X4_87 (rC_16 S V hw (Nat.le_of_ble_eq_true rfl)) ⟨(Nat.le_of_ble_eq_true rfl), (Nat.le_of_ble_eq_true rfl)⟩ ⟨rfl, rfl⟩ rfl hl.1 rfl (Nat.le_of_ble_eq_true rfl) dX4_shortestSteady_33 (fun r3 σ3 H locs h hw => ?_)
      refine lv_if_ne (tgt := 41) hx hb dX4_shortestSteady_36 (by decide) (fun hc => ?_) (fun hc => ?_)
      · have h := h.1 hc
        refine lv_iload_n hx hb dX4_shortestSteady_41 rfl (lv_at hl 3 rfl) ?_
        refine lv_istore_n (lv' := [(2, .int x3), (0, .ref (ad 16 0)), (1, .int x1), (3, .int x3)]) hx hb dX4_shortestSteady_42 rfl hl (by decide) rfl (fun ls hl => ?_)
        refine lv_iinc (v := (x3 + (-1))) (lv' := [(3, .int (x3 + (-1))), (2, .int x3), (0, .ref (ad 16 0)), (1, .int x1)]) hx hb dX4_shortestSteady_43 hl (k := 3) rfl rfl (by decide) rfl (fun ls hl => ?_)
        refine lv_goto (tgt := 6) hx hb dX4_shortestSteady_46 (by decide) ?_
        exact ih x3 (x3 + (-1)) _ _ _ _ h  hw (lv_sub hl [2, 3, 1, 0] rfl)
      · have h := h.2 hc
        refine lv_iload_n hx hb dX4_shortestSteady_39 rfl (lv_at hl 2 rfl) ?_
        exact ret_i S hr hlocks hw h dX4_shortestSteady_40
def wp_X4_shortestSteady (x1 : Int32) (post : Int32 → St → Prop)  (σ : St) : Prop := ∃ nn, wp_X4_shortestSteady_6 x1 post nn (-1) 300 σ
set_option maxHeartbeats 4000000 in
set_option maxRecDepth 100000 in
theorem wk_X4_shortestSteady_0 {p : Program} {l : Launch} {e : Env} {s : State} {m : MethodId} {below : List Frame} {meth : Method} {c : Code} {D : va_G} {q : ClassId × ClassId × ClassId × ClassId} {ad : Nat → Nat → Nat} {t : Nat × Nat} {aK aV : Nat → Nat} {args : Array Value} (S : CallFix p m c cX4_shortestSteady 4 s args GW "OnChin$Keeper") (V : EvC D q ad t aK aV s) (hr : meth.sig.returnType = (some .int)) (hlocks : meth.locks = false) (x1 : Int32) (post : Int32 → St → Prop)  : ∀ (σ : St) (H : Heap) (locs : List Loc) (ls : Array Slot), wp_X4_shortestSteady x1 post  σ → wo D clA LC ad s.heap H locs (EC q ad σ) → lv_has ls 4 [(0, .ref (ad 16 0)), (1, .int x1)] → W p l e { frames := 6, cells := 0, slots := 0, locals := 143 } s m args below meth c H locs 0 0 (MQ below (zQi D clA LC ad (EC q ad) post) args s 0 0 (zA LC ad)) (F0 m 0 ls []) := by
  have hx := S.1
  have hb := S.2.1
  intro  σ H locs ls h  hw hl
  refine lv_iconst (v := (-1)) hx hb dX4_shortestSteady_0 (by decide) ?_
  refine lv_istore_n (lv' := [(2, .int (-1)), (0, .ref (ad 16 0)), (1, .int x1)]) hx hb dX4_shortestSteady_1 rfl hl (by decide) rfl (fun ls hl => ?_)
  refine lv_sipush (v := 300) hx hb dX4_shortestSteady_2 (by decide) ?_
  refine lv_istore_n (lv' := [(3, .int 300), (2, .int (-1)), (0, .ref (ad 16 0)), (1, .int x1)]) hx hb dX4_shortestSteady_5 rfl hl (by decide) rfl (fun ls hl => ?_)
  obtain ⟨n9, h⟩ := h
  exact wk_X4_shortestSteady_6 S V hr hlocks x1   post  n9 (-1) 300 _ _ _ _ h  hw (lv_sub hl [2, 3, 1, 0] rfl)
theorem mt_X4_shortestSteady (l : Launch) (D : va_G) (q : ClassId × ClassId × ClassId × ClassId) (ad : Nat → Nat → Nat) (t : Nat × Nat) (aK aV : Nat → Nat) (x1 : Int32) (σ : St) (post : Int32 → St → Prop) (h : wp_X4_shortestSteady x1 post σ) : cI l D clA LC ad (EC q ad) (EvC D q ad t aK aV) yX4_shortestSteady cX4_shortestSteady 4 (some .int) { frames := 6, cells := 0, slots := 0, locals := 143 } [.ref (ad 16 0), .int x1] σ post :=
  ent_i (by decide) (Nat.le_of_ble_eq_true rfl) (fun p e s m below meth c S V hr hlocks hw ls hl => wk_X4_shortestSteady_0 S V hr hlocks x1  post   σ _ _ ls h  hw (lv_sub hl [0, 1] rfl))
def wp_X4_together_53 (o1 : Nat) (x2 : Int32) (x3 : Int32) (post : Int32 → St → Prop) (x4 : Int32) (σ : St) : Prop := post x4 σ
set_option maxHeartbeats 4000000 in
set_option maxRecDepth 100000 in
theorem wk_X4_together_53 {p : Program} {l : Launch} {e : Env} {s : State} {m : MethodId} {below : List Frame} {meth : Method} {c : Code} {D : va_G} {q : ClassId × ClassId × ClassId × ClassId} {ad : Nat → Nat → Nat} {t : Nat × Nat} {aK aV : Nat → Nat} {args : Array Value} (S : CallFix p m c cX4_together 6 s args GW "OnChin$Keeper") (V : EvC D q ad t aK aV s) (hr : meth.sig.returnType = (some .int)) (hlocks : meth.locks = false) (o1 : Nat) (x2 : Int32) (x3 : Int32) (ho1 : o1 < 5) (post : Int32 → St → Prop)  : ∀ (x4 : Int32) (σ : St) (H : Heap) (locs : List Loc) (ls : Array Slot), wp_X4_together_53 o1 x2 x3 post x4 σ → wo D clA LC ad s.heap H locs (EC q ad σ) → lv_has ls 6 [(0, .ref (ad 16 0)), (1, .ref (ad 2 o1)), (2, .int x2), (3, .int x3), (4, .int x4)] → W p l e { frames := 5, cells := 0, slots := 0, locals := 119 } s m args below meth c H locs 0 0 (MQ below (zQi D clA LC ad (EC q ad) post) args s 0 0 (zA LC ad)) (F0 m 53 ls []) := by
  have hx := S.1
  have hb := S.2.1
  intro x4 σ H locs ls h  hw hl
  refine lv_iload hx hb dX4_together_53 (lv_at hl 4 rfl) ?_
  exact ret_i S hr hlocks hw h dX4_together_55
def wp_X4_together_14 (o1 : Nat) (x2 : Int32) (x3 : Int32) (post : Int32 → St → Prop) : Nat → Int32 → Int32 → St → Prop
  | 0 => fun _ _ _ => False
  | n + 1 => fun x4 x5 σ => ((x5 < (-x2) → wp_X4_together_53 o1 x2 x3 post x4 σ) ∧ (¬ x5 < (-x2) → ((x4 ≤ x3 → wp_X4_together_53 o1 x2 x3 post x4 σ) ∧ (¬ x4 ≤ x3 → wp_X4_lasts o1 x5 0 400 (fun r1 σ1 => wp_X4_together_14 o1 x2 x3 post n (x4 - (400 - r1)) (x5 + (-1)) σ1) σ))))
set_option maxHeartbeats 4000000 in
set_option maxRecDepth 100000 in
theorem wk_X4_together_14 {p : Program} {l : Launch} {e : Env} {s : State} {m : MethodId} {below : List Frame} {meth : Method} {c : Code} {D : va_G} {q : ClassId × ClassId × ClassId × ClassId} {ad : Nat → Nat → Nat} {t : Nat × Nat} {aK aV : Nat → Nat} {args : Array Value} (S : CallFix p m c cX4_together 6 s args GW "OnChin$Keeper") (V : EvC D q ad t aK aV s) (hr : meth.sig.returnType = (some .int)) (hlocks : meth.locks = false) (o1 : Nat) (x2 : Int32) (x3 : Int32) (ho1 : o1 < 5) (post : Int32 → St → Prop)  : ∀ (n : Nat) (x4 : Int32) (x5 : Int32) (σ : St) (H : Heap) (locs : List Loc) (ls : Array Slot), wp_X4_together_14 o1 x2 x3 post n x4 x5 σ → wo D clA LC ad s.heap H locs (EC q ad σ) → lv_has ls 6 [(0, .ref (ad 16 0)), (1, .ref (ad 2 o1)), (2, .int x2), (3, .int x3), (4, .int x4), (5, .int x5)] → W p l e { frames := 5, cells := 0, slots := 0, locals := 119 } s m args below meth c H locs 0 0 (MQ below (zQi D clA LC ad (EC q ad) post) args s 0 0 (zA LC ad)) (F0 m 14 ls []) := by
  have hx := S.1
  have hb := S.2.1
  intro n
  induction n with
  | zero => intro x4 x5 σ H locs ls h; exact False.elim h
  | succ n ih =>
    intro x4 x5 σ H locs ls h  hw hl
    refine lv_iload hx hb dX4_together_14 (lv_at hl 5 rfl) ?_
    refine lv_iload_n hx hb dX4_together_16 rfl (lv_at hl 2 rfl) ?_
    refine lv_ineg hx hb dX4_together_17 ?_
    refine lv_icmp_lt (tgt := 53) hx hb dX4_together_18 (by decide) (fun hc => ?_) (fun hc => ?_)
    · have h := h.1 hc
      exact wk_X4_together_53 S V hr hlocks o1 x2 x3 ho1  post  x4 _ _ _ _ h  hw (lv_sub hl [0, 1, 2, 3, 4] rfl)
    · have h := h.2 hc
      refine lv_iload hx hb dX4_together_21 (lv_at hl 4 rfl) ?_
      refine lv_iload_n hx hb dX4_together_23 rfl (lv_at hl 3 rfl) ?_
      refine lv_icmp_le (tgt := 53) hx hb dX4_together_24 (by decide) (fun hc => ?_) (fun hc => ?_)
      · have h := h.1 hc
        exact wk_X4_together_53 S V hr hlocks o1 x2 x3 ho1  post  x4 _ _ _ _ h  hw (lv_sub hl [0, 1, 2, 3, 4] rfl)
      · have h := h.2 hc
        refine lv_iload hx hb dX4_together_27 (lv_at hl 4 rfl) ?_
        refine lv_sipush (v := 400) hx hb dX4_together_29 (by decide) ?_
        refine lv_aload_n hx hb dX4_together_32 rfl (lv_at hl 0 rfl) ?_
        refine lv_aload_n hx hb dX4_together_33 rfl (lv_at hl 1 rfl) ?_
        refine lv_iload hx hb dX4_together_34 (lv_at hl 5 rfl) ?_
        refine lv_iconst (v := 0) hx hb dX4_together_36 (by decide) ?_
        refine lv_sipush (v := 400) hx hb dX4_together_37 (by decide) ?_
        refine call_Vi (As := [.ref (ad 2 o1), .int x5, .int 0, .int 400]) (rest := [.int 400, .int x4]) EvC_ok S V hw (mt_X4_lasts l D q ad t aK aV o1 x5 0 400 ho1 σ _ h) ok_X4_lasts ml_X4_70 (rC_16 S V hw (Nat.le_of_ble_eq_true rfl)) ⟨(Nat.le_of_ble_eq_true rfl), (Nat.le_of_ble_eq_true rfl)⟩ ⟨rfl, rfl⟩ rfl hl.1 rfl (Nat.le_of_ble_eq_true rfl) dX4_together_40 (fun r1 σ1 H locs h hw => ?_)
        refine lv_isub hx hb dX4_together_43 ?_
        refine lv_isub hx hb dX4_together_44 ?_
        refine lv_istore (lv' := [(4, .int (x4 - (400 - r1))), (0, .ref (ad 16 0)), (1, .ref (ad 2 o1)), (2, .int x2), (3, .int x3), (5, .int x5)]) hx hb dX4_together_45 hl (by decide) rfl (fun ls hl => ?_)
        refine lv_iinc (v := (x5 + (-1))) (lv' := [(5, .int (x5 + (-1))), (4, .int (x4 - (400 - r1))), (0, .ref (ad 16 0)), (1, .ref (ad 2 o1)), (2, .int x2), (3, .int x3)]) hx hb dX4_together_47 hl (k := 5) rfl rfl (by decide) rfl (fun ls hl => ?_)
        refine lv_goto (tgt := 14) hx hb dX4_together_50 (by decide) ?_
        exact ih (x4 - (400 - r1)) (x5 + (-1)) _ _ _ _ h  hw (lv_sub hl [2, 3, 4, 5, 1, 0] rfl)
def wp_X4_together (o1 : Nat) (x2 : Int32) (x3 : Int32) (post : Int32 → St → Prop)  (σ : St) : Prop := ∃ nn, wp_X4_together_14 o1 x2 x3 post nn (400 * ((2 * x2) + 1)) x2 σ
set_option maxHeartbeats 4000000 in
set_option maxRecDepth 100000 in
theorem wk_X4_together_0 {p : Program} {l : Launch} {e : Env} {s : State} {m : MethodId} {below : List Frame} {meth : Method} {c : Code} {D : va_G} {q : ClassId × ClassId × ClassId × ClassId} {ad : Nat → Nat → Nat} {t : Nat × Nat} {aK aV : Nat → Nat} {args : Array Value} (S : CallFix p m c cX4_together 6 s args GW "OnChin$Keeper") (V : EvC D q ad t aK aV s) (hr : meth.sig.returnType = (some .int)) (hlocks : meth.locks = false) (o1 : Nat) (x2 : Int32) (x3 : Int32) (ho1 : o1 < 5) (post : Int32 → St → Prop)  : ∀ (σ : St) (H : Heap) (locs : List Loc) (ls : Array Slot), wp_X4_together o1 x2 x3 post  σ → wo D clA LC ad s.heap H locs (EC q ad σ) → lv_has ls 6 [(0, .ref (ad 16 0)), (1, .ref (ad 2 o1)), (2, .int x2), (3, .int x3)] → W p l e { frames := 5, cells := 0, slots := 0, locals := 119 } s m args below meth c H locs 0 0 (MQ below (zQi D clA LC ad (EC q ad) post) args s 0 0 (zA LC ad)) (F0 m 0 ls []) := by
  have hx := S.1
  have hb := S.2.1
  intro  σ H locs ls h  hw hl
  refine lv_sipush (v := 400) hx hb dX4_together_0 (by decide) ?_
  refine lv_iconst (v := 2) hx hb dX4_together_3 (by decide) ?_
  refine lv_iload_n hx hb dX4_together_4 rfl (lv_at hl 2 rfl) ?_
  refine lv_imul hx hb dX4_together_5 ?_
  refine lv_iconst (v := 1) hx hb dX4_together_6 (by decide) ?_
  refine lv_iadd hx hb dX4_together_7 ?_
  refine lv_imul hx hb dX4_together_8 ?_
  refine lv_istore (lv' := [(4, .int (400 * ((2 * x2) + 1))), (0, .ref (ad 16 0)), (1, .ref (ad 2 o1)), (2, .int x2), (3, .int x3)]) hx hb dX4_together_9 hl (by decide) rfl (fun ls hl => ?_)
  refine lv_iload_n hx hb dX4_together_11 rfl (lv_at hl 3 rfl) ?_
  refine lv_istore (lv' := [(5, .int x2), (4, .int (400 * ((2 * x2) + 1))), (0, .ref (ad 16 0)), (1, .ref (ad 2 o1)), (2, .int x2), (3, .int x3)]) hx hb dX4_together_12 hl (by decide) rfl (fun ls hl => ?_)
  obtain ⟨n9, h⟩ := h
  exact wk_X4_together_14 S V hr hlocks o1 x2 x3 ho1  post  n9 (400 * ((2 * x2) + 1)) x2 _ _ _ _ h  hw (lv_sub hl [2, 3, 4, 5, 1, 0] rfl)
theorem mt_X4_together (l : Launch) (D : va_G) (q : ClassId × ClassId × ClassId × ClassId) (ad : Nat → Nat → Nat) (t : Nat × Nat) (aK aV : Nat → Nat) (o1 : Nat) (x2 : Int32) (x3 : Int32) (ho1 : o1 < 5) (σ : St) (post : Int32 → St → Prop) (h : wp_X4_together o1 x2 x3 post σ) : cI l D clA LC ad (EC q ad) (EvC D q ad t aK aV) yX4_together cX4_together 6 (some .int) { frames := 5, cells := 0, slots := 0, locals := 119 } [.ref (ad 16 0), .ref (ad 2 o1), .int x2, .int x3] σ post :=
  ent_i (by decide) (Nat.le_of_ble_eq_true rfl) (fun p e s m below meth c S V hr hlocks hw ls hl => wk_X4_together_0 S V hr hlocks o1 x2 x3 ho1 post   σ _ _ ls h  hw (lv_sub hl [0, 1, 2, 3] rfl))
def wp_X4_bestRule_130 (o1 : Nat) (x2 : Int32) (x3 : Int32) (post : Int32 → St → Prop) (xs0 : Int32) (σ : St) : Prop := post xs0 σ
set_option maxHeartbeats 4000000 in
set_option maxRecDepth 100000 in
theorem wk_X4_bestRule_130 {p : Program} {l : Launch} {e : Env} {s : State} {m : MethodId} {below : List Frame} {meth : Method} {c : Code} {D : va_G} {q : ClassId × ClassId × ClassId × ClassId} {ad : Nat → Nat → Nat} {t : Nat × Nat} {aK aV : Nat → Nat} {args : Array Value} (S : CallFix p m c cX4_bestRule 11 s args GW "OnChin$Keeper") (V : EvC D q ad t aK aV s) (hr : meth.sig.returnType = (some .int)) (hlocks : meth.locks = false) (o1 : Nat) (x2 : Int32) (x3 : Int32) (ho1 : o1 < 5) (post : Int32 → St → Prop)  : ∀ (xs0 : Int32) (σ : St) (H : Heap) (locs : List Loc) (ls : Array Slot), wp_X4_bestRule_130 o1 x2 x3 post xs0 σ → wo D clA LC ad s.heap H locs (EC q ad σ) → lv_has ls 11 [(0, .ref (ad 16 0)), (1, .ref (ad 2 o1)), (2, .int x2), (3, .int x3)] → W p l e { frames := 6, cells := 0, slots := 0, locals := 144 } s m args below meth c H locs 0 0 (MQ below (zQi D clA LC ad (EC q ad) post) args s 0 0 (zA LC ad)) (F0 m 130 ls [.int xs0]) := by
  have hx := S.1
  have hb := S.2.1
  intro xs0 σ H locs ls h  hw hl
  exact ret_i S hr hlocks hw h dX4_bestRule_130
def wp_X4_bestRule_111 (o1 : Nat) (x2 : Int32) (x3 : Int32) (post : Int32 → St → Prop) (x4 : Int32) (x5 : Int32) (x6 : Int32) (σ : St) : Prop := ((¬ x3 = 0 → ((¬ x3 = 1 → wp_X4_bestRule_130 o1 x2 x3 post x6 σ) ∧ (x3 = 1 → wp_X4_bestRule_130 o1 x2 x3 post x5 σ))) ∧ (x3 = 0 → post x4 σ))
set_option maxHeartbeats 4000000 in
set_option maxRecDepth 100000 in
theorem wk_X4_bestRule_111 {p : Program} {l : Launch} {e : Env} {s : State} {m : MethodId} {below : List Frame} {meth : Method} {c : Code} {D : va_G} {q : ClassId × ClassId × ClassId × ClassId} {ad : Nat → Nat → Nat} {t : Nat × Nat} {aK aV : Nat → Nat} {args : Array Value} (S : CallFix p m c cX4_bestRule 11 s args GW "OnChin$Keeper") (V : EvC D q ad t aK aV s) (hr : meth.sig.returnType = (some .int)) (hlocks : meth.locks = false) (o1 : Nat) (x2 : Int32) (x3 : Int32) (ho1 : o1 < 5) (post : Int32 → St → Prop)  : ∀ (x4 : Int32) (x5 : Int32) (x6 : Int32) (σ : St) (H : Heap) (locs : List Loc) (ls : Array Slot), wp_X4_bestRule_111 o1 x2 x3 post x4 x5 x6 σ → wo D clA LC ad s.heap H locs (EC q ad σ) → lv_has ls 11 [(0, .ref (ad 16 0)), (1, .ref (ad 2 o1)), (2, .int x2), (3, .int x3), (4, .int x4), (5, .int x5), (6, .int x6)] → W p l e { frames := 6, cells := 0, slots := 0, locals := 144 } s m args below meth c H locs 0 0 (MQ below (zQi D clA LC ad (EC q ad) post) args s 0 0 (zA LC ad)) (F0 m 111 ls []) := by
  have hx := S.1
  have hb := S.2.1
  intro x4 x5 x6 σ H locs ls h  hw hl
  refine lv_iload_n hx hb dX4_bestRule_111 rfl (lv_at hl 3 rfl) ?_
  refine lv_if_ne (tgt := 118) hx hb dX4_bestRule_112 (by decide) (fun hc => ?_) (fun hc => ?_)
  · have h := h.1 hc
    refine lv_iload_n hx hb dX4_bestRule_118 rfl (lv_at hl 3 rfl) ?_
    refine lv_iconst (v := 1) hx hb dX4_bestRule_119 (by decide) ?_
    refine lv_icmp_ne (tgt := 128) hx hb dX4_bestRule_120 (by decide) (fun hc => ?_) (fun hc => ?_)
    · have h := h.1 hc
      refine lv_iload hx hb dX4_bestRule_128 (lv_at hl 6 rfl) ?_
      exact wk_X4_bestRule_130 S V hr hlocks o1 x2 x3 ho1  post  x6 _ _ _ _ h  hw (lv_sub hl [0, 1, 2, 3] rfl)
    · have h := h.2 hc
      refine lv_iload hx hb dX4_bestRule_123 (lv_at hl 5 rfl) ?_
      refine lv_goto (tgt := 130) hx hb dX4_bestRule_125 (by decide) ?_
      exact wk_X4_bestRule_130 S V hr hlocks o1 x2 x3 ho1  post  x5 _ _ _ _ h  hw (lv_sub hl [0, 1, 2, 3] rfl)
  · have h := h.2 hc
    refine lv_iload hx hb dX4_bestRule_115 (lv_at hl 4 rfl) ?_
    exact ret_i S hr hlocks hw h dX4_bestRule_117
def wp_X4_bestRule_105 (o1 : Nat) (x2 : Int32) (x3 : Int32) (K23 : Int32 → Int32 → Int32 → Int32 → Int32 → St → Prop) (post : Int32 → St → Prop) (x4 : Int32) (x5 : Int32) (x6 : Int32) (x7 : Int32) (x8 : Int32) (σ : St) : Prop := K23 x4 x5 x6 x7 (x8 + 1) σ
set_option maxHeartbeats 4000000 in
set_option maxRecDepth 100000 in
theorem wk_X4_bestRule_105 {p : Program} {l : Launch} {e : Env} {s : State} {m : MethodId} {below : List Frame} {meth : Method} {c : Code} {D : va_G} {q : ClassId × ClassId × ClassId × ClassId} {ad : Nat → Nat → Nat} {t : Nat × Nat} {aK aV : Nat → Nat} {args : Array Value} (S : CallFix p m c cX4_bestRule 11 s args GW "OnChin$Keeper") (V : EvC D q ad t aK aV s) (hr : meth.sig.returnType = (some .int)) (hlocks : meth.locks = false) (o1 : Nat) (x2 : Int32) (x3 : Int32) (ho1 : o1 < 5) (K23 : Int32 → Int32 → Int32 → Int32 → Int32 → St → Prop) (post : Int32 → St → Prop) (hK23 : ∀ (x4 : Int32) (x5 : Int32) (x6 : Int32) (x7 : Int32) (x8 : Int32) (σ : St) (H : Heap) (locs : List Loc) (ls : Array Slot), K23 x4 x5 x6 x7 x8 σ → wo D clA LC ad s.heap H locs (EC q ad σ) → lv_has ls 11 [(0, .ref (ad 16 0)), (1, .ref (ad 2 o1)), (2, .int x2), (3, .int x3), (4, .int x4), (5, .int x5), (6, .int x6), (7, .int x7), (8, .int x8)] → W p l e { frames := 6, cells := 0, slots := 0, locals := 144 } s m args below meth c H locs 0 0 (MQ below (zQi D clA LC ad (EC q ad) post) args s 0 0 (zA LC ad)) (F0 m 23 ls [])) : ∀ (x4 : Int32) (x5 : Int32) (x6 : Int32) (x7 : Int32) (x8 : Int32) (σ : St) (H : Heap) (locs : List Loc) (ls : Array Slot), wp_X4_bestRule_105 o1 x2 x3 K23 post x4 x5 x6 x7 x8 σ → wo D clA LC ad s.heap H locs (EC q ad σ) → lv_has ls 11 [(0, .ref (ad 16 0)), (1, .ref (ad 2 o1)), (2, .int x2), (3, .int x3), (4, .int x4), (5, .int x5), (6, .int x6), (7, .int x7), (8, .int x8)] → W p l e { frames := 6, cells := 0, slots := 0, locals := 144 } s m args below meth c H locs 0 0 (MQ below (zQi D clA LC ad (EC q ad) post) args s 0 0 (zA LC ad)) (F0 m 105 ls []) := by
  have hx := S.1
  have hb := S.2.1
  intro x4 x5 x6 x7 x8 σ H locs ls h  hw hl
  refine lv_iinc (v := (x8 + 1)) (lv' := [(8, .int (x8 + 1)), (0, .ref (ad 16 0)), (1, .ref (ad 2 o1)), (2, .int x2), (3, .int x3), (4, .int x4), (5, .int x5), (6, .int x6), (7, .int x7)]) hx hb dX4_bestRule_105 hl (k := 8) rfl rfl (by decide) rfl (fun ls hl => ?_)
  refine lv_goto (tgt := 23) hx hb dX4_bestRule_108 (by decide) ?_
  exact hK23 x4 x5 x6 x7 (x8 + 1) _ _ _ _ h  hw (lv_sub hl [1, 2, 3, 4, 5, 6, 7, 8, 0] rfl)
def wp_X4_bestRule_99 (o1 : Nat) (x2 : Int32) (x3 : Int32) (K23 : Int32 → Int32 → Int32 → Int32 → Int32 → St → Prop) (K40 : Int32 → Int32 → Int32 → Int32 → Int32 → Int32 → St → Prop) (post : Int32 → St → Prop) (x4 : Int32) (x5 : Int32) (x6 : Int32) (x7 : Int32) (x8 : Int32) (x9 : Int32) (σ : St) : Prop := K40 x4 x5 x6 x7 x8 (x9 + 1) σ
set_option maxHeartbeats 4000000 in
set_option maxRecDepth 100000 in
theorem wk_X4_bestRule_99 {p : Program} {l : Launch} {e : Env} {s : State} {m : MethodId} {below : List Frame} {meth : Method} {c : Code} {D : va_G} {q : ClassId × ClassId × ClassId × ClassId} {ad : Nat → Nat → Nat} {t : Nat × Nat} {aK aV : Nat → Nat} {args : Array Value} (S : CallFix p m c cX4_bestRule 11 s args GW "OnChin$Keeper") (V : EvC D q ad t aK aV s) (hr : meth.sig.returnType = (some .int)) (hlocks : meth.locks = false) (o1 : Nat) (x2 : Int32) (x3 : Int32) (ho1 : o1 < 5) (K23 : Int32 → Int32 → Int32 → Int32 → Int32 → St → Prop) (K40 : Int32 → Int32 → Int32 → Int32 → Int32 → Int32 → St → Prop) (post : Int32 → St → Prop) (hK23 : ∀ (x4 : Int32) (x5 : Int32) (x6 : Int32) (x7 : Int32) (x8 : Int32) (σ : St) (H : Heap) (locs : List Loc) (ls : Array Slot), K23 x4 x5 x6 x7 x8 σ → wo D clA LC ad s.heap H locs (EC q ad σ) → lv_has ls 11 [(0, .ref (ad 16 0)), (1, .ref (ad 2 o1)), (2, .int x2), (3, .int x3), (4, .int x4), (5, .int x5), (6, .int x6), (7, .int x7), (8, .int x8)] → W p l e { frames := 6, cells := 0, slots := 0, locals := 144 } s m args below meth c H locs 0 0 (MQ below (zQi D clA LC ad (EC q ad) post) args s 0 0 (zA LC ad)) (F0 m 23 ls [])) (hK40 : ∀ (x4 : Int32) (x5 : Int32) (x6 : Int32) (x7 : Int32) (x8 : Int32) (x9 : Int32) (σ : St) (H : Heap) (locs : List Loc) (ls : Array Slot), K40 x4 x5 x6 x7 x8 x9 σ → wo D clA LC ad s.heap H locs (EC q ad σ) → lv_has ls 11 [(0, .ref (ad 16 0)), (1, .ref (ad 2 o1)), (2, .int x2), (3, .int x3), (4, .int x4), (5, .int x5), (6, .int x6), (7, .int x7), (8, .int x8), (9, .int x9)] → W p l e { frames := 6, cells := 0, slots := 0, locals := 144 } s m args below meth c H locs 0 0 (MQ below (zQi D clA LC ad (EC q ad) post) args s 0 0 (zA LC ad)) (F0 m 40 ls [])) : ∀ (x4 : Int32) (x5 : Int32) (x6 : Int32) (x7 : Int32) (x8 : Int32) (x9 : Int32) (σ : St) (H : Heap) (locs : List Loc) (ls : Array Slot), wp_X4_bestRule_99 o1 x2 x3 K23 K40 post x4 x5 x6 x7 x8 x9 σ → wo D clA LC ad s.heap H locs (EC q ad σ) → lv_has ls 11 [(0, .ref (ad 16 0)), (1, .ref (ad 2 o1)), (2, .int x2), (3, .int x3), (4, .int x4), (5, .int x5), (6, .int x6), (7, .int x7), (8, .int x8), (9, .int x9)] → W p l e { frames := 6, cells := 0, slots := 0, locals := 144 } s m args below meth c H locs 0 0 (MQ below (zQi D clA LC ad (EC q ad) post) args s 0 0 (zA LC ad)) (F0 m 99 ls []) := by
  have hx := S.1
  have hb := S.2.1
  intro x4 x5 x6 x7 x8 x9 σ H locs ls h  hw hl
  refine lv_iinc (v := (x9 + 1)) (lv' := [(9, .int (x9 + 1)), (0, .ref (ad 16 0)), (1, .ref (ad 2 o1)), (2, .int x2), (3, .int x3), (4, .int x4), (5, .int x5), (6, .int x6), (7, .int x7), (8, .int x8)]) hx hb dX4_bestRule_99 hl (k := 9) rfl rfl (by decide) rfl (fun ls hl => ?_)
  refine lv_goto (tgt := 40) hx hb dX4_bestRule_102 (by decide) ?_
  exact hK40 x4 x5 x6 x7 x8 (x9 + 1) _ _ _ _ h  hw (lv_sub hl [1, 2, 3, 4, 5, 6, 7, 8, 9, 0] rfl)
def wp_X4_bestRule_40 (o1 : Nat) (x2 : Int32) (x3 : Int32) (K23 : Int32 → Int32 → Int32 → Int32 → Int32 → St → Prop) (post : Int32 → St → Prop) : Nat → Int32 → Int32 → Int32 → Int32 → Int32 → Int32 → St → Prop
  | 0 => fun _ _ _ _ _ _ _ => False
  | n + 1 => fun x4 x5 x6 x7 x8 x9 σ => ((20 < x9 → wp_X4_bestRule_105 o1 x2 x3 K23 post x4 x5 x6 x7 x8 σ) ∧ (¬ 20 < x9 → ((x7 ≤ x4 → wp_X4_bestRule_105 o1 x2 x3 K23 post x4 x5 x6 x7 x8 σ) ∧ (¬ x7 ≤ x4 → wp_X4_together o1 x2 x4 (fun r1 σ1 => ((r1 ≤ x4 → wp_X4_bestRule_99 o1 x2 x3 K23 (fun y0 y1 y2 y3 y4 y5 τ => wp_X4_bestRule_40 o1 x2 x3 K23 post n y0 y1 y2 y3 y4 y5 τ) post x4 x5 x6 x7 x8 x9 σ1) ∧ (¬ r1 ≤ x4 → wp_X4_bestRule_99 o1 x2 x3 K23 (fun y0 y1 y2 y3 y4 y5 τ => wp_X4_bestRule_40 o1 x2 x3 K23 post n y0 y1 y2 y3 y4 y5 τ) post r1 x8 x9 x7 x8 x9 σ1))) (su (su σ 6 1 0 x8) 6 1 1 x9)))))
set_option maxHeartbeats 4000000 in
set_option maxRecDepth 100000 in
theorem wk_X4_bestRule_40 {p : Program} {l : Launch} {e : Env} {s : State} {m : MethodId} {below : List Frame} {meth : Method} {c : Code} {D : va_G} {q : ClassId × ClassId × ClassId × ClassId} {ad : Nat → Nat → Nat} {t : Nat × Nat} {aK aV : Nat → Nat} {args : Array Value} (S : CallFix p m c cX4_bestRule 11 s args GW "OnChin$Keeper") (V : EvC D q ad t aK aV s) (hr : meth.sig.returnType = (some .int)) (hlocks : meth.locks = false) (o1 : Nat) (x2 : Int32) (x3 : Int32) (ho1 : o1 < 5) (K23 : Int32 → Int32 → Int32 → Int32 → Int32 → St → Prop) (post : Int32 → St → Prop) (hK23 : ∀ (x4 : Int32) (x5 : Int32) (x6 : Int32) (x7 : Int32) (x8 : Int32) (σ : St) (H : Heap) (locs : List Loc) (ls : Array Slot), K23 x4 x5 x6 x7 x8 σ → wo D clA LC ad s.heap H locs (EC q ad σ) → lv_has ls 11 [(0, .ref (ad 16 0)), (1, .ref (ad 2 o1)), (2, .int x2), (3, .int x3), (4, .int x4), (5, .int x5), (6, .int x6), (7, .int x7), (8, .int x8)] → W p l e { frames := 6, cells := 0, slots := 0, locals := 144 } s m args below meth c H locs 0 0 (MQ below (zQi D clA LC ad (EC q ad) post) args s 0 0 (zA LC ad)) (F0 m 23 ls [])) : ∀ (n : Nat) (x4 : Int32) (x5 : Int32) (x6 : Int32) (x7 : Int32) (x8 : Int32) (x9 : Int32) (σ : St) (H : Heap) (locs : List Loc) (ls : Array Slot), wp_X4_bestRule_40 o1 x2 x3 K23 post n x4 x5 x6 x7 x8 x9 σ → wo D clA LC ad s.heap H locs (EC q ad σ) → lv_has ls 11 [(0, .ref (ad 16 0)), (1, .ref (ad 2 o1)), (2, .int x2), (3, .int x3), (4, .int x4), (5, .int x5), (6, .int x6), (7, .int x7), (8, .int x8), (9, .int x9)] → W p l e { frames := 6, cells := 0, slots := 0, locals := 144 } s m args below meth c H locs 0 0 (MQ below (zQi D clA LC ad (EC q ad) post) args s 0 0 (zA LC ad)) (F0 m 40 ls []) := by
  have hx := S.1
  have hb := S.2.1
  intro n
  induction n with
  | zero => intro x4 x5 x6 x7 x8 x9 σ H locs ls h; exact False.elim h
  | succ n ih =>
    intro x4 x5 x6 x7 x8 x9 σ H locs ls h  hw hl
    refine lv_iload hx hb dX4_bestRule_40 (lv_at hl 9 rfl) ?_
    refine lv_bipush (v := 20) hx hb dX4_bestRule_42 (by decide) ?_
    refine lv_icmp_gt (tgt := 105) hx hb dX4_bestRule_44 (by decide) (fun hc => ?_) (fun hc => ?_)
    · have h := h.1 hc
      exact wk_X4_bestRule_105 S V hr hlocks o1 x2 x3 ho1 K23 post hK23 x4 x5 x6 x7 x8 _ _ _ _ h  hw (lv_sub hl [0, 1, 2, 3, 4, 5, 6, 7, 8] rfl)
    · have h := h.2 hc
      refine lv_iload hx hb dX4_bestRule_47 (lv_at hl 4 rfl) ?_
      refine lv_iload hx hb dX4_bestRule_49 (lv_at hl 7 rfl) ?_
      refine lv_icmp_ge (tgt := 105) hx hb dX4_bestRule_51 (by decide) (fun hc => ?_) (fun hc => ?_)
      · have h := h.1 hc
        exact wk_X4_bestRule_105 S V hr hlocks o1 x2 x3 ho1 K23 post hK23 x4 x5 x6 x7 x8 _ _ _ _ h  hw (lv_sub hl [0, 1, 2, 3, 4, 5, 6, 7, 8] rfl)
      · have h := h.2 hc
        refine lv_aload_n hx hb dX4_bestRule_54 rfl (lv_at hl 0 rfl) ?_
        refine gC_16_0 S V hw (Nat.le_of_ble_eq_true rfl) fl_X4_9 dX4_bestRule_55 ?_
        refine lv_iconst (v := 0) hx hb dX4_bestRule_58 (by decide) ?_
        refine lv_iload hx hb dX4_bestRule_59 (lv_at hl 8 rfl) ?_
        refine sC_6 S V hw (Nat.le_of_ble_eq_true rfl) (vp_in_nI (n := 0) (Nat.le_of_ble_eq_true rfl) (Nat.le_of_ble_eq_true rfl)) dX4_bestRule_61 (fun H locs hw => ?_)
        have hw : wo D clA LC ad s.heap H locs (EC q ad (su σ 6 1 0 x8)) := hw
        refine lv_aload_n hx hb dX4_bestRule_62 rfl (lv_at hl 0 rfl) ?_
        refine gC_16_0 S V hw (Nat.le_of_ble_eq_true rfl) fl_X4_9 dX4_bestRule_63 ?_
        refine lv_iconst (v := 1) hx hb dX4_bestRule_66 (by decide) ?_
        refine lv_iload hx hb dX4_bestRule_67 (lv_at hl 9 rfl) ?_
        refine sC_6 S V hw (Nat.le_of_ble_eq_true rfl) (vp_in_nI (n := 1) (Nat.le_of_ble_eq_true rfl) (Nat.le_of_ble_eq_true rfl)) dX4_bestRule_69 (fun H locs hw => ?_)
        have hw : wo D clA LC ad s.heap H locs (EC q ad (su (su σ 6 1 0 x8) 6 1 1 x9)) := hw
        refine lv_aload_n hx hb dX4_bestRule_70 rfl (lv_at hl 0 rfl) ?_
        refine lv_aload_n hx hb dX4_bestRule_71 rfl (lv_at hl 1 rfl) ?_
        refine lv_iload_n hx hb dX4_bestRule_72 rfl (lv_at hl 2 rfl) ?_
        refine lv_iload hx hb dX4_bestRule_73 (lv_at hl 4 rfl) ?_
        refine call_Vi (As := [.ref (ad 2 o1), .int x2, .int x4]) (rest := []) EvC_ok S V hw (mt_X4_together l D q ad t aK aV o1 x2 x4 ho1 (su (su σ 6 1 0 x8) 6 1 1 x9) _ h) ok_X4_together ml_X4_91 (rC_16 S V hw (Nat.le_of_ble_eq_true rfl)) ⟨(Nat.le_of_ble_eq_true rfl), (Nat.le_of_ble_eq_true rfl)⟩ ⟨rfl, rfl⟩ rfl hl.1 rfl (Nat.le_of_ble_eq_true rfl) dX4_bestRule_75 (fun r1 σ1 H locs h hw => ?_)
        refine lv_istore (lv' := [(10, .int r1), (0, .ref (ad 16 0)), (1, .ref (ad 2 o1)), (2, .int x2), (3, .int x3), (4, .int x4), (5, .int x5), (6, .int x6), (7, .int x7), (8, .int x8), (9, .int x9)]) hx hb dX4_bestRule_78 hl (by decide) rfl (fun ls hl => ?_)
        refine lv_iload hx hb dX4_bestRule_80 (lv_at hl 0 rfl) ?_
        refine lv_iload hx hb dX4_bestRule_82 (lv_at hl 5 rfl) ?_
        refine lv_icmp_le (tgt := 99) hx hb dX4_bestRule_84 (by decide) (fun hc => ?_) (fun hc => ?_)
        · have h := h.1 hc
          exact wk_X4_bestRule_99 S V hr hlocks o1 x2 x3 ho1 K23 (fun y0 y1 y2 y3 y4 y5 τ => wp_X4_bestRule_40 o1 x2 x3 K23 post n y0 y1 y2 y3 y4 y5 τ) post hK23 ih x4 x5 x6 x7 x8 x9 _ _ _ _ h  hw (lv_sub hl [1, 2, 3, 4, 5, 6, 7, 8, 9, 10] rfl)
        · have h := h.2 hc
          refine lv_iload hx hb dX4_bestRule_87 (lv_at hl 0 rfl) ?_
          refine lv_istore (lv' := [(4, .int r1), (10, .int r1), (0, .ref (ad 16 0)), (1, .ref (ad 2 o1)), (2, .int x2), (3, .int x3), (5, .int x5), (6, .int x6), (7, .int x7), (8, .int x8), (9, .int x9)]) hx hb dX4_bestRule_89 hl (by decide) rfl (fun ls hl => ?_)
          refine lv_iload hx hb dX4_bestRule_91 (lv_at hl 9 rfl) ?_
          refine lv_istore (lv' := [(5, .int x8), (4, .int r1), (10, .int r1), (0, .ref (ad 16 0)), (1, .ref (ad 2 o1)), (2, .int x2), (3, .int x3), (6, .int x6), (7, .int x7), (8, .int x8), (9, .int x9)]) hx hb dX4_bestRule_93 hl (by decide) rfl (fun ls hl => ?_)
          refine lv_iload hx hb dX4_bestRule_95 (lv_at hl 10 rfl) ?_
          refine lv_istore (lv' := [(6, .int x9), (5, .int x8), (4, .int r1), (10, .int r1), (0, .ref (ad 16 0)), (1, .ref (ad 2 o1)), (2, .int x2), (3, .int x3), (7, .int x7), (8, .int x8), (9, .int x9)]) hx hb dX4_bestRule_97 hl (by decide) rfl (fun ls hl => ?_)
          exact wk_X4_bestRule_99 S V hr hlocks o1 x2 x3 ho1 K23 (fun y0 y1 y2 y3 y4 y5 τ => wp_X4_bestRule_40 o1 x2 x3 K23 post n y0 y1 y2 y3 y4 y5 τ) post hK23 ih r1 x8 x9 x7 x8 x9 _ _ _ _ h  hw (lv_sub hl [4, 5, 6, 7, 2, 1, 0, 8, 9, 10] rfl)
def wp_X4_bestRule_23 (o1 : Nat) (x2 : Int32) (x3 : Int32) (post : Int32 → St → Prop) : Nat → Int32 → Int32 → Int32 → Int32 → Int32 → St → Prop
  | 0 => fun _ _ _ _ _ _ => False
  | n + 1 => fun x4 x5 x6 x7 x8 σ => ((20 < x8 → wp_X4_bestRule_111 o1 x2 x3 post x4 x5 x6 σ) ∧ (¬ 20 < x8 → ((x7 ≤ x4 → wp_X4_bestRule_111 o1 x2 x3 post x4 x5 x6 σ) ∧ (¬ x7 ≤ x4 → ∃ nn, wp_X4_bestRule_40 o1 x2 x3 (fun y0 y1 y2 y3 y4 τ => wp_X4_bestRule_23 o1 x2 x3 post n y0 y1 y2 y3 y4 τ) post nn x4 x5 x6 x7 x8 0 σ))))
set_option maxHeartbeats 4000000 in
set_option maxRecDepth 100000 in
theorem wk_X4_bestRule_23 {p : Program} {l : Launch} {e : Env} {s : State} {m : MethodId} {below : List Frame} {meth : Method} {c : Code} {D : va_G} {q : ClassId × ClassId × ClassId × ClassId} {ad : Nat → Nat → Nat} {t : Nat × Nat} {aK aV : Nat → Nat} {args : Array Value} (S : CallFix p m c cX4_bestRule 11 s args GW "OnChin$Keeper") (V : EvC D q ad t aK aV s) (hr : meth.sig.returnType = (some .int)) (hlocks : meth.locks = false) (o1 : Nat) (x2 : Int32) (x3 : Int32) (ho1 : o1 < 5) (post : Int32 → St → Prop)  : ∀ (n : Nat) (x4 : Int32) (x5 : Int32) (x6 : Int32) (x7 : Int32) (x8 : Int32) (σ : St) (H : Heap) (locs : List Loc) (ls : Array Slot), wp_X4_bestRule_23 o1 x2 x3 post n x4 x5 x6 x7 x8 σ → wo D clA LC ad s.heap H locs (EC q ad σ) → lv_has ls 11 [(0, .ref (ad 16 0)), (1, .ref (ad 2 o1)), (2, .int x2), (3, .int x3), (4, .int x4), (5, .int x5), (6, .int x6), (7, .int x7), (8, .int x8)] → W p l e { frames := 6, cells := 0, slots := 0, locals := 144 } s m args below meth c H locs 0 0 (MQ below (zQi D clA LC ad (EC q ad) post) args s 0 0 (zA LC ad)) (F0 m 23 ls []) := by
  have hx := S.1
  have hb := S.2.1
  intro n
  induction n with
  | zero => intro x4 x5 x6 x7 x8 σ H locs ls h; exact False.elim h
  | succ n ih =>
    intro x4 x5 x6 x7 x8 σ H locs ls h  hw hl
    refine lv_iload hx hb dX4_bestRule_23 (lv_at hl 8 rfl) ?_
    refine lv_bipush (v := 20) hx hb dX4_bestRule_25 (by decide) ?_
    refine lv_icmp_gt (tgt := 111) hx hb dX4_bestRule_27 (by decide) (fun hc => ?_) (fun hc => ?_)
    · have h := h.1 hc
      exact wk_X4_bestRule_111 S V hr hlocks o1 x2 x3 ho1  post  x4 x5 x6 _ _ _ _ h  hw (lv_sub hl [0, 1, 2, 3, 4, 5, 6] rfl)
    · have h := h.2 hc
      refine lv_iload hx hb dX4_bestRule_30 (lv_at hl 4 rfl) ?_
      refine lv_iload hx hb dX4_bestRule_32 (lv_at hl 7 rfl) ?_
      refine lv_icmp_ge (tgt := 111) hx hb dX4_bestRule_34 (by decide) (fun hc => ?_) (fun hc => ?_)
      · have h := h.1 hc
        exact wk_X4_bestRule_111 S V hr hlocks o1 x2 x3 ho1  post  x4 x5 x6 _ _ _ _ h  hw (lv_sub hl [0, 1, 2, 3, 4, 5, 6] rfl)
      · have h := h.2 hc
        refine lv_iconst (v := 0) hx hb dX4_bestRule_37 (by decide) ?_
        refine lv_istore (lv' := [(9, .int 0), (0, .ref (ad 16 0)), (1, .ref (ad 2 o1)), (2, .int x2), (3, .int x3), (4, .int x4), (5, .int x5), (6, .int x6), (7, .int x7), (8, .int x8)]) hx hb dX4_bestRule_38 hl (by decide) rfl (fun ls hl => ?_)
        obtain ⟨n9, h⟩ := h
        exact wk_X4_bestRule_40 S V hr hlocks o1 x2 x3 ho1 (fun y0 y1 y2 y3 y4 τ => wp_X4_bestRule_23 o1 x2 x3 post n y0 y1 y2 y3 y4 τ) post ih n9 x4 x5 x6 x7 x8 0 _ _ _ _ h  hw (lv_sub hl [1, 2, 3, 4, 5, 6, 7, 8, 9, 0] rfl)
def wp_X4_bestRule (o1 : Nat) (x2 : Int32) (x3 : Int32) (post : Int32 → St → Prop)  (σ : St) : Prop := ∃ nn, wp_X4_bestRule_23 o1 x2 x3 post nn (-1) 0 0 (400 * ((2 * x2) + 1)) 0 σ
set_option maxHeartbeats 4000000 in
set_option maxRecDepth 100000 in
theorem wk_X4_bestRule_0 {p : Program} {l : Launch} {e : Env} {s : State} {m : MethodId} {below : List Frame} {meth : Method} {c : Code} {D : va_G} {q : ClassId × ClassId × ClassId × ClassId} {ad : Nat → Nat → Nat} {t : Nat × Nat} {aK aV : Nat → Nat} {args : Array Value} (S : CallFix p m c cX4_bestRule 11 s args GW "OnChin$Keeper") (V : EvC D q ad t aK aV s) (hr : meth.sig.returnType = (some .int)) (hlocks : meth.locks = false) (o1 : Nat) (x2 : Int32) (x3 : Int32) (ho1 : o1 < 5) (post : Int32 → St → Prop)  : ∀ (σ : St) (H : Heap) (locs : List Loc) (ls : Array Slot), wp_X4_bestRule o1 x2 x3 post  σ → wo D clA LC ad s.heap H locs (EC q ad σ) → lv_has ls 11 [(0, .ref (ad 16 0)), (1, .ref (ad 2 o1)), (2, .int x2), (3, .int x3)] → W p l e { frames := 6, cells := 0, slots := 0, locals := 144 } s m args below meth c H locs 0 0 (MQ below (zQi D clA LC ad (EC q ad) post) args s 0 0 (zA LC ad)) (F0 m 0 ls []) := by
  have hx := S.1
  have hb := S.2.1
  intro  σ H locs ls h  hw hl
  refine lv_iconst (v := (-1)) hx hb dX4_bestRule_0 (by decide) ?_
  refine lv_istore (lv' := [(4, .int (-1)), (0, .ref (ad 16 0)), (1, .ref (ad 2 o1)), (2, .int x2), (3, .int x3)]) hx hb dX4_bestRule_1 hl (by decide) rfl (fun ls hl => ?_)
  refine lv_iconst (v := 0) hx hb dX4_bestRule_3 (by decide) ?_
  refine lv_istore (lv' := [(5, .int 0), (4, .int (-1)), (0, .ref (ad 16 0)), (1, .ref (ad 2 o1)), (2, .int x2), (3, .int x3)]) hx hb dX4_bestRule_4 hl (by decide) rfl (fun ls hl => ?_)
  refine lv_iconst (v := 0) hx hb dX4_bestRule_6 (by decide) ?_
  refine lv_istore (lv' := [(6, .int 0), (5, .int 0), (4, .int (-1)), (0, .ref (ad 16 0)), (1, .ref (ad 2 o1)), (2, .int x2), (3, .int x3)]) hx hb dX4_bestRule_7 hl (by decide) rfl (fun ls hl => ?_)
  refine lv_sipush (v := 400) hx hb dX4_bestRule_9 (by decide) ?_
  refine lv_iconst (v := 2) hx hb dX4_bestRule_12 (by decide) ?_
  refine lv_iload_n hx hb dX4_bestRule_13 rfl (lv_at hl 5 rfl) ?_
  refine lv_imul hx hb dX4_bestRule_14 ?_
  refine lv_iconst (v := 1) hx hb dX4_bestRule_15 (by decide) ?_
  refine lv_iadd hx hb dX4_bestRule_16 ?_
  refine lv_imul hx hb dX4_bestRule_17 ?_
  refine lv_istore (lv' := [(7, .int (400 * ((2 * x2) + 1))), (6, .int 0), (5, .int 0), (4, .int (-1)), (0, .ref (ad 16 0)), (1, .ref (ad 2 o1)), (2, .int x2), (3, .int x3)]) hx hb dX4_bestRule_18 hl (by decide) rfl (fun ls hl => ?_)
  refine lv_iconst (v := 0) hx hb dX4_bestRule_20 (by decide) ?_
  refine lv_istore (lv' := [(8, .int 0), (7, .int (400 * ((2 * x2) + 1))), (6, .int 0), (5, .int 0), (4, .int (-1)), (0, .ref (ad 16 0)), (1, .ref (ad 2 o1)), (2, .int x2), (3, .int x3)]) hx hb dX4_bestRule_21 hl (by decide) rfl (fun ls hl => ?_)
  obtain ⟨n9, h⟩ := h
  exact wk_X4_bestRule_23 S V hr hlocks o1 x2 x3 ho1  post  n9 (-1) 0 0 (400 * ((2 * x2) + 1)) 0 _ _ _ _ h  hw (lv_sub hl [5, 6, 7, 8, 4, 3, 2, 1, 0] rfl)
theorem mt_X4_bestRule (l : Launch) (D : va_G) (q : ClassId × ClassId × ClassId × ClassId) (ad : Nat → Nat → Nat) (t : Nat × Nat) (aK aV : Nat → Nat) (o1 : Nat) (x2 : Int32) (x3 : Int32) (ho1 : o1 < 5) (σ : St) (post : Int32 → St → Prop) (h : wp_X4_bestRule o1 x2 x3 post σ) : cI l D clA LC ad (EC q ad) (EvC D q ad t aK aV) yX4_bestRule cX4_bestRule 11 (some .int) { frames := 6, cells := 0, slots := 0, locals := 144 } [.ref (ad 16 0), .ref (ad 2 o1), .int x2, .int x3] σ post :=
  ent_i (by decide) (Nat.le_of_ble_eq_true rfl) (fun p e s m below meth c S V hr hlocks hw ls hl => wk_X4_bestRule_0 S V hr hlocks o1 x2 x3 ho1 post   σ _ _ ls h  hw (lv_sub hl [0, 1, 2, 3] rfl))
def wp_X4_chances_141 (o1 : Nat) (x2 : Int32) (x3 : Int32) (x4 : Int32) (x5 : Int32) (K13 : Int32 → Int32 → Int32 → St → Prop) (post : Int32 → St → Prop) (x6 : Int32) (x7 : Int32) (x8 : Int32) (σ : St) : Prop := K13 x6 x7 (x8 + 1) σ
set_option maxHeartbeats 4000000 in
set_option maxRecDepth 100000 in
theorem wk_X4_chances_141 {p : Program} {l : Launch} {e : Env} {s : State} {m : MethodId} {below : List Frame} {meth : Method} {c : Code} {D : va_G} {q : ClassId × ClassId × ClassId × ClassId} {ad : Nat → Nat → Nat} {t : Nat × Nat} {aK aV : Nat → Nat} {args : Array Value} (S : CallFix p m c cX4_chances 13 s args GW "OnChin$Keeper") (V : EvC D q ad t aK aV s) (hr : meth.sig.returnType = (some .int)) (hlocks : meth.locks = false) (o1 : Nat) (x2 : Int32) (x3 : Int32) (x4 : Int32) (x5 : Int32) (ho1 : o1 < 5) (K13 : Int32 → Int32 → Int32 → St → Prop) (post : Int32 → St → Prop) (hK13 : ∀ (x6 : Int32) (x7 : Int32) (x8 : Int32) (σ : St) (H : Heap) (locs : List Loc) (ls : Array Slot), K13 x6 x7 x8 σ → wo D clA LC ad s.heap H locs (EC q ad σ) → lv_has ls 13 [(0, .ref (ad 16 0)), (1, .ref (ad 2 o1)), (2, .int x2), (3, .int x3), (4, .int x4), (5, .int x5), (6, .int x6), (7, .int x7), (8, .int x8)] → W p l e { frames := 4, cells := 0, slots := 0, locals := 92 } s m args below meth c H locs 0 0 (MQ below (zQi D clA LC ad (EC q ad) post) args s 0 0 (zA LC ad)) (F0 m 13 ls [])) : ∀ (x6 : Int32) (x7 : Int32) (x8 : Int32) (σ : St) (H : Heap) (locs : List Loc) (ls : Array Slot), wp_X4_chances_141 o1 x2 x3 x4 x5 K13 post x6 x7 x8 σ → wo D clA LC ad s.heap H locs (EC q ad σ) → lv_has ls 13 [(0, .ref (ad 16 0)), (1, .ref (ad 2 o1)), (2, .int x2), (3, .int x3), (4, .int x4), (5, .int x5), (6, .int x6), (7, .int x7), (8, .int x8)] → W p l e { frames := 4, cells := 0, slots := 0, locals := 92 } s m args below meth c H locs 0 0 (MQ below (zQi D clA LC ad (EC q ad) post) args s 0 0 (zA LC ad)) (F0 m 141 ls []) := by
  have hx := S.1
  have hb := S.2.1
  intro x6 x7 x8 σ H locs ls h  hw hl
  refine lv_iinc (v := (x8 + 1)) (lv' := [(8, .int (x8 + 1)), (0, .ref (ad 16 0)), (1, .ref (ad 2 o1)), (2, .int x2), (3, .int x3), (4, .int x4), (5, .int x5), (6, .int x6), (7, .int x7)]) hx hb dX4_chances_141 hl (k := 8) rfl rfl (by decide) rfl (fun ls hl => ?_)
  refine lv_goto (tgt := 13) hx hb dX4_chances_144 (by decide) ?_
  exact hK13 x6 x7 (x8 + 1) _ _ _ _ h  hw (lv_sub hl [1, 2, 3, 4, 5, 6, 7, 8, 0] rfl)
def wp_X4_chances_120 (o1 : Nat) (x2 : Int32) (x3 : Int32) (x4 : Int32) (x5 : Int32) (K13 : Int32 → Int32 → Int32 → St → Prop) (post : Int32 → St → Prop) (x6 : Int32) (x7 : Int32) (x8 : Int32) (x9 : Int32) (σ : St) : Prop := wp_X0_fell 3 1 (fun r1 σ1 => ((¬ r1 = 0 → wp_X4_chances_141 o1 x2 x3 x4 x5 K13 post x6 x7 x8 σ1) ∧ (r1 = 0 → wp_X4_chances_141 o1 x2 x3 x4 x5 K13 post (x6 + x9) x7 x8 σ1))) σ
set_option maxHeartbeats 4000000 in
set_option maxRecDepth 100000 in
theorem wk_X4_chances_120 {p : Program} {l : Launch} {e : Env} {s : State} {m : MethodId} {below : List Frame} {meth : Method} {c : Code} {D : va_G} {q : ClassId × ClassId × ClassId × ClassId} {ad : Nat → Nat → Nat} {t : Nat × Nat} {aK aV : Nat → Nat} {args : Array Value} (S : CallFix p m c cX4_chances 13 s args GW "OnChin$Keeper") (V : EvC D q ad t aK aV s) (hr : meth.sig.returnType = (some .int)) (hlocks : meth.locks = false) (o1 : Nat) (x2 : Int32) (x3 : Int32) (x4 : Int32) (x5 : Int32) (ho1 : o1 < 5) (K13 : Int32 → Int32 → Int32 → St → Prop) (post : Int32 → St → Prop) (hK13 : ∀ (x6 : Int32) (x7 : Int32) (x8 : Int32) (σ : St) (H : Heap) (locs : List Loc) (ls : Array Slot), K13 x6 x7 x8 σ → wo D clA LC ad s.heap H locs (EC q ad σ) → lv_has ls 13 [(0, .ref (ad 16 0)), (1, .ref (ad 2 o1)), (2, .int x2), (3, .int x3), (4, .int x4), (5, .int x5), (6, .int x6), (7, .int x7), (8, .int x8)] → W p l e { frames := 4, cells := 0, slots := 0, locals := 92 } s m args below meth c H locs 0 0 (MQ below (zQi D clA LC ad (EC q ad) post) args s 0 0 (zA LC ad)) (F0 m 13 ls [])) : ∀ (x6 : Int32) (x7 : Int32) (x8 : Int32) (x9 : Int32) (σ : St) (H : Heap) (locs : List Loc) (ls : Array Slot), wp_X4_chances_120 o1 x2 x3 x4 x5 K13 post x6 x7 x8 x9 σ → wo D clA LC ad s.heap H locs (EC q ad σ) → lv_has ls 13 [(0, .ref (ad 16 0)), (1, .ref (ad 2 o1)), (2, .int x2), (3, .int x3), (4, .int x4), (5, .int x5), (6, .int x6), (7, .int x7), (8, .int x8), (9, .int x9)] → W p l e { frames := 4, cells := 0, slots := 0, locals := 92 } s m args below meth c H locs 0 0 (MQ below (zQi D clA LC ad (EC q ad) post) args s 0 0 (zA LC ad)) (F0 m 120 ls []) := by
  have hx := S.1
  have hb := S.2.1
  intro x6 x7 x8 x9 σ H locs ls h  hw hl
  have h : wp_X0_fell 3 1 (fun r1 σ1 => ((¬ r1 = 0 → wp_X4_chances_141 o1 x2 x3 x4 x5 K13 post x6 x7 x8 σ1) ∧ (r1 = 0 → wp_X4_chances_141 o1 x2 x3 x4 x5 K13 post (x6 + x9) x7 x8 σ1))) σ := h
  refine lv_aload_n hx hb dX4_chances_120 rfl (lv_at hl 0 rfl) ?_
  refine gC_16_1 S V hw (Nat.le_of_ble_eq_true rfl) fl_X4_18 dX4_chances_121 ?_
  refine lv_aload_n hx hb dX4_chances_124 rfl (lv_at hl 0 rfl) ?_
  refine gC_16_0 S V hw (Nat.le_of_ble_eq_true rfl) fl_X4_9 dX4_chances_125 ?_
  refine call_Vi (As := [.ref (ad 6 1)]) (rest := []) EvC_ok S V hw (mt_X0_fell l D q ad t aK aV 3 1 (Nat.le_of_ble_eq_true rfl) (Nat.le_of_ble_eq_true rfl) σ _ h) ok_X0_fell ml_X4_46 (rC_13 S V hw (Nat.le_of_ble_eq_true rfl)) ⟨(Nat.le_of_ble_eq_true rfl), (Nat.le_of_ble_eq_true rfl)⟩ ⟨rfl, rfl⟩ rfl hl.1 rfl (Nat.le_of_ble_eq_true rfl) dX4_chances_128 (fun r1 σ1 H locs h hw => ?_)
  refine lv_if_ne (tgt := 141) hx hb dX4_chances_131 (by decide) (fun hc => ?_) (fun hc => ?_)
  · have h := h.1 hc
    exact wk_X4_chances_141 S V hr hlocks o1 x2 x3 x4 x5 ho1 K13 post hK13 x6 x7 x8 _ _ _ _ h  hw (lv_sub hl [0, 1, 2, 3, 4, 5, 6, 7, 8] rfl)
  · have h := h.2 hc
    refine lv_iload hx hb dX4_chances_134 (lv_at hl 6 rfl) ?_
    refine lv_iload hx hb dX4_chances_136 (lv_at hl 9 rfl) ?_
    refine lv_iadd hx hb dX4_chances_138 ?_
    refine lv_istore (lv' := [(6, .int (x6 + x9)), (0, .ref (ad 16 0)), (1, .ref (ad 2 o1)), (2, .int x2), (3, .int x3), (4, .int x4), (5, .int x5), (7, .int x7), (8, .int x8), (9, .int x9)]) hx hb dX4_chances_139 hl (by decide) rfl (fun ls hl => ?_)
    exact wk_X4_chances_141 S V hr hlocks o1 x2 x3 x4 x5 ho1 K13 post hK13 (x6 + x9) x7 x8 _ _ _ _ h  hw (lv_sub hl [1, 2, 3, 4, 5, 6, 0, 7, 8] rfl)
def wp_X4_chances_87 (o1 : Nat) (x2 : Int32) (x3 : Int32) (x4 : Int32) (x5 : Int32) (K13 : Int32 → Int32 → Int32 → St → Prop) (K40 : Int32 → Int32 → Int32 → Int32 → Int32 → Int32 → St → Prop) (post : Int32 → St → Prop) (x6 : Int32) (x7 : Int32) (x8 : Int32) (x10 : Int32) (x11 : Int32) (x12 : Int32) (xs0 : Int32) (xs1 : Int32) (σ : St) : Prop := wp_X0_tick 3 o1 1 1 (x4 * x12) (fun σ1 => K40 x6 x7 x8 (xs0 * xs1) (x10 / 3) (x11 + 1) σ1) σ
set_option maxHeartbeats 4000000 in
set_option maxRecDepth 100000 in
theorem wk_X4_chances_87 {p : Program} {l : Launch} {e : Env} {s : State} {m : MethodId} {below : List Frame} {meth : Method} {c : Code} {D : va_G} {q : ClassId × ClassId × ClassId × ClassId} {ad : Nat → Nat → Nat} {t : Nat × Nat} {aK aV : Nat → Nat} {args : Array Value} (S : CallFix p m c cX4_chances 13 s args GW "OnChin$Keeper") (V : EvC D q ad t aK aV s) (hr : meth.sig.returnType = (some .int)) (hlocks : meth.locks = false) (o1 : Nat) (x2 : Int32) (x3 : Int32) (x4 : Int32) (x5 : Int32) (ho1 : o1 < 5) (K13 : Int32 → Int32 → Int32 → St → Prop) (K40 : Int32 → Int32 → Int32 → Int32 → Int32 → Int32 → St → Prop) (post : Int32 → St → Prop) (hK13 : ∀ (x6 : Int32) (x7 : Int32) (x8 : Int32) (σ : St) (H : Heap) (locs : List Loc) (ls : Array Slot), K13 x6 x7 x8 σ → wo D clA LC ad s.heap H locs (EC q ad σ) → lv_has ls 13 [(0, .ref (ad 16 0)), (1, .ref (ad 2 o1)), (2, .int x2), (3, .int x3), (4, .int x4), (5, .int x5), (6, .int x6), (7, .int x7), (8, .int x8)] → W p l e { frames := 4, cells := 0, slots := 0, locals := 92 } s m args below meth c H locs 0 0 (MQ below (zQi D clA LC ad (EC q ad) post) args s 0 0 (zA LC ad)) (F0 m 13 ls [])) (hK40 : ∀ (x6 : Int32) (x7 : Int32) (x8 : Int32) (x9 : Int32) (x10 : Int32) (x11 : Int32) (σ : St) (H : Heap) (locs : List Loc) (ls : Array Slot), K40 x6 x7 x8 x9 x10 x11 σ → wo D clA LC ad s.heap H locs (EC q ad σ) → lv_has ls 13 [(0, .ref (ad 16 0)), (1, .ref (ad 2 o1)), (2, .int x2), (3, .int x3), (4, .int x4), (5, .int x5), (6, .int x6), (7, .int x7), (8, .int x8), (9, .int x9), (10, .int x10), (11, .int x11)] → W p l e { frames := 4, cells := 0, slots := 0, locals := 92 } s m args below meth c H locs 0 0 (MQ below (zQi D clA LC ad (EC q ad) post) args s 0 0 (zA LC ad)) (F0 m 40 ls [])) : ∀ (x6 : Int32) (x7 : Int32) (x8 : Int32) (x10 : Int32) (x11 : Int32) (x12 : Int32) (xs0 : Int32) (xs1 : Int32) (σ : St) (H : Heap) (locs : List Loc) (ls : Array Slot), wp_X4_chances_87 o1 x2 x3 x4 x5 K13 K40 post x6 x7 x8 x10 x11 x12 xs0 xs1 σ → wo D clA LC ad s.heap H locs (EC q ad σ) → lv_has ls 13 [(0, .ref (ad 16 0)), (1, .ref (ad 2 o1)), (2, .int x2), (3, .int x3), (4, .int x4), (5, .int x5), (6, .int x6), (7, .int x7), (8, .int x8), (10, .int x10), (11, .int x11), (12, .int x12)] → W p l e { frames := 4, cells := 0, slots := 0, locals := 92 } s m args below meth c H locs 0 0 (MQ below (zQi D clA LC ad (EC q ad) post) args s 0 0 (zA LC ad)) (F0 m 87 ls [.int xs1, .int xs0]) := by
  have hx := S.1
  have hb := S.2.1
  intro x6 x7 x8 x10 x11 x12 xs0 xs1 σ H locs ls h  hw hl
  have h : wp_X0_tick 3 o1 1 1 (x4 * x12) (fun σ1 => K40 x6 x7 x8 (xs0 * xs1) (x10 / 3) (x11 + 1) σ1) σ := h
  refine lv_imul hx hb dX4_chances_87 ?_
  refine lv_istore (lv' := [(9, .int (xs0 * xs1)), (0, .ref (ad 16 0)), (1, .ref (ad 2 o1)), (2, .int x2), (3, .int x3), (4, .int x4), (5, .int x5), (6, .int x6), (7, .int x7), (8, .int x8), (10, .int x10), (11, .int x11), (12, .int x12)]) hx hb dX4_chances_88 hl (by decide) rfl (fun ls hl => ?_)
  refine lv_iload hx hb dX4_chances_90 (lv_at hl 10 rfl) ?_
  refine lv_iconst (v := 3) hx hb dX4_chances_92 (by decide) ?_
  refine lv_idiv hx hb dX4_chances_93 (by decide) ?_
  refine lv_istore (lv' := [(10, .int (x10 / 3)), (9, .int (xs0 * xs1)), (0, .ref (ad 16 0)), (1, .ref (ad 2 o1)), (2, .int x2), (3, .int x3), (4, .int x4), (5, .int x5), (6, .int x6), (7, .int x7), (8, .int x8), (11, .int x11), (12, .int x12)]) hx hb dX4_chances_94 hl (by decide) rfl (fun ls hl => ?_)
  refine lv_aload_n hx hb dX4_chances_96 rfl (lv_at hl 2 rfl) ?_
  refine gC_16_1 S V hw (Nat.le_of_ble_eq_true rfl) fl_X4_18 dX4_chances_97 ?_
  refine lv_aload_n hx hb dX4_chances_100 rfl (lv_at hl 3 rfl) ?_
  refine lv_aload_n hx hb dX4_chances_101 rfl (lv_at hl 2 rfl) ?_
  refine gC_16_0 S V hw (Nat.le_of_ble_eq_true rfl) fl_X4_9 dX4_chances_102 ?_
  refine lv_iconst (v := 1) hx hb dX4_chances_105 (by decide) ?_
  refine lv_iload hx hb dX4_chances_106 (lv_at hl 6 rfl) ?_
  refine lv_iload hx hb dX4_chances_108 (lv_at hl 12 rfl) ?_
  refine lv_imul hx hb dX4_chances_110 ?_
  refine call_Vv (As := [.ref (ad 2 o1), .ref (ad 6 1), .int 1, .int (x4 * x12)]) (rest := []) EvC_ok S V hw (mt_X0_tick l D q ad t aK aV 3 o1 1 1 (x4 * x12) (Nat.le_of_ble_eq_true rfl) ho1 (Nat.le_of_ble_eq_true rfl) σ _ h) ok_X0_tick ml_X4_58 (rC_13 S V hw (Nat.le_of_ble_eq_true rfl)) ⟨(Nat.le_of_ble_eq_true rfl), (Nat.le_of_ble_eq_true rfl)⟩ ⟨rfl, rfl⟩ rfl hl.1 rfl (Nat.le_of_ble_eq_true rfl) dX4_chances_111 (fun σ1 H locs h hw => ?_)
  refine lv_iinc (v := (x11 + 1)) (lv' := [(11, .int (x11 + 1)), (10, .int (x10 / 3)), (9, .int (xs0 * xs1)), (0, .ref (ad 16 0)), (1, .ref (ad 2 o1)), (2, .int x2), (3, .int x3), (4, .int x4), (5, .int x5), (6, .int x6), (7, .int x7), (8, .int x8), (12, .int x12)]) hx hb dX4_chances_114 hl (k := 11) rfl rfl (by decide) rfl (fun ls hl => ?_)
  refine lv_goto (tgt := 40) hx hb dX4_chances_117 (by decide) ?_
  exact hK40 x6 x7 x8 (xs0 * xs1) (x10 / 3) (x11 + 1) _ _ _ _ h  hw (lv_sub hl [3, 4, 5, 6, 7, 8, 9, 10, 11, 2, 1, 0] rfl)
def wp_X4_chances_40 (o1 : Nat) (x2 : Int32) (x3 : Int32) (x4 : Int32) (x5 : Int32) (K13 : Int32 → Int32 → Int32 → St → Prop) (post : Int32 → St → Prop) : Nat → Int32 → Int32 → Int32 → Int32 → Int32 → Int32 → St → Prop
  | 0 => fun _ _ _ _ _ _ _ => False
  | n + 1 => fun x6 x7 x8 x9 x10 x11 σ => ((x3 ≤ x11 → wp_X4_chances_120 o1 x2 x3 x4 x5 K13 post x6 x7 x8 x9 σ) ∧ (¬ x3 ≤ x11 → wp_X0_fell 3 1 (fun r1 σ1 => ((¬ r1 = 0 → wp_X4_chances_120 o1 x2 x3 x4 x5 K13 post x6 x7 x8 x9 σ1) ∧ (r1 = 0 → ((¬ ((x10 - x10 / 3 * 3) - 1) = 0 → wp_X4_chances_87 o1 x2 x3 x4 x5 K13 (fun y0 y1 y2 y3 y4 y5 τ => wp_X4_chances_40 o1 x2 x3 x4 x5 K13 post n y0 y1 y2 y3 y4 y5 τ) post x6 x7 x8 x10 x11 ((x10 - x10 / 3 * 3) - 1) x9 x5 σ1) ∧ (((x10 - x10 / 3 * 3) - 1) = 0 → wp_X4_chances_87 o1 x2 x3 x4 x5 K13 (fun y0 y1 y2 y3 y4 y5 τ => wp_X4_chances_40 o1 x2 x3 x4 x5 K13 post n y0 y1 y2 y3 y4 y5 τ) post x6 x7 x8 x10 x11 ((x10 - x10 / 3 * 3) - 1) x9 (10 - (2 * x5)) σ1))))) σ))
set_option maxHeartbeats 4000000 in
set_option maxRecDepth 100000 in
theorem wk_X4_chances_40 {p : Program} {l : Launch} {e : Env} {s : State} {m : MethodId} {below : List Frame} {meth : Method} {c : Code} {D : va_G} {q : ClassId × ClassId × ClassId × ClassId} {ad : Nat → Nat → Nat} {t : Nat × Nat} {aK aV : Nat → Nat} {args : Array Value} (S : CallFix p m c cX4_chances 13 s args GW "OnChin$Keeper") (V : EvC D q ad t aK aV s) (hr : meth.sig.returnType = (some .int)) (hlocks : meth.locks = false) (o1 : Nat) (x2 : Int32) (x3 : Int32) (x4 : Int32) (x5 : Int32) (ho1 : o1 < 5) (K13 : Int32 → Int32 → Int32 → St → Prop) (post : Int32 → St → Prop) (hK13 : ∀ (x6 : Int32) (x7 : Int32) (x8 : Int32) (σ : St) (H : Heap) (locs : List Loc) (ls : Array Slot), K13 x6 x7 x8 σ → wo D clA LC ad s.heap H locs (EC q ad σ) → lv_has ls 13 [(0, .ref (ad 16 0)), (1, .ref (ad 2 o1)), (2, .int x2), (3, .int x3), (4, .int x4), (5, .int x5), (6, .int x6), (7, .int x7), (8, .int x8)] → W p l e { frames := 4, cells := 0, slots := 0, locals := 92 } s m args below meth c H locs 0 0 (MQ below (zQi D clA LC ad (EC q ad) post) args s 0 0 (zA LC ad)) (F0 m 13 ls [])) : ∀ (n : Nat) (x6 : Int32) (x7 : Int32) (x8 : Int32) (x9 : Int32) (x10 : Int32) (x11 : Int32) (σ : St) (H : Heap) (locs : List Loc) (ls : Array Slot), wp_X4_chances_40 o1 x2 x3 x4 x5 K13 post n x6 x7 x8 x9 x10 x11 σ → wo D clA LC ad s.heap H locs (EC q ad σ) → lv_has ls 13 [(0, .ref (ad 16 0)), (1, .ref (ad 2 o1)), (2, .int x2), (3, .int x3), (4, .int x4), (5, .int x5), (6, .int x6), (7, .int x7), (8, .int x8), (9, .int x9), (10, .int x10), (11, .int x11)] → W p l e { frames := 4, cells := 0, slots := 0, locals := 92 } s m args below meth c H locs 0 0 (MQ below (zQi D clA LC ad (EC q ad) post) args s 0 0 (zA LC ad)) (F0 m 40 ls []) := by
  have hx := S.1
  have hb := S.2.1
  intro n
  induction n with
  | zero => intro x6 x7 x8 x9 x10 x11 σ H locs ls h; exact False.elim h
  | succ n ih =>
    intro x6 x7 x8 x9 x10 x11 σ H locs ls h  hw hl
    refine lv_iload hx hb dX4_chances_40 (lv_at hl 11 rfl) ?_
    refine lv_iload_n hx hb dX4_chances_42 rfl (lv_at hl 3 rfl) ?_
    refine lv_icmp_ge (tgt := 120) hx hb dX4_chances_43 (by decide) (fun hc => ?_) (fun hc => ?_)
    · have h := h.1 hc
      exact wk_X4_chances_120 S V hr hlocks o1 x2 x3 x4 x5 ho1 K13 post hK13 x6 x7 x8 x9 _ _ _ _ h  hw (lv_sub hl [0, 1, 2, 3, 4, 5, 6, 7, 8, 9] rfl)
    · have h := h.2 hc
      refine lv_aload_n hx hb dX4_chances_46 rfl (lv_at hl 0 rfl) ?_
      refine gC_16_1 S V hw (Nat.le_of_ble_eq_true rfl) fl_X4_18 dX4_chances_47 ?_
      refine lv_aload_n hx hb dX4_chances_50 rfl (lv_at hl 0 rfl) ?_
      refine gC_16_0 S V hw (Nat.le_of_ble_eq_true rfl) fl_X4_9 dX4_chances_51 ?_
      refine call_Vi (As := [.ref (ad 6 1)]) (rest := []) EvC_ok S V hw (mt_X0_fell l D q ad t aK aV 3 1 (Nat.le_of_ble_eq_true rfl) (Nat.le_of_ble_eq_true rfl) σ _ h) ok_X0_fell ml_X4_46 (rC_13 S V hw (Nat.le_of_ble_eq_true rfl)) ⟨(Nat.le_of_ble_eq_true rfl), (Nat.le_of_ble_eq_true rfl)⟩ ⟨rfl, rfl⟩ rfl hl.1 rfl (Nat.le_of_ble_eq_true rfl) dX4_chances_54 (fun r1 σ1 H locs h hw => ?_)
      refine lv_if_ne (tgt := 120) hx hb dX4_chances_57 (by decide) (fun hc => ?_) (fun hc => ?_)
      · have h := h.1 hc
        exact wk_X4_chances_120 S V hr hlocks o1 x2 x3 x4 x5 ho1 K13 post hK13 x6 x7 x8 x9 _ _ _ _ h  hw (lv_sub hl [0, 1, 2, 3, 4, 5, 6, 7, 8, 9] rfl)
      · have h := h.2 hc
        refine lv_iload hx hb dX4_chances_60 (lv_at hl 10 rfl) ?_
        refine lv_iconst (v := 3) hx hb dX4_chances_62 (by decide) ?_
        refine lv_irem hx hb dX4_chances_63 (by decide) ?_
        refine lv_iconst (v := 1) hx hb dX4_chances_64 (by decide) ?_
        refine lv_isub hx hb dX4_chances_65 ?_
        refine lv_istore (lv' := [(12, .int ((x10 - x10 / 3 * 3) - 1)), (0, .ref (ad 16 0)), (1, .ref (ad 2 o1)), (2, .int x2), (3, .int x3), (4, .int x4), (5, .int x5), (6, .int x6), (7, .int x7), (8, .int x8), (9, .int x9), (10, .int x10), (11, .int x11)]) hx hb dX4_chances_66 hl (by decide) rfl (fun ls hl => ?_)
        refine lv_iload hx hb dX4_chances_68 (lv_at hl 10 rfl) ?_
        refine lv_iload hx hb dX4_chances_70 (lv_at hl 0 rfl) ?_
        refine lv_if_ne (tgt := 85) hx hb dX4_chances_72 (by decide) (fun hc => ?_) (fun hc => ?_)
        · have h := h.1 hc
          refine lv_iload hx hb dX4_chances_85 (lv_at hl 6 rfl) ?_
          exact wk_X4_chances_87 S V hr hlocks o1 x2 x3 x4 x5 ho1 K13 (fun y0 y1 y2 y3 y4 y5 τ => wp_X4_chances_40 o1 x2 x3 x4 x5 K13 post n y0 y1 y2 y3 y4 y5 τ) post hK13 ih x6 x7 x8 x10 x11 ((x10 - x10 / 3 * 3) - 1) x9 x5 _ _ _ _ h  hw (lv_sub hl [1, 2, 3, 4, 5, 6, 7, 8, 9, 11, 12, 0] rfl)
        · have h := h.2 hc
          refine lv_bipush (v := 10) hx hb dX4_chances_75 (by decide) ?_
          refine lv_iconst (v := 2) hx hb dX4_chances_77 (by decide) ?_
          refine lv_iload hx hb dX4_chances_78 (lv_at hl 6 rfl) ?_
          refine lv_imul hx hb dX4_chances_80 ?_
          refine lv_isub hx hb dX4_chances_81 ?_
          refine lv_goto (tgt := 87) hx hb dX4_chances_82 (by decide) ?_
          exact wk_X4_chances_87 S V hr hlocks o1 x2 x3 x4 x5 ho1 K13 (fun y0 y1 y2 y3 y4 y5 τ => wp_X4_chances_40 o1 x2 x3 x4 x5 K13 post n y0 y1 y2 y3 y4 y5 τ) post hK13 ih x6 x7 x8 x10 x11 ((x10 - x10 / 3 * 3) - 1) x9 (10 - (2 * x5)) _ _ _ _ h  hw (lv_sub hl [1, 2, 3, 4, 5, 6, 7, 8, 9, 11, 12, 0] rfl)
def wp_X4_chances_13 (o1 : Nat) (x2 : Int32) (x3 : Int32) (x4 : Int32) (x5 : Int32) (post : Int32 → St → Prop) : Nat → Int32 → Int32 → Int32 → St → Prop
  | 0 => fun _ _ _ _ => False
  | n + 1 => fun x6 x7 x8 σ => ((x7 ≤ x8 → post x6 σ) ∧ (¬ x7 ≤ x8 → wp_X0_start 3 0 x2 0 (fun σ1 => ∃ nn, wp_X4_chances_40 o1 x2 x3 x4 x5 (fun y0 y1 y2 τ => wp_X4_chances_13 o1 x2 x3 x4 x5 post n y0 y1 y2 τ) post nn x6 x7 x8 1 x8 0 σ1) σ))
set_option maxHeartbeats 4000000 in
set_option maxRecDepth 100000 in
theorem wk_X4_chances_13 {p : Program} {l : Launch} {e : Env} {s : State} {m : MethodId} {below : List Frame} {meth : Method} {c : Code} {D : va_G} {q : ClassId × ClassId × ClassId × ClassId} {ad : Nat → Nat → Nat} {t : Nat × Nat} {aK aV : Nat → Nat} {args : Array Value} (S : CallFix p m c cX4_chances 13 s args GW "OnChin$Keeper") (V : EvC D q ad t aK aV s) (hr : meth.sig.returnType = (some .int)) (hlocks : meth.locks = false) (o1 : Nat) (x2 : Int32) (x3 : Int32) (x4 : Int32) (x5 : Int32) (ho1 : o1 < 5) (post : Int32 → St → Prop)  : ∀ (n : Nat) (x6 : Int32) (x7 : Int32) (x8 : Int32) (σ : St) (H : Heap) (locs : List Loc) (ls : Array Slot), wp_X4_chances_13 o1 x2 x3 x4 x5 post n x6 x7 x8 σ → wo D clA LC ad s.heap H locs (EC q ad σ) → lv_has ls 13 [(0, .ref (ad 16 0)), (1, .ref (ad 2 o1)), (2, .int x2), (3, .int x3), (4, .int x4), (5, .int x5), (6, .int x6), (7, .int x7), (8, .int x8)] → W p l e { frames := 4, cells := 0, slots := 0, locals := 92 } s m args below meth c H locs 0 0 (MQ below (zQi D clA LC ad (EC q ad) post) args s 0 0 (zA LC ad)) (F0 m 13 ls []) := by
  have hx := S.1
  have hb := S.2.1
  intro n
  induction n with
  | zero => intro x6 x7 x8 σ H locs ls h; exact False.elim h
  | succ n ih =>
    intro x6 x7 x8 σ H locs ls h  hw hl
    refine lv_iload hx hb dX4_chances_13 (lv_at hl 8 rfl) ?_
    refine lv_iload hx hb dX4_chances_15 (lv_at hl 7 rfl) ?_
    refine lv_icmp_ge (tgt := 147) hx hb dX4_chances_17 (by decide) (fun hc => ?_) (fun hc => ?_)
    · have h := h.1 hc
      refine lv_iload hx hb dX4_chances_147 (lv_at hl 6 rfl) ?_
      exact ret_i S hr hlocks hw h dX4_chances_149
    · have h := h.2 hc
      refine lv_aload_n hx hb dX4_chances_20 rfl (lv_at hl 0 rfl) ?_
      refine gC_16_1 S V hw (Nat.le_of_ble_eq_true rfl) fl_X4_18 dX4_chances_21 ?_
      refine lv_iconst (v := 0) hx hb dX4_chances_24 (by decide) ?_
      refine lv_iload_n hx hb dX4_chances_25 rfl (lv_at hl 2 rfl) ?_
      refine lv_iconst (v := 0) hx hb dX4_chances_26 (by decide) ?_
      refine call_Vv (As := [.int 0, .int x2, .int 0]) (rest := []) EvC_ok S V hw (mt_X0_start l D q ad t aK aV 3 0 x2 0 (Nat.le_of_ble_eq_true rfl) σ _ h) ok_X0_start ml_X4_42 (rC_13 S V hw (Nat.le_of_ble_eq_true rfl)) ⟨(Nat.le_of_ble_eq_true rfl), (Nat.le_of_ble_eq_true rfl)⟩ ⟨rfl, rfl⟩ rfl hl.1 rfl (Nat.le_of_ble_eq_true rfl) dX4_chances_27 (fun σ1 H locs h hw => ?_)
      refine lv_iconst (v := 1) hx hb dX4_chances_30 (by decide) ?_
      refine lv_istore (lv' := [(9, .int 1), (0, .ref (ad 16 0)), (1, .ref (ad 2 o1)), (2, .int x2), (3, .int x3), (4, .int x4), (5, .int x5), (6, .int x6), (7, .int x7), (8, .int x8)]) hx hb dX4_chances_31 hl (by decide) rfl (fun ls hl => ?_)
      refine lv_iload hx hb dX4_chances_33 (lv_at hl 9 rfl) ?_
      refine lv_istore (lv' := [(10, .int x8), (9, .int 1), (0, .ref (ad 16 0)), (1, .ref (ad 2 o1)), (2, .int x2), (3, .int x3), (4, .int x4), (5, .int x5), (6, .int x6), (7, .int x7), (8, .int x8)]) hx hb dX4_chances_35 hl (by decide) rfl (fun ls hl => ?_)
      refine lv_iconst (v := 0) hx hb dX4_chances_37 (by decide) ?_
      refine lv_istore (lv' := [(11, .int 0), (10, .int x8), (9, .int 1), (0, .ref (ad 16 0)), (1, .ref (ad 2 o1)), (2, .int x2), (3, .int x3), (4, .int x4), (5, .int x5), (6, .int x6), (7, .int x7), (8, .int x8)]) hx hb dX4_chances_38 hl (by decide) rfl (fun ls hl => ?_)
      obtain ⟨n9, h⟩ := h
      exact wk_X4_chances_40 S V hr hlocks o1 x2 x3 x4 x5 ho1 (fun y0 y1 y2 τ => wp_X4_chances_13 o1 x2 x3 x4 x5 post n y0 y1 y2 τ) post ih n9 x6 x7 x8 1 x8 0 _ _ _ _ h  hw (lv_sub hl [3, 4, 5, 6, 7, 8, 9, 10, 11, 2, 1, 0] rfl)
def wp_X4_chances (o1 : Nat) (x2 : Int32) (x3 : Int32) (x4 : Int32) (x5 : Int32) (post : Int32 → St → Prop)  (σ : St) : Prop := wp_X8_power 3 x3 (fun r1 σ1 => ∃ nn, wp_X4_chances_13 o1 x2 x3 x4 x5 post nn 0 r1 0 σ1) σ
set_option maxHeartbeats 4000000 in
set_option maxRecDepth 100000 in
theorem wk_X4_chances_0 {p : Program} {l : Launch} {e : Env} {s : State} {m : MethodId} {below : List Frame} {meth : Method} {c : Code} {D : va_G} {q : ClassId × ClassId × ClassId × ClassId} {ad : Nat → Nat → Nat} {t : Nat × Nat} {aK aV : Nat → Nat} {args : Array Value} (S : CallFix p m c cX4_chances 13 s args GW "OnChin$Keeper") (V : EvC D q ad t aK aV s) (hr : meth.sig.returnType = (some .int)) (hlocks : meth.locks = false) (o1 : Nat) (x2 : Int32) (x3 : Int32) (x4 : Int32) (x5 : Int32) (ho1 : o1 < 5) (post : Int32 → St → Prop)  : ∀ (σ : St) (H : Heap) (locs : List Loc) (ls : Array Slot), wp_X4_chances o1 x2 x3 x4 x5 post  σ → wo D clA LC ad s.heap H locs (EC q ad σ) → lv_has ls 13 [(0, .ref (ad 16 0)), (1, .ref (ad 2 o1)), (2, .int x2), (3, .int x3), (4, .int x4), (5, .int x5)] → W p l e { frames := 4, cells := 0, slots := 0, locals := 92 } s m args below meth c H locs 0 0 (MQ below (zQi D clA LC ad (EC q ad) post) args s 0 0 (zA LC ad)) (F0 m 0 ls []) := by
  have hx := S.1
  have hb := S.2.1
  intro  σ H locs ls h  hw hl
  have h : wp_X8_power 3 x3 (fun r1 σ1 => ∃ nn, wp_X4_chances_13 o1 x2 x3 x4 x5 post nn 0 r1 0 σ1) σ := h
  refine lv_iconst (v := 0) hx hb dX4_chances_0 (by decide) ?_
  refine lv_istore (lv' := [(6, .int 0), (0, .ref (ad 16 0)), (1, .ref (ad 2 o1)), (2, .int x2), (3, .int x3), (4, .int x4), (5, .int x5)]) hx hb dX4_chances_1 hl (by decide) rfl (fun ls hl => ?_)
  refine lv_iconst (v := 3) hx hb dX4_chances_3 (by decide) ?_
  refine lv_iload_n hx hb dX4_chances_4 rfl (lv_at hl 4 rfl) ?_
  refine call_SNi (As := [.int 3, .int x3]) (rest := []) EvC_ok S V hw (mt_X8_power l D q ad t aK aV 3 x3  σ _ h) ok_X8_power (V.2.2.1 _ (List.mem_of_getElem? (i := 13) rfl)) ⟨(Nat.le_of_ble_eq_true rfl), (Nat.le_of_ble_eq_true rfl)⟩ ⟨rfl, rfl⟩ rfl hl.1 rfl (Nat.le_of_ble_eq_true rfl) dX4_chances_5 (fun r1 σ1 H locs h hw => ?_)
  refine lv_istore (lv' := [(7, .int r1), (6, .int 0), (0, .ref (ad 16 0)), (1, .ref (ad 2 o1)), (2, .int x2), (3, .int x3), (4, .int x4), (5, .int x5)]) hx hb dX4_chances_8 hl (by decide) rfl (fun ls hl => ?_)
  refine lv_iconst (v := 0) hx hb dX4_chances_10 (by decide) ?_
  refine lv_istore (lv' := [(8, .int 0), (7, .int r1), (6, .int 0), (0, .ref (ad 16 0)), (1, .ref (ad 2 o1)), (2, .int x2), (3, .int x3), (4, .int x4), (5, .int x5)]) hx hb dX4_chances_11 hl (by decide) rfl (fun ls hl => ?_)
  obtain ⟨n9, h⟩ := h
  exact wk_X4_chances_13 S V hr hlocks o1 x2 x3 x4 x5 ho1  post  n9 0 r1 0 _ _ _ _ h  hw (lv_sub hl [3, 4, 5, 6, 7, 8, 2, 1, 0] rfl)
theorem mt_X4_chances (l : Launch) (D : va_G) (q : ClassId × ClassId × ClassId × ClassId) (ad : Nat → Nat → Nat) (t : Nat × Nat) (aK aV : Nat → Nat) (o1 : Nat) (x2 : Int32) (x3 : Int32) (x4 : Int32) (x5 : Int32) (ho1 : o1 < 5) (σ : St) (post : Int32 → St → Prop) (h : wp_X4_chances o1 x2 x3 x4 x5 post σ) : cI l D clA LC ad (EC q ad) (EvC D q ad t aK aV) yX4_chances cX4_chances 13 (some .int) { frames := 4, cells := 0, slots := 0, locals := 92 } [.ref (ad 16 0), .ref (ad 2 o1), .int x2, .int x3, .int x4, .int x5] σ post :=
  ent_i (by decide) (Nat.le_of_ble_eq_true rfl) (fun p e s m below meth c S V hr hlocks hw ls hl => wk_X4_chances_0 S V hr hlocks o1 x2 x3 x4 x5 ho1 post   σ _ _ ls h  hw (lv_sub hl [0, 1, 2, 3, 4, 5] rfl))
def wp_X4_standsAlone_71 (o1 : Nat) (x2 : Int32) (post : Int32 → St → Prop) (xs0 : Int32) (σ : St) : Prop := (narrow .boolean (.int xs0) = .int xs0 ∧ post xs0 σ)
set_option maxHeartbeats 4000000 in
set_option maxRecDepth 100000 in
theorem wk_X4_standsAlone_71 {p : Program} {l : Launch} {e : Env} {s : State} {m : MethodId} {below : List Frame} {meth : Method} {c : Code} {D : va_G} {q : ClassId × ClassId × ClassId × ClassId} {ad : Nat → Nat → Nat} {t : Nat × Nat} {aK aV : Nat → Nat} {args : Array Value} (S : CallFix p m c cX4_standsAlone 4 s args GW "OnChin$Keeper") (V : EvC D q ad t aK aV s) (hr : meth.sig.returnType = (some .boolean)) (hlocks : meth.locks = false) (o1 : Nat) (x2 : Int32) (ho1 : o1 < 5) (post : Int32 → St → Prop)  : ∀ (xs0 : Int32) (σ : St) (H : Heap) (locs : List Loc) (ls : Array Slot), wp_X4_standsAlone_71 o1 x2 post xs0 σ → wo D clA LC ad s.heap H locs (EC q ad σ) → lv_has ls 4 [(0, .ref (ad 16 0)), (1, .ref (ad 2 o1)), (2, .int x2)] → W p l e { frames := 4, cells := 0, slots := 0, locals := 92 } s m args below meth c H locs 0 0 (MQ below (zQi D clA LC ad (EC q ad) post) args s 0 0 (zA LC ad)) (F0 m 71 ls [.int xs0]) := by
  have hx := S.1
  have hb := S.2.1
  intro xs0 σ H locs ls h  hw hl
  exact ret_z S hr hlocks hw h.1 h.2 dX4_standsAlone_71
def wp_X4_standsAlone_53 (o1 : Nat) (x2 : Int32) (post : Int32 → St → Prop)  (σ : St) : Prop := ((¬ (σ 13 3 4) = 400 → wp_X4_standsAlone_71 o1 x2 post 0 σ) ∧ ((σ 13 3 4) = 400 → wp_X4_standsAlone_71 o1 x2 post 1 σ))
set_option maxHeartbeats 4000000 in
set_option maxRecDepth 100000 in
theorem wk_X4_standsAlone_53 {p : Program} {l : Launch} {e : Env} {s : State} {m : MethodId} {below : List Frame} {meth : Method} {c : Code} {D : va_G} {q : ClassId × ClassId × ClassId × ClassId} {ad : Nat → Nat → Nat} {t : Nat × Nat} {aK aV : Nat → Nat} {args : Array Value} (S : CallFix p m c cX4_standsAlone 4 s args GW "OnChin$Keeper") (V : EvC D q ad t aK aV s) (hr : meth.sig.returnType = (some .boolean)) (hlocks : meth.locks = false) (o1 : Nat) (x2 : Int32) (ho1 : o1 < 5) (post : Int32 → St → Prop)  : ∀ (σ : St) (H : Heap) (locs : List Loc) (ls : Array Slot), wp_X4_standsAlone_53 o1 x2 post  σ → wo D clA LC ad s.heap H locs (EC q ad σ) → lv_has ls 4 [(0, .ref (ad 16 0)), (1, .ref (ad 2 o1)), (2, .int x2)] → W p l e { frames := 4, cells := 0, slots := 0, locals := 92 } s m args below meth c H locs 0 0 (MQ below (zQi D clA LC ad (EC q ad) post) args s 0 0 (zA LC ad)) (F0 m 53 ls []) := by
  have hx := S.1
  have hb := S.2.1
  intro  σ H locs ls h  hw hl
  refine lv_aload_n hx hb dX4_standsAlone_53 rfl (lv_at hl 0 rfl) ?_
  refine gC_16_1 S V hw (Nat.le_of_ble_eq_true rfl) fl_X4_18 dX4_standsAlone_54 ?_
  refine gC_13_4 S V hw (Nat.le_of_ble_eq_true rfl) fl_X4_62 rfl dX4_standsAlone_57 ?_
  refine lv_sipush (v := 400) hx hb dX4_standsAlone_60 (by decide) ?_
  refine lv_icmp_ne (tgt := 70) hx hb dX4_standsAlone_63 (by decide) (fun hc => ?_) (fun hc => ?_)
  · have h := h.1 hc
    refine lv_iconst (v := 0) hx hb dX4_standsAlone_70 (by decide) ?_
    exact wk_X4_standsAlone_71 S V hr hlocks o1 x2 ho1  post  0 _ _ _ _ h  hw (lv_sub hl [0, 1, 2] rfl)
  · have h := h.2 hc
    refine lv_iconst (v := 1) hx hb dX4_standsAlone_66 (by decide) ?_
    refine lv_goto (tgt := 71) hx hb dX4_standsAlone_67 (by decide) ?_
    exact wk_X4_standsAlone_71 S V hr hlocks o1 x2 ho1  post  1 _ _ _ _ h  hw (lv_sub hl [0, 1, 2] rfl)
def wp_X4_standsAlone_12 (o1 : Nat) (x2 : Int32) (post : Int32 → St → Prop) : Nat → Int32 → St → Prop
  | 0 => fun _ _ => False
  | n + 1 => fun x3 σ => ((400 ≤ x3 → wp_X4_standsAlone_53 o1 x2 post  σ) ∧ (¬ 400 ≤ x3 → wp_X0_fell 3 1 (fun r1 σ1 => ((¬ r1 = 0 → wp_X4_standsAlone_53 o1 x2 post  σ1) ∧ (r1 = 0 → wp_X0_tick 3 o1 1 0 0 (fun σ2 => wp_X4_standsAlone_12 o1 x2 post n (x3 + 1) σ2) σ1))) σ))
set_option maxHeartbeats 4000000 in
set_option maxRecDepth 100000 in
theorem wk_X4_standsAlone_12 {p : Program} {l : Launch} {e : Env} {s : State} {m : MethodId} {below : List Frame} {meth : Method} {c : Code} {D : va_G} {q : ClassId × ClassId × ClassId × ClassId} {ad : Nat → Nat → Nat} {t : Nat × Nat} {aK aV : Nat → Nat} {args : Array Value} (S : CallFix p m c cX4_standsAlone 4 s args GW "OnChin$Keeper") (V : EvC D q ad t aK aV s) (hr : meth.sig.returnType = (some .boolean)) (hlocks : meth.locks = false) (o1 : Nat) (x2 : Int32) (ho1 : o1 < 5) (post : Int32 → St → Prop)  : ∀ (n : Nat) (x3 : Int32) (σ : St) (H : Heap) (locs : List Loc) (ls : Array Slot), wp_X4_standsAlone_12 o1 x2 post n x3 σ → wo D clA LC ad s.heap H locs (EC q ad σ) → lv_has ls 4 [(0, .ref (ad 16 0)), (1, .ref (ad 2 o1)), (2, .int x2), (3, .int x3)] → W p l e { frames := 4, cells := 0, slots := 0, locals := 92 } s m args below meth c H locs 0 0 (MQ below (zQi D clA LC ad (EC q ad) post) args s 0 0 (zA LC ad)) (F0 m 12 ls []) := by
  have hx := S.1
  have hb := S.2.1
  intro n
  induction n with
  | zero => intro x3 σ H locs ls h; exact False.elim h
  | succ n ih =>
    intro x3 σ H locs ls h  hw hl
    refine lv_iload_n hx hb dX4_standsAlone_12 rfl (lv_at hl 3 rfl) ?_
    refine lv_sipush (v := 400) hx hb dX4_standsAlone_13 (by decide) ?_
    refine lv_icmp_ge (tgt := 53) hx hb dX4_standsAlone_16 (by decide) (fun hc => ?_) (fun hc => ?_)
    · have h := h.1 hc
      exact wk_X4_standsAlone_53 S V hr hlocks o1 x2 ho1  post   _ _ _ _ h  hw (lv_sub hl [0, 1, 2] rfl)
    · have h := h.2 hc
      refine lv_aload_n hx hb dX4_standsAlone_19 rfl (lv_at hl 0 rfl) ?_
      refine gC_16_1 S V hw (Nat.le_of_ble_eq_true rfl) fl_X4_18 dX4_standsAlone_20 ?_
      refine lv_aload_n hx hb dX4_standsAlone_23 rfl (lv_at hl 0 rfl) ?_
      refine gC_16_0 S V hw (Nat.le_of_ble_eq_true rfl) fl_X4_9 dX4_standsAlone_24 ?_
      refine call_Vi (As := [.ref (ad 6 1)]) (rest := []) EvC_ok S V hw (mt_X0_fell l D q ad t aK aV 3 1 (Nat.le_of_ble_eq_true rfl) (Nat.le_of_ble_eq_true rfl) σ _ h) ok_X0_fell ml_X4_46 (rC_13 S V hw (Nat.le_of_ble_eq_true rfl)) ⟨(Nat.le_of_ble_eq_true rfl), (Nat.le_of_ble_eq_true rfl)⟩ ⟨rfl, rfl⟩ rfl hl.1 rfl (Nat.le_of_ble_eq_true rfl) dX4_standsAlone_27 (fun r1 σ1 H locs h hw => ?_)
      refine lv_if_ne (tgt := 53) hx hb dX4_standsAlone_30 (by decide) (fun hc => ?_) (fun hc => ?_)
      · have h := h.1 hc
        exact wk_X4_standsAlone_53 S V hr hlocks o1 x2 ho1  post   _ _ _ _ h  hw (lv_sub hl [0, 1, 2] rfl)
      · have h := h.2 hc
        refine lv_aload_n hx hb dX4_standsAlone_33 rfl (lv_at hl 0 rfl) ?_
        refine gC_16_1 S V hw (Nat.le_of_ble_eq_true rfl) fl_X4_18 dX4_standsAlone_34 ?_
        refine lv_aload_n hx hb dX4_standsAlone_37 rfl (lv_at hl 1 rfl) ?_
        refine lv_aload_n hx hb dX4_standsAlone_38 rfl (lv_at hl 0 rfl) ?_
        refine gC_16_0 S V hw (Nat.le_of_ble_eq_true rfl) fl_X4_9 dX4_standsAlone_39 ?_
        refine lv_iconst (v := 0) hx hb dX4_standsAlone_42 (by decide) ?_
        refine lv_iconst (v := 0) hx hb dX4_standsAlone_43 (by decide) ?_
        refine call_Vv (As := [.ref (ad 2 o1), .ref (ad 6 1), .int 0, .int 0]) (rest := []) EvC_ok S V hw (mt_X0_tick l D q ad t aK aV 3 o1 1 0 0 (Nat.le_of_ble_eq_true rfl) ho1 (Nat.le_of_ble_eq_true rfl) σ1 _ h) ok_X0_tick ml_X4_58 (rC_13 S V hw (Nat.le_of_ble_eq_true rfl)) ⟨(Nat.le_of_ble_eq_true rfl), (Nat.le_of_ble_eq_true rfl)⟩ ⟨rfl, rfl⟩ rfl hl.1 rfl (Nat.le_of_ble_eq_true rfl) dX4_standsAlone_44 (fun σ2 H locs h hw => ?_)
        refine lv_iinc (v := (x3 + 1)) (lv' := [(3, .int (x3 + 1)), (0, .ref (ad 16 0)), (1, .ref (ad 2 o1)), (2, .int x2)]) hx hb dX4_standsAlone_47 hl (k := 3) rfl rfl (by decide) rfl (fun ls hl => ?_)
        refine lv_goto (tgt := 12) hx hb dX4_standsAlone_50 (by decide) ?_
        exact ih (x3 + 1) _ _ _ _ h  hw (lv_sub hl [1, 2, 3, 0] rfl)
def wp_X4_standsAlone (o1 : Nat) (x2 : Int32) (post : Int32 → St → Prop)  (σ : St) : Prop := wp_X0_start 3 0 x2 0 (fun σ1 => ∃ nn, wp_X4_standsAlone_12 o1 x2 post nn 0 σ1) σ
set_option maxHeartbeats 4000000 in
set_option maxRecDepth 100000 in
theorem wk_X4_standsAlone_0 {p : Program} {l : Launch} {e : Env} {s : State} {m : MethodId} {below : List Frame} {meth : Method} {c : Code} {D : va_G} {q : ClassId × ClassId × ClassId × ClassId} {ad : Nat → Nat → Nat} {t : Nat × Nat} {aK aV : Nat → Nat} {args : Array Value} (S : CallFix p m c cX4_standsAlone 4 s args GW "OnChin$Keeper") (V : EvC D q ad t aK aV s) (hr : meth.sig.returnType = (some .boolean)) (hlocks : meth.locks = false) (o1 : Nat) (x2 : Int32) (ho1 : o1 < 5) (post : Int32 → St → Prop)  : ∀ (σ : St) (H : Heap) (locs : List Loc) (ls : Array Slot), wp_X4_standsAlone o1 x2 post  σ → wo D clA LC ad s.heap H locs (EC q ad σ) → lv_has ls 4 [(0, .ref (ad 16 0)), (1, .ref (ad 2 o1)), (2, .int x2)] → W p l e { frames := 4, cells := 0, slots := 0, locals := 92 } s m args below meth c H locs 0 0 (MQ below (zQi D clA LC ad (EC q ad) post) args s 0 0 (zA LC ad)) (F0 m 0 ls []) := by
  have hx := S.1
  have hb := S.2.1
  intro  σ H locs ls h  hw hl
  have h : wp_X0_start 3 0 x2 0 (fun σ1 => ∃ nn, wp_X4_standsAlone_12 o1 x2 post nn 0 σ1) σ := h
  refine lv_aload_n hx hb dX4_standsAlone_0 rfl (lv_at hl 0 rfl) ?_
  refine gC_16_1 S V hw (Nat.le_of_ble_eq_true rfl) fl_X4_18 dX4_standsAlone_1 ?_
  refine lv_iconst (v := 0) hx hb dX4_standsAlone_4 (by decide) ?_
  refine lv_iload_n hx hb dX4_standsAlone_5 rfl (lv_at hl 2 rfl) ?_
  refine lv_iconst (v := 0) hx hb dX4_standsAlone_6 (by decide) ?_
  refine call_Vv (As := [.int 0, .int x2, .int 0]) (rest := []) EvC_ok S V hw (mt_X0_start l D q ad t aK aV 3 0 x2 0 (Nat.le_of_ble_eq_true rfl) σ _ h) ok_X0_start ml_X4_42 (rC_13 S V hw (Nat.le_of_ble_eq_true rfl)) ⟨(Nat.le_of_ble_eq_true rfl), (Nat.le_of_ble_eq_true rfl)⟩ ⟨rfl, rfl⟩ rfl hl.1 rfl (Nat.le_of_ble_eq_true rfl) dX4_standsAlone_7 (fun σ1 H locs h hw => ?_)
  refine lv_iconst (v := 0) hx hb dX4_standsAlone_10 (by decide) ?_
  refine lv_istore_n (lv' := [(3, .int 0), (0, .ref (ad 16 0)), (1, .ref (ad 2 o1)), (2, .int x2)]) hx hb dX4_standsAlone_11 rfl hl (by decide) rfl (fun ls hl => ?_)
  obtain ⟨n9, h⟩ := h
  exact wk_X4_standsAlone_12 S V hr hlocks o1 x2 ho1  post  n9 0 _ _ _ _ h  hw (lv_sub hl [1, 2, 3, 0] rfl)
theorem mt_X4_standsAlone (l : Launch) (D : va_G) (q : ClassId × ClassId × ClassId × ClassId) (ad : Nat → Nat → Nat) (t : Nat × Nat) (aK aV : Nat → Nat) (o1 : Nat) (x2 : Int32) (ho1 : o1 < 5) (σ : St) (post : Int32 → St → Prop) (h : wp_X4_standsAlone o1 x2 post σ) : cI l D clA LC ad (EC q ad) (EvC D q ad t aK aV) yX4_standsAlone cX4_standsAlone 4 (some .boolean) { frames := 4, cells := 0, slots := 0, locals := 92 } [.ref (ad 16 0), .ref (ad 2 o1), .int x2] σ post :=
  ent_i (by decide) (Nat.le_of_ble_eq_true rfl) (fun p e s m below meth c S V hr hlocks hw ls hl => wk_X4_standsAlone_0 S V hr hlocks o1 x2 ho1 post   σ _ _ ls h  hw (lv_sub hl [0, 1, 2] rfl))
def wp_X4_leastShake_2 (o1 : Nat) (x2 : Int32) (post : Int32 → St → Prop) : Nat → Int32 → St → Prop
  | 0 => fun _ _ => False
  | n + 1 => fun x3 σ => (((tMost.getD 9 0) < x3 → post (-1) σ) ∧ (¬ (tMost.getD 9 0) < x3 → wp_X4_standsAlone o1 x2 (fun r1 σ1 => ((r1 = 0 → wp_X4_leastShake_2 o1 x2 post n (x3 + 1) σ1) ∧ (¬ r1 = 0 → post x3 σ1))) (su σ 6 1 9 x3)))
set_option maxHeartbeats 4000000 in
set_option maxRecDepth 100000 in
theorem wk_X4_leastShake_2 {p : Program} {l : Launch} {e : Env} {s : State} {m : MethodId} {below : List Frame} {meth : Method} {c : Code} {D : va_G} {q : ClassId × ClassId × ClassId × ClassId} {ad : Nat → Nat → Nat} {t : Nat × Nat} {aK aV : Nat → Nat} {args : Array Value} (S : CallFix p m c cX4_leastShake 4 s args GW "OnChin$Keeper") (V : EvC D q ad t aK aV s) (hr : meth.sig.returnType = (some .int)) (hlocks : meth.locks = false) (o1 : Nat) (x2 : Int32) (ho1 : o1 < 5) (post : Int32 → St → Prop)  : ∀ (n : Nat) (x3 : Int32) (σ : St) (H : Heap) (locs : List Loc) (ls : Array Slot), wp_X4_leastShake_2 o1 x2 post n x3 σ → wo D clA LC ad s.heap H locs (EC q ad σ) → lv_has ls 4 [(0, .ref (ad 16 0)), (1, .ref (ad 2 o1)), (2, .int x2), (3, .int x3)] → W p l e { frames := 5, cells := 0, slots := 0, locals := 115 } s m args below meth c H locs 0 0 (MQ below (zQi D clA LC ad (EC q ad) post) args s 0 0 (zA LC ad)) (F0 m 2 ls []) := by
  have hx := S.1
  have hb := S.2.1
  intro n
  induction n with
  | zero => intro x3 σ H locs ls h; exact False.elim h
  | succ n ih =>
    intro x3 σ H locs ls h  hw hl
    refine lv_iload_n hx hb dX4_leastShake_2 rfl (lv_at hl 3 rfl) ?_
    refine xs_2 S V hw (List.mem_of_getElem? (i := 3) rfl) dX4_leastShake_3 ?_
    refine lv_bipush (v := 9) hx hb dX4_leastShake_6 (by decide) ?_
    refine xt_2 S V hw (vp_in_nI (n := 9) (Nat.le_of_ble_eq_true rfl) (Nat.le_of_ble_eq_true rfl)) (z := (tMost.getD 9 0)) rfl dX4_leastShake_8 ?_
    refine lv_icmp_gt (tgt := 37) hx hb dX4_leastShake_9 (by decide) (fun hc => ?_) (fun hc => ?_)
    · have h := h.1 hc
      refine lv_iconst (v := (-1)) hx hb dX4_leastShake_37 (by decide) ?_
      exact ret_i S hr hlocks hw h dX4_leastShake_38
    · have h := h.2 hc
      refine lv_aload_n hx hb dX4_leastShake_12 rfl (lv_at hl 0 rfl) ?_
      refine gC_16_0 S V hw (Nat.le_of_ble_eq_true rfl) fl_X4_9 dX4_leastShake_13 ?_
      refine lv_bipush (v := 9) hx hb dX4_leastShake_16 (by decide) ?_
      refine lv_iload_n hx hb dX4_leastShake_18 rfl (lv_at hl 3 rfl) ?_
      refine sC_6 S V hw (Nat.le_of_ble_eq_true rfl) (vp_in_nI (n := 9) (Nat.le_of_ble_eq_true rfl) (Nat.le_of_ble_eq_true rfl)) dX4_leastShake_19 (fun H locs hw => ?_)
      have hw : wo D clA LC ad s.heap H locs (EC q ad (su σ 6 1 9 x3)) := hw
      refine lv_aload_n hx hb dX4_leastShake_20 rfl (lv_at hl 0 rfl) ?_
      refine lv_aload_n hx hb dX4_leastShake_21 rfl (lv_at hl 1 rfl) ?_
      refine lv_iload_n hx hb dX4_leastShake_22 rfl (lv_at hl 2 rfl) ?_
      refine call_Vi (As := [.ref (ad 2 o1), .int x2]) (rest := []) EvC_ok S V hw (mt_X4_standsAlone l D q ad t aK aV o1 x2 ho1 (su σ 6 1 9 x3) _ h) ok_X4_standsAlone ml_X4_101 (rC_16 S V hw (Nat.le_of_ble_eq_true rfl)) ⟨(Nat.le_of_ble_eq_true rfl), (Nat.le_of_ble_eq_true rfl)⟩ ⟨rfl, rfl⟩ rfl hl.1 rfl (Nat.le_of_ble_eq_true rfl) dX4_leastShake_23 (fun r1 σ1 H locs h hw => ?_)
      refine lv_if_eq (tgt := 31) hx hb dX4_leastShake_26 (by decide) (fun hc => ?_) (fun hc => ?_)
      · have h := h.1 hc
        refine lv_iinc (v := (x3 + 1)) (lv' := [(3, .int (x3 + 1)), (0, .ref (ad 16 0)), (1, .ref (ad 2 o1)), (2, .int x2)]) hx hb dX4_leastShake_31 hl (k := 3) rfl rfl (by decide) rfl (fun ls hl => ?_)
        refine lv_goto (tgt := 2) hx hb dX4_leastShake_34 (by decide) ?_
        exact ih (x3 + 1) _ _ _ _ h  hw (lv_sub hl [1, 2, 3, 0] rfl)
      · have h := h.2 hc
        refine lv_iload_n hx hb dX4_leastShake_29 rfl (lv_at hl 3 rfl) ?_
        exact ret_i S hr hlocks hw h dX4_leastShake_30
def wp_X4_leastShake (o1 : Nat) (x2 : Int32) (post : Int32 → St → Prop)  (σ : St) : Prop := ∃ nn, wp_X4_leastShake_2 o1 x2 post nn 0 σ
set_option maxHeartbeats 4000000 in
set_option maxRecDepth 100000 in
theorem wk_X4_leastShake_0 {p : Program} {l : Launch} {e : Env} {s : State} {m : MethodId} {below : List Frame} {meth : Method} {c : Code} {D : va_G} {q : ClassId × ClassId × ClassId × ClassId} {ad : Nat → Nat → Nat} {t : Nat × Nat} {aK aV : Nat → Nat} {args : Array Value} (S : CallFix p m c cX4_leastShake 4 s args GW "OnChin$Keeper") (V : EvC D q ad t aK aV s) (hr : meth.sig.returnType = (some .int)) (hlocks : meth.locks = false) (o1 : Nat) (x2 : Int32) (ho1 : o1 < 5) (post : Int32 → St → Prop)  : ∀ (σ : St) (H : Heap) (locs : List Loc) (ls : Array Slot), wp_X4_leastShake o1 x2 post  σ → wo D clA LC ad s.heap H locs (EC q ad σ) → lv_has ls 4 [(0, .ref (ad 16 0)), (1, .ref (ad 2 o1)), (2, .int x2)] → W p l e { frames := 5, cells := 0, slots := 0, locals := 115 } s m args below meth c H locs 0 0 (MQ below (zQi D clA LC ad (EC q ad) post) args s 0 0 (zA LC ad)) (F0 m 0 ls []) := by
  have hx := S.1
  have hb := S.2.1
  intro  σ H locs ls h  hw hl
  refine lv_iconst (v := 0) hx hb dX4_leastShake_0 (by decide) ?_
  refine lv_istore_n (lv' := [(3, .int 0), (0, .ref (ad 16 0)), (1, .ref (ad 2 o1)), (2, .int x2)]) hx hb dX4_leastShake_1 rfl hl (by decide) rfl (fun ls hl => ?_)
  obtain ⟨n9, h⟩ := h
  exact wk_X4_leastShake_2 S V hr hlocks o1 x2 ho1  post  n9 0 _ _ _ _ h  hw (lv_sub hl [1, 2, 3, 0] rfl)
theorem mt_X4_leastShake (l : Launch) (D : va_G) (q : ClassId × ClassId × ClassId × ClassId) (ad : Nat → Nat → Nat) (t : Nat × Nat) (aK aV : Nat → Nat) (o1 : Nat) (x2 : Int32) (ho1 : o1 < 5) (σ : St) (post : Int32 → St → Prop) (h : wp_X4_leastShake o1 x2 post σ) : cI l D clA LC ad (EC q ad) (EvC D q ad t aK aV) yX4_leastShake cX4_leastShake 4 (some .int) { frames := 5, cells := 0, slots := 0, locals := 115 } [.ref (ad 16 0), .ref (ad 2 o1), .int x2] σ post :=
  ent_i (by decide) (Nat.le_of_ble_eq_true rfl) (fun p e s m below meth c S V hr hlocks hw ls hl => wk_X4_leastShake_0 S V hr hlocks o1 x2 ho1 post   σ _ _ ls h  hw (lv_sub hl [0, 1, 2] rfl))
def wp_X4_bothLast_109 (o1 : Nat) (o2 : Nat) (x3 : Int32) (x4 : Int32) (post : Int32 → St → Prop)  (σ : St) : Prop := post (σ 13 3 4) σ
set_option maxHeartbeats 4000000 in
set_option maxRecDepth 100000 in
theorem wk_X4_bothLast_109 {p : Program} {l : Launch} {e : Env} {s : State} {m : MethodId} {below : List Frame} {meth : Method} {c : Code} {D : va_G} {q : ClassId × ClassId × ClassId × ClassId} {ad : Nat → Nat → Nat} {t : Nat × Nat} {aK aV : Nat → Nat} {args : Array Value} (S : CallFix p m c cX4_bothLast 8 s args GW "OnChin$Keeper") (V : EvC D q ad t aK aV s) (hr : meth.sig.returnType = (some .int)) (hlocks : meth.locks = false) (o1 : Nat) (o2 : Nat) (x3 : Int32) (x4 : Int32) (ho1 : o1 < 5) (ho2 : o2 < 5) (post : Int32 → St → Prop)  : ∀ (σ : St) (H : Heap) (locs : List Loc) (ls : Array Slot), wp_X4_bothLast_109 o1 o2 x3 x4 post  σ → wo D clA LC ad s.heap H locs (EC q ad σ) → lv_has ls 8 [(0, .ref (ad 16 0)), (1, .ref (ad 2 o1)), (2, .ref (ad 2 o2)), (3, .int x3), (4, .int x4)] → W p l e { frames := 4, cells := 0, slots := 0, locals := 92 } s m args below meth c H locs 0 0 (MQ below (zQi D clA LC ad (EC q ad) post) args s 0 0 (zA LC ad)) (F0 m 109 ls []) := by
  have hx := S.1
  have hb := S.2.1
  intro  σ H locs ls h  hw hl
  refine lv_aload_n hx hb dX4_bothLast_109 rfl (lv_at hl 0 rfl) ?_
  refine gC_16_1 S V hw (Nat.le_of_ble_eq_true rfl) fl_X4_18 dX4_bothLast_110 ?_
  refine gC_13_4 S V hw (Nat.le_of_ble_eq_true rfl) fl_X4_62 rfl dX4_bothLast_113 ?_
  exact ret_i S hr hlocks hw h dX4_bothLast_116
def wp_X4_bothLast_99 (o1 : Nat) (o2 : Nat) (x3 : Int32) (x4 : Int32) (K13 : Int32 → Int32 → St → Prop) (post : Int32 → St → Prop) (x5 : Int32) (x6 : Int32) (os0 : Nat) (os1 : Nat) (os2 : Nat) (xs3 : Int32) (σ : St) : Prop := wp_X0_tick os0 os1 os2 xs3 0 (fun σ1 => K13 x5 (x6 + 1) σ1) σ
set_option maxHeartbeats 4000000 in
set_option maxRecDepth 100000 in
theorem wk_X4_bothLast_99 {p : Program} {l : Launch} {e : Env} {s : State} {m : MethodId} {below : List Frame} {meth : Method} {c : Code} {D : va_G} {q : ClassId × ClassId × ClassId × ClassId} {ad : Nat → Nat → Nat} {t : Nat × Nat} {aK aV : Nat → Nat} {args : Array Value} (S : CallFix p m c cX4_bothLast 8 s args GW "OnChin$Keeper") (V : EvC D q ad t aK aV s) (hr : meth.sig.returnType = (some .int)) (hlocks : meth.locks = false) (o1 : Nat) (o2 : Nat) (x3 : Int32) (x4 : Int32) (ho1 : o1 < 5) (ho2 : o2 < 5) (K13 : Int32 → Int32 → St → Prop) (post : Int32 → St → Prop) (hK13 : ∀ (x5 : Int32) (x6 : Int32) (σ : St) (H : Heap) (locs : List Loc) (ls : Array Slot), K13 x5 x6 σ → wo D clA LC ad s.heap H locs (EC q ad σ) → lv_has ls 8 [(0, .ref (ad 16 0)), (1, .ref (ad 2 o1)), (2, .ref (ad 2 o2)), (3, .int x3), (4, .int x4), (5, .int x5), (6, .int x6)] → W p l e { frames := 4, cells := 0, slots := 0, locals := 92 } s m args below meth c H locs 0 0 (MQ below (zQi D clA LC ad (EC q ad) post) args s 0 0 (zA LC ad)) (F0 m 13 ls [])) : ∀ (x5 : Int32) (x6 : Int32) (os0 : Nat) (os1 : Nat) (os2 : Nat) (xs3 : Int32) (σ : St) (H : Heap) (locs : List Loc) (ls : Array Slot), wp_X4_bothLast_99 o1 o2 x3 x4 K13 post x5 x6 os0 os1 os2 xs3 σ → os0 < 5 → os1 < 5 → os2 < 3 → wo D clA LC ad s.heap H locs (EC q ad σ) → lv_has ls 8 [(0, .ref (ad 16 0)), (1, .ref (ad 2 o1)), (2, .ref (ad 2 o2)), (3, .int x3), (4, .int x4), (5, .int x5), (6, .int x6)] → W p l e { frames := 4, cells := 0, slots := 0, locals := 92 } s m args below meth c H locs 0 0 (MQ below (zQi D clA LC ad (EC q ad) post) args s 0 0 (zA LC ad)) (F0 m 99 ls [.int xs3, .ref (ad 6 os2), .ref (ad 2 os1), .ref (ad 13 os0)]) := by
  have hx := S.1
  have hb := S.2.1
  intro x5 x6 os0 os1 os2 xs3 σ H locs ls h hos0 hos1 hos2 hw hl
  have h : wp_X0_tick os0 os1 os2 xs3 0 (fun σ1 => K13 x5 (x6 + 1) σ1) σ := h
  refine lv_iconst (v := 0) hx hb dX4_bothLast_99 (by decide) ?_
  refine call_Vv (As := [.ref (ad 2 os1), .ref (ad 6 os2), .int xs3, .int 0]) (rest := []) EvC_ok S V hw (mt_X0_tick l D q ad t aK aV os0 os1 os2 xs3 0 hos0 hos1 hos2 σ _ h) ok_X0_tick ml_X4_58 (rC_13 S V hw hos0) ⟨(Nat.le_of_ble_eq_true rfl), (Nat.le_of_ble_eq_true rfl)⟩ ⟨rfl, rfl⟩ rfl hl.1 rfl (Nat.le_of_ble_eq_true rfl) dX4_bothLast_100 (fun σ1 H locs h hw => ?_)
  refine lv_iinc (v := (x6 + 1)) (lv' := [(6, .int (x6 + 1)), (0, .ref (ad 16 0)), (1, .ref (ad 2 o1)), (2, .ref (ad 2 o2)), (3, .int x3), (4, .int x4), (5, .int x5)]) hx hb dX4_bothLast_103 hl (k := 6) rfl rfl (by decide) rfl (fun ls hl => ?_)
  refine lv_goto (tgt := 13) hx hb dX4_bothLast_106 (by decide) ?_
  exact hK13 x5 (x6 + 1) _ _ _ _ h  hw (lv_sub hl [1, 2, 3, 4, 5, 6, 0] rfl)
def wp_X4_bothLast_63 (o1 : Nat) (o2 : Nat) (x3 : Int32) (x4 : Int32) (K13 : Int32 → Int32 → St → Prop) (post : Int32 → St → Prop) (x5 : Int32) (x6 : Int32) (xs0 : Int32) (σ : St) : Prop := wp_X0_tick 3 o1 1 xs0 0 (fun σ1 => ((¬ xs0 = 0 → wp_X4_bothLast_99 o1 o2 x3 x4 K13 post x5 x6 4 o2 1 0 σ1) ∧ (xs0 = 0 → wp_X4_bothLast_99 o1 o2 x3 x4 K13 post x5 x6 4 o2 1 1 σ1))) σ
set_option maxHeartbeats 4000000 in
set_option maxRecDepth 100000 in
theorem wk_X4_bothLast_63 {p : Program} {l : Launch} {e : Env} {s : State} {m : MethodId} {below : List Frame} {meth : Method} {c : Code} {D : va_G} {q : ClassId × ClassId × ClassId × ClassId} {ad : Nat → Nat → Nat} {t : Nat × Nat} {aK aV : Nat → Nat} {args : Array Value} (S : CallFix p m c cX4_bothLast 8 s args GW "OnChin$Keeper") (V : EvC D q ad t aK aV s) (hr : meth.sig.returnType = (some .int)) (hlocks : meth.locks = false) (o1 : Nat) (o2 : Nat) (x3 : Int32) (x4 : Int32) (ho1 : o1 < 5) (ho2 : o2 < 5) (K13 : Int32 → Int32 → St → Prop) (post : Int32 → St → Prop) (hK13 : ∀ (x5 : Int32) (x6 : Int32) (σ : St) (H : Heap) (locs : List Loc) (ls : Array Slot), K13 x5 x6 σ → wo D clA LC ad s.heap H locs (EC q ad σ) → lv_has ls 8 [(0, .ref (ad 16 0)), (1, .ref (ad 2 o1)), (2, .ref (ad 2 o2)), (3, .int x3), (4, .int x4), (5, .int x5), (6, .int x6)] → W p l e { frames := 4, cells := 0, slots := 0, locals := 92 } s m args below meth c H locs 0 0 (MQ below (zQi D clA LC ad (EC q ad) post) args s 0 0 (zA LC ad)) (F0 m 13 ls [])) : ∀ (x5 : Int32) (x6 : Int32) (xs0 : Int32) (σ : St) (H : Heap) (locs : List Loc) (ls : Array Slot), wp_X4_bothLast_63 o1 o2 x3 x4 K13 post x5 x6 xs0 σ → wo D clA LC ad s.heap H locs (EC q ad σ) → lv_has ls 8 [(0, .ref (ad 16 0)), (1, .ref (ad 2 o1)), (2, .ref (ad 2 o2)), (3, .int x3), (4, .int x4), (5, .int x5), (6, .int x6)] → W p l e { frames := 4, cells := 0, slots := 0, locals := 92 } s m args below meth c H locs 0 0 (MQ below (zQi D clA LC ad (EC q ad) post) args s 0 0 (zA LC ad)) (F0 m 63 ls [.int xs0]) := by
  have hx := S.1
  have hb := S.2.1
  intro x5 x6 xs0 σ H locs ls h  hw hl
  have h : wp_X0_tick 3 o1 1 xs0 0 (fun σ1 => ((¬ xs0 = 0 → wp_X4_bothLast_99 o1 o2 x3 x4 K13 post x5 x6 4 o2 1 0 σ1) ∧ (xs0 = 0 → wp_X4_bothLast_99 o1 o2 x3 x4 K13 post x5 x6 4 o2 1 1 σ1))) σ := h
  refine lv_istore (lv' := [(7, .int xs0), (0, .ref (ad 16 0)), (1, .ref (ad 2 o1)), (2, .ref (ad 2 o2)), (3, .int x3), (4, .int x4), (5, .int x5), (6, .int x6)]) hx hb dX4_bothLast_63 hl (by decide) rfl (fun ls hl => ?_)
  refine lv_aload_n hx hb dX4_bothLast_65 rfl (lv_at hl 1 rfl) ?_
  refine gC_16_1 S V hw (Nat.le_of_ble_eq_true rfl) fl_X4_18 dX4_bothLast_66 ?_
  refine lv_aload_n hx hb dX4_bothLast_69 rfl (lv_at hl 2 rfl) ?_
  refine lv_aload_n hx hb dX4_bothLast_70 rfl (lv_at hl 1 rfl) ?_
  refine gC_16_0 S V hw (Nat.le_of_ble_eq_true rfl) fl_X4_9 dX4_bothLast_71 ?_
  refine lv_iload hx hb dX4_bothLast_74 (lv_at hl 0 rfl) ?_
  refine lv_iconst (v := 0) hx hb dX4_bothLast_76 (by decide) ?_
  refine call_Vv (As := [.ref (ad 2 o1), .ref (ad 6 1), .int xs0, .int 0]) (rest := []) EvC_ok S V hw (mt_X0_tick l D q ad t aK aV 3 o1 1 xs0 0 (Nat.le_of_ble_eq_true rfl) ho1 (Nat.le_of_ble_eq_true rfl) σ _ h) ok_X0_tick ml_X4_58 (rC_13 S V hw (Nat.le_of_ble_eq_true rfl)) ⟨(Nat.le_of_ble_eq_true rfl), (Nat.le_of_ble_eq_true rfl)⟩ ⟨rfl, rfl⟩ rfl hl.1 rfl (Nat.le_of_ble_eq_true rfl) dX4_bothLast_77 (fun σ1 H locs h hw => ?_)
  refine lv_aload_n hx hb dX4_bothLast_80 rfl (lv_at hl 1 rfl) ?_
  refine gC_16_2 S V hw (Nat.le_of_ble_eq_true rfl) fl_X4_22 dX4_bothLast_81 ?_
  refine lv_aload_n hx hb dX4_bothLast_84 rfl (lv_at hl 3 rfl) ?_
  refine lv_aload_n hx hb dX4_bothLast_85 rfl (lv_at hl 1 rfl) ?_
  refine gC_16_0 S V hw (Nat.le_of_ble_eq_true rfl) fl_X4_9 dX4_bothLast_86 ?_
  refine lv_iload hx hb dX4_bothLast_89 (lv_at hl 0 rfl) ?_
  refine lv_if_ne (tgt := 98) hx hb dX4_bothLast_91 (by decide) (fun hc => ?_) (fun hc => ?_)
  · have h := h.1 hc
    refine lv_iconst (v := 0) hx hb dX4_bothLast_98 (by decide) ?_
    exact wk_X4_bothLast_99 S V hr hlocks o1 o2 x3 x4 ho1 ho2 K13 post hK13 x5 x6 4 o2 1 0 _ _ _ _ h (Nat.le_of_ble_eq_true rfl) ho2 (Nat.le_of_ble_eq_true rfl) hw (lv_sub hl [1, 2, 3, 4, 5, 6, 7] rfl)
  · have h := h.2 hc
    refine lv_iconst (v := 1) hx hb dX4_bothLast_94 (by decide) ?_
    refine lv_goto (tgt := 99) hx hb dX4_bothLast_95 (by decide) ?_
    exact wk_X4_bothLast_99 S V hr hlocks o1 o2 x3 x4 ho1 ho2 K13 post hK13 x5 x6 4 o2 1 1 _ _ _ _ h (Nat.le_of_ble_eq_true rfl) ho2 (Nat.le_of_ble_eq_true rfl) hw (lv_sub hl [1, 2, 3, 4, 5, 6, 7] rfl)
def wp_X4_bothLast_13 (o1 : Nat) (o2 : Nat) (x3 : Int32) (x4 : Int32) (post : Int32 → St → Prop) : Nat → Int32 → Int32 → St → Prop
  | 0 => fun _ _ _ => False
  | n + 1 => fun x5 x6 σ => ((400 ≤ x6 → wp_X4_bothLast_109 o1 o2 x3 x4 post  σ) ∧ (¬ 400 ≤ x6 → wp_X0_fell 3 1 (fun r1 σ1 => ((¬ r1 = 0 → wp_X4_bothLast_109 o1 o2 x3 x4 post  σ1) ∧ (r1 = 0 → wp_X0_fell 4 1 (fun r2 σ2 => ((¬ r2 = 0 → wp_X4_bothLast_109 o1 o2 x3 x4 post  σ2) ∧ (r2 = 0 → (¬ x5 = 0 ∧ ((x3 ≤ (x6 - x6 / x5 * x5) → wp_X4_bothLast_63 o1 o2 x3 x4 (fun y0 y1 τ => wp_X4_bothLast_13 o1 o2 x3 x4 post n y0 y1 τ) post x5 x6 0 σ2) ∧ (¬ x3 ≤ (x6 - x6 / x5 * x5) → wp_X4_bothLast_63 o1 o2 x3 x4 (fun y0 y1 τ => wp_X4_bothLast_13 o1 o2 x3 x4 post n y0 y1 τ) post x5 x6 1 σ2)))))) σ1))) σ))
set_option maxHeartbeats 4000000 in
set_option maxRecDepth 100000 in
theorem wk_X4_bothLast_13 {p : Program} {l : Launch} {e : Env} {s : State} {m : MethodId} {below : List Frame} {meth : Method} {c : Code} {D : va_G} {q : ClassId × ClassId × ClassId × ClassId} {ad : Nat → Nat → Nat} {t : Nat × Nat} {aK aV : Nat → Nat} {args : Array Value} (S : CallFix p m c cX4_bothLast 8 s args GW "OnChin$Keeper") (V : EvC D q ad t aK aV s) (hr : meth.sig.returnType = (some .int)) (hlocks : meth.locks = false) (o1 : Nat) (o2 : Nat) (x3 : Int32) (x4 : Int32) (ho1 : o1 < 5) (ho2 : o2 < 5) (post : Int32 → St → Prop)  : ∀ (n : Nat) (x5 : Int32) (x6 : Int32) (σ : St) (H : Heap) (locs : List Loc) (ls : Array Slot), wp_X4_bothLast_13 o1 o2 x3 x4 post n x5 x6 σ → wo D clA LC ad s.heap H locs (EC q ad σ) → lv_has ls 8 [(0, .ref (ad 16 0)), (1, .ref (ad 2 o1)), (2, .ref (ad 2 o2)), (3, .int x3), (4, .int x4), (5, .int x5), (6, .int x6)] → W p l e { frames := 4, cells := 0, slots := 0, locals := 92 } s m args below meth c H locs 0 0 (MQ below (zQi D clA LC ad (EC q ad) post) args s 0 0 (zA LC ad)) (F0 m 13 ls []) := by
  have hx := S.1
  have hb := S.2.1
  intro n
  induction n with
  | zero => intro x5 x6 σ H locs ls h; exact False.elim h
  | succ n ih =>
    intro x5 x6 σ H locs ls h  hw hl
    refine lv_iload hx hb dX4_bothLast_13 (lv_at hl 6 rfl) ?_
    refine lv_sipush (v := 400) hx hb dX4_bothLast_15 (by decide) ?_
    refine lv_icmp_ge (tgt := 109) hx hb dX4_bothLast_18 (by decide) (fun hc => ?_) (fun hc => ?_)
    · have h := h.1 hc
      exact wk_X4_bothLast_109 S V hr hlocks o1 o2 x3 x4 ho1 ho2  post   _ _ _ _ h  hw (lv_sub hl [0, 1, 2, 3, 4] rfl)
    · have h := h.2 hc
      refine lv_aload_n hx hb dX4_bothLast_21 rfl (lv_at hl 0 rfl) ?_
      refine gC_16_1 S V hw (Nat.le_of_ble_eq_true rfl) fl_X4_18 dX4_bothLast_22 ?_
      refine lv_aload_n hx hb dX4_bothLast_25 rfl (lv_at hl 0 rfl) ?_
      refine gC_16_0 S V hw (Nat.le_of_ble_eq_true rfl) fl_X4_9 dX4_bothLast_26 ?_
      refine call_Vi (As := [.ref (ad 6 1)]) (rest := []) EvC_ok S V hw (mt_X0_fell l D q ad t aK aV 3 1 (Nat.le_of_ble_eq_true rfl) (Nat.le_of_ble_eq_true rfl) σ _ h) ok_X0_fell ml_X4_46 (rC_13 S V hw (Nat.le_of_ble_eq_true rfl)) ⟨(Nat.le_of_ble_eq_true rfl), (Nat.le_of_ble_eq_true rfl)⟩ ⟨rfl, rfl⟩ rfl hl.1 rfl (Nat.le_of_ble_eq_true rfl) dX4_bothLast_29 (fun r1 σ1 H locs h hw => ?_)
      refine lv_if_ne (tgt := 109) hx hb dX4_bothLast_32 (by decide) (fun hc => ?_) (fun hc => ?_)
      · have h := h.1 hc
        exact wk_X4_bothLast_109 S V hr hlocks o1 o2 x3 x4 ho1 ho2  post   _ _ _ _ h  hw (lv_sub hl [0, 1, 2, 3, 4] rfl)
      · have h := h.2 hc
        refine lv_aload_n hx hb dX4_bothLast_35 rfl (lv_at hl 0 rfl) ?_
        refine gC_16_2 S V hw (Nat.le_of_ble_eq_true rfl) fl_X4_22 dX4_bothLast_36 ?_
        refine lv_aload_n hx hb dX4_bothLast_39 rfl (lv_at hl 0 rfl) ?_
        refine gC_16_0 S V hw (Nat.le_of_ble_eq_true rfl) fl_X4_9 dX4_bothLast_40 ?_
        refine call_Vi (As := [.ref (ad 6 1)]) (rest := []) EvC_ok S V hw (mt_X0_fell l D q ad t aK aV 4 1 (Nat.le_of_ble_eq_true rfl) (Nat.le_of_ble_eq_true rfl) σ1 _ h) ok_X0_fell ml_X4_46 (rC_13 S V hw (Nat.le_of_ble_eq_true rfl)) ⟨(Nat.le_of_ble_eq_true rfl), (Nat.le_of_ble_eq_true rfl)⟩ ⟨rfl, rfl⟩ rfl hl.1 rfl (Nat.le_of_ble_eq_true rfl) dX4_bothLast_43 (fun r2 σ2 H locs h hw => ?_)
        refine lv_if_ne (tgt := 109) hx hb dX4_bothLast_46 (by decide) (fun hc => ?_) (fun hc => ?_)
        · have h := h.1 hc
          exact wk_X4_bothLast_109 S V hr hlocks o1 o2 x3 x4 ho1 ho2  post   _ _ _ _ h  hw (lv_sub hl [0, 1, 2, 3, 4] rfl)
        · have h := h.2 hc
          refine lv_iload hx hb dX4_bothLast_49 (lv_at hl 6 rfl) ?_
          refine lv_iload hx hb dX4_bothLast_51 (lv_at hl 5 rfl) ?_
          refine lv_irem hx hb dX4_bothLast_53 h.1 ?_
          have h := h.2
          refine lv_iload_n hx hb dX4_bothLast_54 rfl (lv_at hl 3 rfl) ?_
          refine lv_icmp_ge (tgt := 62) hx hb dX4_bothLast_55 (by decide) (fun hc => ?_) (fun hc => ?_)
          · have h := h.1 hc
            refine lv_iconst (v := 0) hx hb dX4_bothLast_62 (by decide) ?_
            exact wk_X4_bothLast_63 S V hr hlocks o1 o2 x3 x4 ho1 ho2 (fun y0 y1 τ => wp_X4_bothLast_13 o1 o2 x3 x4 post n y0 y1 τ) post ih x5 x6 0 _ _ _ _ h  hw (lv_sub hl [0, 1, 2, 3, 4, 5, 6] rfl)
          · have h := h.2 hc
            refine lv_iconst (v := 1) hx hb dX4_bothLast_58 (by decide) ?_
            refine lv_goto (tgt := 63) hx hb dX4_bothLast_59 (by decide) ?_
            exact wk_X4_bothLast_63 S V hr hlocks o1 o2 x3 x4 ho1 ho2 (fun y0 y1 τ => wp_X4_bothLast_13 o1 o2 x3 x4 post n y0 y1 τ) post ih x5 x6 1 _ _ _ _ h  hw (lv_sub hl [0, 1, 2, 3, 4, 5, 6] rfl)
def wp_X4_bothLast (o1 : Nat) (o2 : Nat) (x3 : Int32) (x4 : Int32) (post : Int32 → St → Prop)  (σ : St) : Prop := ∃ nn, wp_X4_bothLast_13 o1 o2 x3 x4 post nn (if 1 < (x3 + x4) then (x3 + x4) else 1) 0 σ
set_option maxHeartbeats 4000000 in
set_option maxRecDepth 100000 in
theorem wk_X4_bothLast_0 {p : Program} {l : Launch} {e : Env} {s : State} {m : MethodId} {below : List Frame} {meth : Method} {c : Code} {D : va_G} {q : ClassId × ClassId × ClassId × ClassId} {ad : Nat → Nat → Nat} {t : Nat × Nat} {aK aV : Nat → Nat} {args : Array Value} (S : CallFix p m c cX4_bothLast 8 s args GW "OnChin$Keeper") (V : EvC D q ad t aK aV s) (hr : meth.sig.returnType = (some .int)) (hlocks : meth.locks = false) (o1 : Nat) (o2 : Nat) (x3 : Int32) (x4 : Int32) (ho1 : o1 < 5) (ho2 : o2 < 5) (post : Int32 → St → Prop)  : ∀ (σ : St) (H : Heap) (locs : List Loc) (ls : Array Slot), wp_X4_bothLast o1 o2 x3 x4 post  σ → wo D clA LC ad s.heap H locs (EC q ad σ) → lv_has ls 8 [(0, .ref (ad 16 0)), (1, .ref (ad 2 o1)), (2, .ref (ad 2 o2)), (3, .int x3), (4, .int x4)] → W p l e { frames := 4, cells := 0, slots := 0, locals := 92 } s m args below meth c H locs 0 0 (MQ below (zQi D clA LC ad (EC q ad) post) args s 0 0 (zA LC ad)) (F0 m 0 ls []) := by
  have hx := S.1
  have hb := S.2.1
  intro  σ H locs ls h  hw hl
  refine lv_iconst (v := 1) hx hb dX4_bothLast_0 (by decide) ?_
  refine lv_iload_n hx hb dX4_bothLast_1 rfl (lv_at hl 3 rfl) ?_
  refine lv_iload hx hb dX4_bothLast_2 (lv_at hl 4 rfl) ?_
  refine lv_iadd hx hb dX4_bothLast_4 ?_
  refine x_max S hl.1 ml_X4_104 ws_max wi_J9 wc_max (Nat.le_of_ble_eq_true rfl) (Nat.le_of_ble_eq_true rfl) dX4_bothLast_5 ?_
  refine lv_istore (lv' := [(5, .int (if 1 < (x3 + x4) then (x3 + x4) else 1)), (0, .ref (ad 16 0)), (1, .ref (ad 2 o1)), (2, .ref (ad 2 o2)), (3, .int x3), (4, .int x4)]) hx hb dX4_bothLast_8 hl (by decide) rfl (fun ls hl => ?_)
  refine lv_iconst (v := 0) hx hb dX4_bothLast_10 (by decide) ?_
  refine lv_istore (lv' := [(6, .int 0), (5, .int (if 1 < (x3 + x4) then (x3 + x4) else 1)), (0, .ref (ad 16 0)), (1, .ref (ad 2 o1)), (2, .ref (ad 2 o2)), (3, .int x3), (4, .int x4)]) hx hb dX4_bothLast_11 hl (by decide) rfl (fun ls hl => ?_)
  obtain ⟨n9, h⟩ := h
  exact wk_X4_bothLast_13 S V hr hlocks o1 o2 x3 x4 ho1 ho2  post  n9 (if 1 < (x3 + x4) then (x3 + x4) else 1) 0 _ _ _ _ h  hw (lv_sub hl [2, 3, 4, 5, 6, 1, 0] rfl)
theorem mt_X4_bothLast (l : Launch) (D : va_G) (q : ClassId × ClassId × ClassId × ClassId) (ad : Nat → Nat → Nat) (t : Nat × Nat) (aK aV : Nat → Nat) (o1 : Nat) (o2 : Nat) (x3 : Int32) (x4 : Int32) (ho1 : o1 < 5) (ho2 : o2 < 5) (σ : St) (post : Int32 → St → Prop) (h : wp_X4_bothLast o1 o2 x3 x4 post σ) : cI l D clA LC ad (EC q ad) (EvC D q ad t aK aV) yX4_bothLast cX4_bothLast 8 (some .int) { frames := 4, cells := 0, slots := 0, locals := 92 } [.ref (ad 16 0), .ref (ad 2 o1), .ref (ad 2 o2), .int x3, .int x4] σ post :=
  ent_i (by decide) (Nat.le_of_ble_eq_true rfl) (fun p e s m below meth c S V hr hlocks hw ls hl => wk_X4_bothLast_0 S V hr hlocks o1 o2 x3 x4 ho1 ho2 post   σ _ _ ls h  hw (lv_sub hl [0, 1, 2, 3, 4] rfl))
