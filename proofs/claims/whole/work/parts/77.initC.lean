/-! CONSTRUCTORS: of the class and of the reference -/
theorem wo_inst : Cond.instanceMethod objectInit ∈ GW := gw_of (List.mem_of_getElem? (i := 23) (by decide +kernel)) rfl
theorem wo_code : Cond.code objectInit ⟨#[0xb1]⟩ 1 none ∈ GW := gw_of (List.mem_of_getElem? (i := 24) (by decide +kernel)) rfl
theorem wa_int : Cond.arrayClass .int ∈ GW := gw_of (List.mem_of_getElem? (i := 69) (by decide +kernel)) rfl
theorem wa_bool : Cond.arrayClass .boolean ∈ GW := gw_of (List.mem_of_getElem? (i := 891) (by decide +kernel)) rfl
theorem ck_L_7 : Cond.classLink "OnChinLaw" 7 "OnChin" ∈ GW := gw_of (List.mem_of_getElem? (i := 17) (by decide +kernel)) rfl
theorem ck_X8_9 : Cond.classLink "OnChin" 9 "OnChin$Told" ∈ GW := gw_of (List.mem_of_getElem? (i := 25) (by decide +kernel)) rfl
theorem ck_X7_9 : Cond.classLink "OnChin$Told" 9 "OnChin$Thing" ∈ GW := gw_of (List.mem_of_getElem? (i := 31) (by decide +kernel)) rfl
theorem ck_X8_16 : Cond.classLink "OnChin" 16 "OnChin$Text" ∈ GW := gw_of (List.mem_of_getElem? (i := 87) (by decide +kernel)) rfl
theorem ck_X8_23 : Cond.classLink "OnChin" 23 "OnChin$Balance" ∈ GW := gw_of (List.mem_of_getElem? (i := 129) (by decide +kernel)) rfl
theorem ck_X8_34 : Cond.classLink "OnChin" 34 "OnChin$Keeper" ∈ GW := gw_of (List.mem_of_getElem? (i := 165) (by decide +kernel)) rfl
theorem ck_X4_15 : Cond.classLink "OnChin$Keeper" 15 "OnChin$Balance" ∈ GW := gw_of (List.mem_of_getElem? (i := 171) (by decide +kernel)) rfl
theorem ck_X4_25 : Cond.classLink "OnChin$Keeper" 25 "OnChin$Thing" ∈ GW := gw_of (List.mem_of_getElem? (i := 173) (by decide +kernel)) rfl
theorem ck_X8_41 : Cond.classLink "OnChin" 41 "OnChin$Evenings" ∈ GW := gw_of (List.mem_of_getElem? (i := 191) (by decide +kernel)) rfl
theorem ck_X8_48 : Cond.classLink "OnChin" 48 "OnChin$Film" ∈ GW := gw_of (List.mem_of_getElem? (i := 205) (by decide +kernel)) rfl
theorem ck_X8_55 : Cond.classLink "OnChin" 55 "OnChin$House" ∈ GW := gw_of (List.mem_of_getElem? (i := 249) (by decide +kernel)) rfl
theorem ck_L_10 : Cond.classLink "OnChinLaw" 10 "OnChinModel" ∈ GW := gw_of (List.mem_of_getElem? (i := 758) (by decide +kernel)) rfl
theorem ci_X8 : Cond.instantiable "OnChin" 8 ∈ GW := gw_of (List.mem_of_getElem? (i := 18) (by decide +kernel)) rfl
theorem ci_X7 : Cond.instantiable "OnChin$Told" 2 ∈ GW := gw_of (List.mem_of_getElem? (i := 26) (by decide +kernel)) rfl
theorem ci_X6 : Cond.instantiable "OnChin$Thing" 7 ∈ GW := gw_of (List.mem_of_getElem? (i := 33) (by decide +kernel)) rfl
theorem ci_X5 : Cond.instantiable "OnChin$Text" 11 ∈ GW := gw_of (List.mem_of_getElem? (i := 88) (by decide +kernel)) rfl
theorem ci_X0 : Cond.instantiable "OnChin$Balance" 7 ∈ GW := gw_of (List.mem_of_getElem? (i := 130) (by decide +kernel)) rfl
theorem ci_X4 : Cond.instantiable "OnChin$Keeper" 4 ∈ GW := gw_of (List.mem_of_getElem? (i := 166) (by decide +kernel)) rfl
theorem ci_X1 : Cond.instantiable "OnChin$Evenings" 2 ∈ GW := gw_of (List.mem_of_getElem? (i := 192) (by decide +kernel)) rfl
theorem ci_X2 : Cond.instantiable "OnChin$Film" 10 ∈ GW := gw_of (List.mem_of_getElem? (i := 206) (by decide +kernel)) rfl
theorem ci_X3 : Cond.instantiable "OnChin$House" 6 ∈ GW := gw_of (List.mem_of_getElem? (i := 250) (by decide +kernel)) rfl
theorem ci_X9 : Cond.instantiable "OnChinModel" 42 ∈ GW := gw_of (List.mem_of_getElem? (i := 759) (by decide +kernel)) rfl
theorem ii_X0 : Cond.instanceMethod yX0_init ∈ GW := gw_of (List.mem_of_getElem? (i := 132) (by decide +kernel)) rfl
theorem ic_X0 : Cond.code yX0_init cX0_init 1 none ∈ GW := gw_of (List.mem_of_getElem? (i := 133) (by decide +kernel)) rfl
theorem ii_X1 : Cond.instanceMethod yX1_init ∈ GW := gw_of (List.mem_of_getElem? (i := 194) (by decide +kernel)) rfl
theorem ic_X1 : Cond.code yX1_init cX1_init 1 none ∈ GW := gw_of (List.mem_of_getElem? (i := 195) (by decide +kernel)) rfl
theorem ii_X2 : Cond.instanceMethod yX2_init ∈ GW := gw_of (List.mem_of_getElem? (i := 208) (by decide +kernel)) rfl
theorem ic_X2 : Cond.code yX2_init cX2_init 1 none ∈ GW := gw_of (List.mem_of_getElem? (i := 209) (by decide +kernel)) rfl
theorem ii_X3 : Cond.instanceMethod yX3_init ∈ GW := gw_of (List.mem_of_getElem? (i := 252) (by decide +kernel)) rfl
theorem ic_X3 : Cond.code yX3_init cX3_init 1 none ∈ GW := gw_of (List.mem_of_getElem? (i := 253) (by decide +kernel)) rfl
theorem ii_X4 : Cond.instanceMethod yX4_init ∈ GW := gw_of (List.mem_of_getElem? (i := 168) (by decide +kernel)) rfl
theorem ic_X4 : Cond.code yX4_init cX4_init 1 none ∈ GW := gw_of (List.mem_of_getElem? (i := 169) (by decide +kernel)) rfl
theorem ii_X5 : Cond.instanceMethod yX5_init ∈ GW := gw_of (List.mem_of_getElem? (i := 90) (by decide +kernel)) rfl
theorem ic_X5 : Cond.code yX5_init cX5_init 1 none ∈ GW := gw_of (List.mem_of_getElem? (i := 91) (by decide +kernel)) rfl
theorem ii_X6 : Cond.instanceMethod yX6_init ∈ GW := gw_of (List.mem_of_getElem? (i := 35) (by decide +kernel)) rfl
theorem ic_X6 : Cond.code yX6_init cX6_init 1 none ∈ GW := gw_of (List.mem_of_getElem? (i := 36) (by decide +kernel)) rfl
theorem ii_X7 : Cond.instanceMethod yX7_init ∈ GW := gw_of (List.mem_of_getElem? (i := 28) (by decide +kernel)) rfl
theorem ic_X7 : Cond.code yX7_init cX7_init 2 none ∈ GW := gw_of (List.mem_of_getElem? (i := 29) (by decide +kernel)) rfl
theorem ii_X8 : Cond.instanceMethod yX8_init ∈ GW := gw_of (List.mem_of_getElem? (i := 20) (by decide +kernel)) rfl
theorem ic_X8 : Cond.code yX8_init cX8_init 2 none ∈ GW := gw_of (List.mem_of_getElem? (i := 21) (by decide +kernel)) rfl
theorem ii_X9 : Cond.instanceMethod yX9_init ∈ GW := gw_of (List.mem_of_getElem? (i := 761) (by decide +kernel)) rfl
theorem ic_X9 : Cond.code yX9_init cX9_init 1 none ∈ GW := gw_of (List.mem_of_getElem? (i := 762) (by decide +kernel)) rfl
def wX0 (q : ClassId × ClassId × ClassId × ClassId) (h : Nat) (u : Nat → Nat) : va_W := [(h, .inr (0, [.int (-1), .int 0, .int 0, .int 0, .int 0, .int 0, .ref (u 0)])), (u 0, .inl (q.1, 32, .inl (fun _ => 0)))]
set_option maxHeartbeats 4000000 in
set_option maxRecDepth 100000 in
theorem mi_X0 (l : Launch) (D : va_G) (q : ClassId × ClassId × ClassId × ClassId) (tF : Nat) : CI l D q tF yX0_init cX0_init 1 { frames := 1, cells := 1, slots := 32, locals := 12 } 0 [.int 0, .int 0, .int 0, .int 0, .int 0, .int 0, .null] (wX0 q) 1 32 := by
  refine CI.start (by decide) (Nat.le_of_ble_eq_true rfl) (fun p e s m below meth c h A S V hr hlocks hin0 hA hw ls hl => ?_)
  have hx := S.1
  have hb := S.2.1
  have hin := hin0 rfl
  refine lv_aload_n hx hb dX0_init_0 rfl (lv_at hl 0 rfl) ?_
  refine y_obj S hl.1 ml_X0_3 wo_inst wo_code (Nat.le_of_ble_eq_true rfl) (Nat.le_of_ble_eq_true rfl) dX0_init_1 ?_
  refine lv_aload_n hx hb dX0_init_4 rfl (lv_at hl 0 rfl) ?_
  refine lv_iconst (v := (-1)) hx hb dX0_init_5 (by decide) ?_
  refine y_puti (fs' := [.int (-1), .int 0, .int 0, .int 0, .int 0, .int 0, .null]) S V hw (C := RX0) (T := TX0) (N := 7) rfl ug_X0 tyX0 tyX0_ok nmX0 0 (by decide) fl_X0_9 rfl (by decide +kernel) (Nat.le_of_ble_eq_true rfl) dX0_init_6 rfl (fun H locs hw => ?_)
  refine lv_aload_n hx hb dX0_init_9 rfl (lv_at hl 0 rfl) ?_
  refine lv_iconst (v := 0) hx hb dX0_init_10 (by decide) ?_
  refine y_puti (fs' := [.int (-1), .int 0, .int 0, .int 0, .int 0, .int 0, .null]) S V hw (C := RX0) (T := TX0) (N := 7) rfl ug_X0 tyX0 tyX0_ok nmX0 1 (by decide) fl_X0_15 rfl (by decide +kernel) (Nat.le_of_ble_eq_true rfl) dX0_init_11 rfl (fun H locs hw => ?_)
  refine lv_aload_n hx hb dX0_init_14 rfl (lv_at hl 0 rfl) ?_
  refine lv_iconst (v := 0) hx hb dX0_init_15 (by decide) ?_
  refine y_puti (fs' := [.int (-1), .int 0, .int 0, .int 0, .int 0, .int 0, .null]) S V hw (C := RX0) (T := TX0) (N := 7) rfl ug_X0 tyX0 tyX0_ok nmX0 2 (by decide) fl_X0_18 rfl (by decide +kernel) (Nat.le_of_ble_eq_true rfl) dX0_init_16 rfl (fun H locs hw => ?_)
  refine lv_aload_n hx hb dX0_init_19 rfl (lv_at hl 0 rfl) ?_
  refine lv_iconst (v := 0) hx hb dX0_init_20 (by decide) ?_
  refine y_puti (fs' := [.int (-1), .int 0, .int 0, .int 0, .int 0, .int 0, .null]) S V hw (C := RX0) (T := TX0) (N := 7) rfl ug_X0 tyX0 tyX0_ok nmX0 3 (by decide) fl_X0_21 rfl (by decide +kernel) (Nat.le_of_ble_eq_true rfl) dX0_init_21 rfl (fun H locs hw => ?_)
  refine lv_aload_n hx hb dX0_init_24 rfl (lv_at hl 0 rfl) ?_
  refine lv_iconst (v := 0) hx hb dX0_init_25 (by decide) ?_
  refine y_puti (fs' := [.int (-1), .int 0, .int 0, .int 0, .int 0, .int 0, .null]) S V hw (C := RX0) (T := TX0) (N := 7) rfl ug_X0 tyX0 tyX0_ok nmX0 4 (by decide) fl_X0_24 rfl (by decide +kernel) (Nat.le_of_ble_eq_true rfl) dX0_init_26 rfl (fun H locs hw => ?_)
  refine lv_aload_n hx hb dX0_init_29 rfl (lv_at hl 0 rfl) ?_
  refine lv_iconst (v := 0) hx hb dX0_init_30 (by decide) ?_
  refine y_puti (fs' := [.int (-1), .int 0, .int 0, .int 0, .int 0, .int 0, .null]) S V hw (C := RX0) (T := TX0) (N := 7) rfl ug_X0 tyX0 tyX0_ok nmX0 5 (by decide) fl_X0_27 rfl (by decide +kernel) (Nat.le_of_ble_eq_true rfl) dX0_init_31 rfl (fun H locs hw => ?_)
  refine lv_aload_n hx hb dX0_init_34 rfl (lv_at hl 0 rfl) ?_
  refine lv_bipush (v := 32) hx hb dX0_init_35 (by decide) ?_
  refine y_newa (N := 32) S V hA wa_int hw (by decide) (by decide) (Nat.le_of_ble_eq_true rfl) (Nat.le_of_ble_eq_true rfl) (Nat.le_of_ble_eq_true rfl) dX0_init_37 (fun b1 H hw => ?_)
  refine y_putF (fs' := [.int (-1), .int 0, .int 0, .int 0, .int 0, .int 0, .ref b1]) S V hin hw (C := RX0) (T := TX0) (N := 7) rfl ug_X0 tyX0 tyX0_ok nmX0 6 (by decide) fl_X0_30 rfl rfl (ty := .array .int) (by decide +kernel) rfl rfl (Nat.le_of_ble_eq_true rfl) dX0_init_39 rfl (fun H locs hw => ?_)
  exact y_ret (y := yX0_init) (w := wX0 q) S hr hlocks (fun i => List.getD [b1] i 0) hw (Nat.le_of_ble_eq_true rfl) (Nat.le_of_ble_eq_true rfl) dX0_init_42
def wX1 (q : ClassId × ClassId × ClassId × ClassId) (h : Nat) (u : Nat → Nat) : va_W := [(h, .inr (1, [.int (-1), .ref (u 0)])), (u 0, .inl (q.1, 28, .inl (fun _ => 0)))]
set_option maxHeartbeats 4000000 in
set_option maxRecDepth 100000 in
theorem mi_X1 (l : Launch) (D : va_G) (q : ClassId × ClassId × ClassId × ClassId) (tF : Nat) : CI l D q tF yX1_init cX1_init 1 { frames := 1, cells := 1, slots := 28, locals := 12 } 1 [.int 0, .null] (wX1 q) 1 28 := by
  refine CI.start (by decide) (Nat.le_of_ble_eq_true rfl) (fun p e s m below meth c h A S V hr hlocks hin0 hA hw ls hl => ?_)
  have hx := S.1
  have hb := S.2.1
  have hin := hin0 rfl
  refine lv_aload_n hx hb dX1_init_0 rfl (lv_at hl 0 rfl) ?_
  refine y_obj S hl.1 ml_X1_3 wo_inst wo_code (Nat.le_of_ble_eq_true rfl) (Nat.le_of_ble_eq_true rfl) dX1_init_1 ?_
  refine lv_aload_n hx hb dX1_init_4 rfl (lv_at hl 0 rfl) ?_
  refine lv_iconst (v := (-1)) hx hb dX1_init_5 (by decide) ?_
  refine y_puti (fs' := [.int (-1), .null]) S V hw (C := RX1) (T := TX1) (N := 2) rfl ug_X1 tyX1 tyX1_ok nmX1 0 (by decide) fl_X1_9 rfl (by decide +kernel) (Nat.le_of_ble_eq_true rfl) dX1_init_6 rfl (fun H locs hw => ?_)
  refine lv_aload_n hx hb dX1_init_9 rfl (lv_at hl 0 rfl) ?_
  refine lv_bipush (v := 28) hx hb dX1_init_10 (by decide) ?_
  refine y_newa (N := 28) S V hA wa_int hw (by decide) (by decide) (Nat.le_of_ble_eq_true rfl) (Nat.le_of_ble_eq_true rfl) (Nat.le_of_ble_eq_true rfl) dX1_init_12 (fun b1 H hw => ?_)
  refine y_putF (fs' := [.int (-1), .ref b1]) S V hin hw (C := RX1) (T := TX1) (N := 2) rfl ug_X1 tyX1 tyX1_ok nmX1 1 (by decide) fl_X1_15 rfl rfl (ty := .array .int) (by decide +kernel) rfl rfl (Nat.le_of_ble_eq_true rfl) dX1_init_14 rfl (fun H locs hw => ?_)
  exact y_ret (y := yX1_init) (w := wX1 q) S hr hlocks (fun i => List.getD [b1] i 0) hw (Nat.le_of_ble_eq_true rfl) (Nat.le_of_ble_eq_true rfl) dX1_init_17
def wX2 (q : ClassId × ClassId × ClassId × ClassId) (h : Nat) (u : Nat → Nat) : va_W := [(h, .inr (2, [.int 0, .int 0, .int (-1), .int (-1), .int (-1), .int 0, .int 0, .ref (u 0), .ref (u 1), .ref (u 2)])), (u 0, .inl (q.1, 25, .inl (fun _ => 0))), (u 1, .inl (q.1, 24, .inl (fun _ => 0))), (u 2, .inl (q.1, 10, .inl (fun _ => 0)))]
set_option maxHeartbeats 4000000 in
set_option maxRecDepth 100000 in
theorem mi_X2 (l : Launch) (D : va_G) (q : ClassId × ClassId × ClassId × ClassId) (tF : Nat) : CI l D q tF yX2_init cX2_init 1 { frames := 1, cells := 3, slots := 59, locals := 12 } 2 [.int 0, .int 0, .int 0, .int 0, .int 0, .int 0, .int 0, .null, .null, .null] (wX2 q) 3 59 := by
  refine CI.start (by decide) (Nat.le_of_ble_eq_true rfl) (fun p e s m below meth c h A S V hr hlocks hin0 hA hw ls hl => ?_)
  have hx := S.1
  have hb := S.2.1
  have hin := hin0 rfl
  refine lv_aload_n hx hb dX2_init_0 rfl (lv_at hl 0 rfl) ?_
  refine y_obj S hl.1 ml_X2_3 wo_inst wo_code (Nat.le_of_ble_eq_true rfl) (Nat.le_of_ble_eq_true rfl) dX2_init_1 ?_
  refine lv_aload_n hx hb dX2_init_4 rfl (lv_at hl 0 rfl) ?_
  refine lv_iconst (v := 0) hx hb dX2_init_5 (by decide) ?_
  refine y_puti (fs' := [.int 0, .int 0, .int 0, .int 0, .int 0, .int 0, .int 0, .null, .null, .null]) S V hw (C := RX2) (T := TX2) (N := 10) rfl ug_X2 tyX2 tyX2_ok nmX2 0 (by decide) fl_X2_9 rfl (by decide +kernel) (Nat.le_of_ble_eq_true rfl) dX2_init_6 rfl (fun H locs hw => ?_)
  refine lv_aload_n hx hb dX2_init_9 rfl (lv_at hl 0 rfl) ?_
  refine lv_iconst (v := 0) hx hb dX2_init_10 (by decide) ?_
  refine y_puti (fs' := [.int 0, .int 0, .int 0, .int 0, .int 0, .int 0, .int 0, .null, .null, .null]) S V hw (C := RX2) (T := TX2) (N := 10) rfl ug_X2 tyX2 tyX2_ok nmX2 1 (by decide) fl_X2_15 rfl (by decide +kernel) (Nat.le_of_ble_eq_true rfl) dX2_init_11 rfl (fun H locs hw => ?_)
  refine lv_aload_n hx hb dX2_init_14 rfl (lv_at hl 0 rfl) ?_
  refine lv_iconst (v := (-1)) hx hb dX2_init_15 (by decide) ?_
  refine y_puti (fs' := [.int 0, .int 0, .int (-1), .int 0, .int 0, .int 0, .int 0, .null, .null, .null]) S V hw (C := RX2) (T := TX2) (N := 10) rfl ug_X2 tyX2 tyX2_ok nmX2 2 (by decide) fl_X2_18 rfl (by decide +kernel) (Nat.le_of_ble_eq_true rfl) dX2_init_16 rfl (fun H locs hw => ?_)
  refine lv_aload_n hx hb dX2_init_19 rfl (lv_at hl 0 rfl) ?_
  refine lv_iconst (v := (-1)) hx hb dX2_init_20 (by decide) ?_
  refine y_puti (fs' := [.int 0, .int 0, .int (-1), .int (-1), .int 0, .int 0, .int 0, .null, .null, .null]) S V hw (C := RX2) (T := TX2) (N := 10) rfl ug_X2 tyX2 tyX2_ok nmX2 3 (by decide) fl_X2_21 rfl (by decide +kernel) (Nat.le_of_ble_eq_true rfl) dX2_init_21 rfl (fun H locs hw => ?_)
  refine lv_aload_n hx hb dX2_init_24 rfl (lv_at hl 0 rfl) ?_
  refine lv_iconst (v := (-1)) hx hb dX2_init_25 (by decide) ?_
  refine y_puti (fs' := [.int 0, .int 0, .int (-1), .int (-1), .int (-1), .int 0, .int 0, .null, .null, .null]) S V hw (C := RX2) (T := TX2) (N := 10) rfl ug_X2 tyX2 tyX2_ok nmX2 4 (by decide) fl_X2_24 rfl (by decide +kernel) (Nat.le_of_ble_eq_true rfl) dX2_init_26 rfl (fun H locs hw => ?_)
  refine lv_aload_n hx hb dX2_init_29 rfl (lv_at hl 0 rfl) ?_
  refine lv_iconst (v := 0) hx hb dX2_init_30 (by decide) ?_
  refine y_puti (fs' := [.int 0, .int 0, .int (-1), .int (-1), .int (-1), .int 0, .int 0, .null, .null, .null]) S V hw (C := RX2) (T := TX2) (N := 10) rfl ug_X2 tyX2 tyX2_ok nmX2 5 (by decide) fl_X2_27 rfl (by decide +kernel) (Nat.le_of_ble_eq_true rfl) dX2_init_31 rfl (fun H locs hw => ?_)
  refine lv_aload_n hx hb dX2_init_34 rfl (lv_at hl 0 rfl) ?_
  refine lv_iconst (v := 0) hx hb dX2_init_35 (by decide) ?_
  refine y_puti (fs' := [.int 0, .int 0, .int (-1), .int (-1), .int (-1), .int 0, .int 0, .null, .null, .null]) S V hw (C := RX2) (T := TX2) (N := 10) rfl ug_X2 tyX2 tyX2_ok nmX2 6 (by decide) fl_X2_30 rfl (by decide +kernel) (Nat.le_of_ble_eq_true rfl) dX2_init_36 rfl (fun H locs hw => ?_)
  refine lv_aload_n hx hb dX2_init_39 rfl (lv_at hl 0 rfl) ?_
  refine lv_bipush (v := 25) hx hb dX2_init_40 (by decide) ?_
  refine y_newa (N := 25) S V hA wa_int hw (by decide) (by decide) (Nat.le_of_ble_eq_true rfl) (Nat.le_of_ble_eq_true rfl) (Nat.le_of_ble_eq_true rfl) dX2_init_42 (fun b1 H hw => ?_)
  refine y_putF (fs' := [.int 0, .int 0, .int (-1), .int (-1), .int (-1), .int 0, .int 0, .ref b1, .null, .null]) S V hin hw (C := RX2) (T := TX2) (N := 10) rfl ug_X2 tyX2 tyX2_ok nmX2 7 (by decide) fl_X2_33 rfl rfl (ty := .array .int) (by decide +kernel) rfl rfl (Nat.le_of_ble_eq_true rfl) dX2_init_44 rfl (fun H locs hw => ?_)
  refine lv_aload_n hx hb dX2_init_47 rfl (lv_at hl 0 rfl) ?_
  refine lv_bipush (v := 24) hx hb dX2_init_48 (by decide) ?_
  refine y_newa (N := 24) S V hA wa_int hw (by decide) (by decide) (Nat.le_of_ble_eq_true rfl) (Nat.le_of_ble_eq_true rfl) (Nat.le_of_ble_eq_true rfl) dX2_init_50 (fun b2 H hw => ?_)
  refine y_putF (fs' := [.int 0, .int 0, .int (-1), .int (-1), .int (-1), .int 0, .int 0, .ref b1, .ref b2, .null]) S V hin hw (C := RX2) (T := TX2) (N := 10) rfl ug_X2 tyX2 tyX2_ok nmX2 8 (by decide) fl_X2_37 rfl rfl (ty := .array .int) (by decide +kernel) rfl rfl (Nat.le_of_ble_eq_true rfl) dX2_init_52 rfl (fun H locs hw => ?_)
  refine lv_aload_n hx hb dX2_init_55 rfl (lv_at hl 0 rfl) ?_
  refine lv_bipush (v := 10) hx hb dX2_init_56 (by decide) ?_
  refine y_newa (N := 10) S V hA wa_int hw (by decide) (by decide) (Nat.le_of_ble_eq_true rfl) (Nat.le_of_ble_eq_true rfl) (Nat.le_of_ble_eq_true rfl) dX2_init_58 (fun b3 H hw => ?_)
  refine y_putF (fs' := [.int 0, .int 0, .int (-1), .int (-1), .int (-1), .int 0, .int 0, .ref b1, .ref b2, .ref b3]) S V hin hw (C := RX2) (T := TX2) (N := 10) rfl ug_X2 tyX2 tyX2_ok nmX2 9 (by decide) fl_X2_40 rfl rfl (ty := .array .int) (by decide +kernel) rfl rfl (Nat.le_of_ble_eq_true rfl) dX2_init_60 rfl (fun H locs hw => ?_)
  exact y_ret (y := yX2_init) (w := wX2 q) S hr hlocks (fun i => List.getD [b1, b2, b3] i 0) hw (Nat.le_of_ble_eq_true rfl) (Nat.le_of_ble_eq_true rfl) dX2_init_63
def wX3 (q : ClassId × ClassId × ClassId × ClassId) (h : Nat) (u : Nat → Nat) : va_W := [(h, .inr (3, [.ref (u 0), .ref (u 1), .ref (u 2), .ref (u 3), .ref (u 4), .int 0])), (u 0, .inl (q.1, 36, .inl (fun _ => 0))), (u 1, .inl (q.1, 36, .inl (fun _ => 0))), (u 2, .inl (q.1, 36, .inl (fun _ => 0))), (u 3, .inl (q.1, 36, .inl (fun _ => 0))), (u 4, .inl (q.1, 36, .inl (fun _ => 0)))]
set_option maxHeartbeats 4000000 in
set_option maxRecDepth 100000 in
theorem mi_X3 (l : Launch) (D : va_G) (q : ClassId × ClassId × ClassId × ClassId) (tF : Nat) : CI l D q tF yX3_init cX3_init 1 { frames := 1, cells := 5, slots := 180, locals := 12 } 3 [.null, .null, .null, .null, .null, .int 0] (wX3 q) 5 180 := by
  refine CI.start (by decide) (Nat.le_of_ble_eq_true rfl) (fun p e s m below meth c h A S V hr hlocks hin0 hA hw ls hl => ?_)
  have hx := S.1
  have hb := S.2.1
  have hin := hin0 rfl
  refine lv_aload_n hx hb dX3_init_0 rfl (lv_at hl 0 rfl) ?_
  refine y_obj S hl.1 ml_X3_3 wo_inst wo_code (Nat.le_of_ble_eq_true rfl) (Nat.le_of_ble_eq_true rfl) dX3_init_1 ?_
  refine lv_aload_n hx hb dX3_init_4 rfl (lv_at hl 0 rfl) ?_
  refine lv_bipush (v := 36) hx hb dX3_init_5 (by decide) ?_
  refine y_newa (N := 36) S V hA wa_int hw (by decide) (by decide) (Nat.le_of_ble_eq_true rfl) (Nat.le_of_ble_eq_true rfl) (Nat.le_of_ble_eq_true rfl) dX3_init_7 (fun b1 H hw => ?_)
  refine y_putF (fs' := [.ref b1, .null, .null, .null, .null, .int 0]) S V hin hw (C := RX3) (T := TX3) (N := 6) rfl ug_X3 tyX3 tyX3_ok nmX3 0 (by decide) fl_X3_9 rfl rfl (ty := .array .int) (by decide +kernel) rfl rfl (Nat.le_of_ble_eq_true rfl) dX3_init_9 rfl (fun H locs hw => ?_)
  refine lv_aload_n hx hb dX3_init_12 rfl (lv_at hl 0 rfl) ?_
  refine lv_bipush (v := 36) hx hb dX3_init_13 (by decide) ?_
  refine y_newa (N := 36) S V hA wa_int hw (by decide) (by decide) (Nat.le_of_ble_eq_true rfl) (Nat.le_of_ble_eq_true rfl) (Nat.le_of_ble_eq_true rfl) dX3_init_15 (fun b2 H hw => ?_)
  refine y_putF (fs' := [.ref b1, .ref b2, .null, .null, .null, .int 0]) S V hin hw (C := RX3) (T := TX3) (N := 6) rfl ug_X3 tyX3 tyX3_ok nmX3 1 (by decide) fl_X3_15 rfl rfl (ty := .array .int) (by decide +kernel) rfl rfl (Nat.le_of_ble_eq_true rfl) dX3_init_17 rfl (fun H locs hw => ?_)
  refine lv_aload_n hx hb dX3_init_20 rfl (lv_at hl 0 rfl) ?_
  refine lv_bipush (v := 36) hx hb dX3_init_21 (by decide) ?_
  refine y_newa (N := 36) S V hA wa_int hw (by decide) (by decide) (Nat.le_of_ble_eq_true rfl) (Nat.le_of_ble_eq_true rfl) (Nat.le_of_ble_eq_true rfl) dX3_init_23 (fun b3 H hw => ?_)
  refine y_putF (fs' := [.ref b1, .ref b2, .ref b3, .null, .null, .int 0]) S V hin hw (C := RX3) (T := TX3) (N := 6) rfl ug_X3 tyX3 tyX3_ok nmX3 2 (by decide) fl_X3_18 rfl rfl (ty := .array .int) (by decide +kernel) rfl rfl (Nat.le_of_ble_eq_true rfl) dX3_init_25 rfl (fun H locs hw => ?_)
  refine lv_aload_n hx hb dX3_init_28 rfl (lv_at hl 0 rfl) ?_
  refine lv_bipush (v := 36) hx hb dX3_init_29 (by decide) ?_
  refine y_newa (N := 36) S V hA wa_int hw (by decide) (by decide) (Nat.le_of_ble_eq_true rfl) (Nat.le_of_ble_eq_true rfl) (Nat.le_of_ble_eq_true rfl) dX3_init_31 (fun b4 H hw => ?_)
  refine y_putF (fs' := [.ref b1, .ref b2, .ref b3, .ref b4, .null, .int 0]) S V hin hw (C := RX3) (T := TX3) (N := 6) rfl ug_X3 tyX3 tyX3_ok nmX3 3 (by decide) fl_X3_21 rfl rfl (ty := .array .int) (by decide +kernel) rfl rfl (Nat.le_of_ble_eq_true rfl) dX3_init_33 rfl (fun H locs hw => ?_)
  refine lv_aload_n hx hb dX3_init_36 rfl (lv_at hl 0 rfl) ?_
  refine lv_bipush (v := 36) hx hb dX3_init_37 (by decide) ?_
  refine y_newa (N := 36) S V hA wa_int hw (by decide) (by decide) (Nat.le_of_ble_eq_true rfl) (Nat.le_of_ble_eq_true rfl) (Nat.le_of_ble_eq_true rfl) dX3_init_39 (fun b5 H hw => ?_)
  refine y_putF (fs' := [.ref b1, .ref b2, .ref b3, .ref b4, .ref b5, .int 0]) S V hin hw (C := RX3) (T := TX3) (N := 6) rfl ug_X3 tyX3 tyX3_ok nmX3 4 (by decide) fl_X3_24 rfl rfl (ty := .array .int) (by decide +kernel) rfl rfl (Nat.le_of_ble_eq_true rfl) dX3_init_41 rfl (fun H locs hw => ?_)
  refine lv_aload_n hx hb dX3_init_44 rfl (lv_at hl 0 rfl) ?_
  refine lv_iconst (v := 0) hx hb dX3_init_45 (by decide) ?_
  refine y_puti (fs' := [.ref b1, .ref b2, .ref b3, .ref b4, .ref b5, .int 0]) S V hw (C := RX3) (T := TX3) (N := 6) rfl ug_X3 tyX3 tyX3_ok nmX3 5 (by decide) fl_X3_27 rfl (by decide +kernel) (Nat.le_of_ble_eq_true rfl) dX3_init_46 rfl (fun H locs hw => ?_)
  exact y_ret (y := yX3_init) (w := wX3 q) S hr hlocks (fun i => List.getD [b1, b2, b3, b4, b5] i 0) hw (Nat.le_of_ble_eq_true rfl) (Nat.le_of_ble_eq_true rfl) dX3_init_49
def wX6 (q : ClassId × ClassId × ClassId × ClassId) (h : Nat) (u : Nat → Nat) : va_W := [(h, .inr (6, [.int 0, .int 0, .int 0, .int (-1), .int 0, .ref (u 0), .ref (u 1)])), (u 0, .inl (q.1, 4, .inl (fun _ => 0))), (u 1, .inl (q.1, 4, .inl (fun _ => 0)))]
set_option maxHeartbeats 4000000 in
set_option maxRecDepth 100000 in
theorem mi_X6 (l : Launch) (D : va_G) (q : ClassId × ClassId × ClassId × ClassId) (tF : Nat) : CI l D q tF yX6_init cX6_init 1 { frames := 1, cells := 2, slots := 8, locals := 12 } 6 [.int 0, .int 0, .int 0, .int 0, .int 0, .null, .null] (wX6 q) 2 8 := by
  refine CI.start (by decide) (Nat.le_of_ble_eq_true rfl) (fun p e s m below meth c h A S V hr hlocks hin0 hA hw ls hl => ?_)
  have hx := S.1
  have hb := S.2.1
  have hin := hin0 rfl
  refine lv_aload_n hx hb dX6_init_0 rfl (lv_at hl 0 rfl) ?_
  refine y_obj S hl.1 ml_X6_3 wo_inst wo_code (Nat.le_of_ble_eq_true rfl) (Nat.le_of_ble_eq_true rfl) dX6_init_1 ?_
  refine lv_aload_n hx hb dX6_init_4 rfl (lv_at hl 0 rfl) ?_
  refine lv_iconst (v := 0) hx hb dX6_init_5 (by decide) ?_
  refine y_puti (fs' := [.int 0, .int 0, .int 0, .int 0, .int 0, .null, .null]) S V hw (C := RX6) (T := TX6) (N := 7) rfl ug_X6 tyX6 tyX6_ok nmX6 0 (by decide) fl_X6_9 rfl (by decide +kernel) (Nat.le_of_ble_eq_true rfl) dX6_init_6 rfl (fun H locs hw => ?_)
  refine lv_aload_n hx hb dX6_init_9 rfl (lv_at hl 0 rfl) ?_
  refine lv_iconst (v := 0) hx hb dX6_init_10 (by decide) ?_
  refine y_puti (fs' := [.int 0, .int 0, .int 0, .int 0, .int 0, .null, .null]) S V hw (C := RX6) (T := TX6) (N := 7) rfl ug_X6 tyX6 tyX6_ok nmX6 1 (by decide) fl_X6_15 rfl (by decide +kernel) (Nat.le_of_ble_eq_true rfl) dX6_init_11 rfl (fun H locs hw => ?_)
  refine lv_aload_n hx hb dX6_init_14 rfl (lv_at hl 0 rfl) ?_
  refine lv_iconst (v := 0) hx hb dX6_init_15 (by decide) ?_
  refine y_puti (fs' := [.int 0, .int 0, .int 0, .int 0, .int 0, .null, .null]) S V hw (C := RX6) (T := TX6) (N := 7) rfl ug_X6 tyX6 tyX6_ok nmX6 2 (by decide) fl_X6_18 rfl (by decide +kernel) (Nat.le_of_ble_eq_true rfl) dX6_init_16 rfl (fun H locs hw => ?_)
  refine lv_aload_n hx hb dX6_init_19 rfl (lv_at hl 0 rfl) ?_
  refine lv_iconst (v := (-1)) hx hb dX6_init_20 (by decide) ?_
  refine y_puti (fs' := [.int 0, .int 0, .int 0, .int (-1), .int 0, .null, .null]) S V hw (C := RX6) (T := TX6) (N := 7) rfl ug_X6 tyX6 tyX6_ok nmX6 3 (by decide) fl_X6_21 rfl (by decide +kernel) (Nat.le_of_ble_eq_true rfl) dX6_init_21 rfl (fun H locs hw => ?_)
  refine lv_aload_n hx hb dX6_init_24 rfl (lv_at hl 0 rfl) ?_
  refine lv_iconst (v := 0) hx hb dX6_init_25 (by decide) ?_
  refine y_puti (fs' := [.int 0, .int 0, .int 0, .int (-1), .int 0, .null, .null]) S V hw (C := RX6) (T := TX6) (N := 7) rfl ug_X6 tyX6 tyX6_ok nmX6 4 (by decide) fl_X6_24 rfl (by decide +kernel) (Nat.le_of_ble_eq_true rfl) dX6_init_26 rfl (fun H locs hw => ?_)
  refine lv_aload_n hx hb dX6_init_29 rfl (lv_at hl 0 rfl) ?_
  refine lv_iconst (v := 4) hx hb dX6_init_30 (by decide) ?_
  refine y_newa (N := 4) S V hA wa_int hw (by decide) (by decide) (Nat.le_of_ble_eq_true rfl) (Nat.le_of_ble_eq_true rfl) (Nat.le_of_ble_eq_true rfl) dX6_init_31 (fun b1 H hw => ?_)
  refine y_putF (fs' := [.int 0, .int 0, .int 0, .int (-1), .int 0, .ref b1, .null]) S V hin hw (C := RX6) (T := TX6) (N := 7) rfl ug_X6 tyX6 tyX6_ok nmX6 5 (by decide) fl_X6_27 rfl rfl (ty := .array .int) (by decide +kernel) rfl rfl (Nat.le_of_ble_eq_true rfl) dX6_init_33 rfl (fun H locs hw => ?_)
  refine lv_aload_n hx hb dX6_init_36 rfl (lv_at hl 0 rfl) ?_
  refine lv_iconst (v := 4) hx hb dX6_init_37 (by decide) ?_
  refine y_newa (N := 4) S V hA wa_int hw (by decide) (by decide) (Nat.le_of_ble_eq_true rfl) (Nat.le_of_ble_eq_true rfl) (Nat.le_of_ble_eq_true rfl) dX6_init_38 (fun b2 H hw => ?_)
  refine y_putF (fs' := [.int 0, .int 0, .int 0, .int (-1), .int 0, .ref b1, .ref b2]) S V hin hw (C := RX6) (T := TX6) (N := 7) rfl ug_X6 tyX6 tyX6_ok nmX6 6 (by decide) fl_X6_31 rfl rfl (ty := .array .int) (by decide +kernel) rfl rfl (Nat.le_of_ble_eq_true rfl) dX6_init_40 rfl (fun H locs hw => ?_)
  exact y_ret (y := yX6_init) (w := wX6 q) S hr hlocks (fun i => List.getD [b1, b2] i 0) hw (Nat.le_of_ble_eq_true rfl) (Nat.le_of_ble_eq_true rfl) dX6_init_43
def wX5 (q : ClassId × ClassId × ClassId × ClassId) (h : Nat) (u : Nat → Nat) : va_W := [(h, .inr (5, [.ref (u 0), .int 0, .int 0, .ref (u 1), .ref (u 2), .int 0, .ref (u 3), .ref (u 4), .int 0, .int 0, .int 0])), (u 0, .inl (q.1, 200, .inl (fun _ => 0))), (u 1, .inl (q.1, 8, .inl (fun _ => 0))), (u 2, .inl (q.1, 40, .inl (fun _ => 0))), (u 3, .inl (q.1, 8, .inl (fun _ => 0))), (u 4, .inl (q.1, 4, .inl (fun _ => 0)))]
set_option maxHeartbeats 4000000 in
set_option maxRecDepth 100000 in
theorem mi_X5 (l : Launch) (D : va_G) (q : ClassId × ClassId × ClassId × ClassId) (tF : Nat) : CI l D q tF yX5_init cX5_init 1 { frames := 1, cells := 5, slots := 260, locals := 12 } 5 [.null, .int 0, .int 0, .null, .null, .int 0, .null, .null, .int 0, .int 0, .int 0] (wX5 q) 5 260 := by
  refine CI.start (by decide) (Nat.le_of_ble_eq_true rfl) (fun p e s m below meth c h A S V hr hlocks hin0 hA hw ls hl => ?_)
  have hx := S.1
  have hb := S.2.1
  have hin := hin0 rfl
  refine lv_aload_n hx hb dX5_init_0 rfl (lv_at hl 0 rfl) ?_
  refine y_obj S hl.1 ml_X5_3 wo_inst wo_code (Nat.le_of_ble_eq_true rfl) (Nat.le_of_ble_eq_true rfl) dX5_init_1 ?_
  refine lv_aload_n hx hb dX5_init_4 rfl (lv_at hl 0 rfl) ?_
  refine lv_sipush (v := 200) hx hb dX5_init_5 (by decide) ?_
  refine y_newa (N := 200) S V hA wa_int hw (by decide) (by decide) (Nat.le_of_ble_eq_true rfl) (Nat.le_of_ble_eq_true rfl) (Nat.le_of_ble_eq_true rfl) dX5_init_8 (fun b1 H hw => ?_)
  refine y_putF (fs' := [.ref b1, .int 0, .int 0, .null, .null, .int 0, .null, .null, .int 0, .int 0, .int 0]) S V hin hw (C := RX5) (T := TX5) (N := 11) rfl ug_X5 tyX5 tyX5_ok nmX5 0 (by decide) fl_X5_9 rfl rfl (ty := .array .int) (by decide +kernel) rfl rfl (Nat.le_of_ble_eq_true rfl) dX5_init_10 rfl (fun H locs hw => ?_)
  refine lv_aload_n hx hb dX5_init_13 rfl (lv_at hl 0 rfl) ?_
  refine lv_iconst (v := 0) hx hb dX5_init_14 (by decide) ?_
  refine y_puti (fs' := [.ref b1, .int 0, .int 0, .null, .null, .int 0, .null, .null, .int 0, .int 0, .int 0]) S V hw (C := RX5) (T := TX5) (N := 11) rfl ug_X5 tyX5 tyX5_ok nmX5 1 (by decide) fl_X5_15 rfl (by decide +kernel) (Nat.le_of_ble_eq_true rfl) dX5_init_15 rfl (fun H locs hw => ?_)
  refine lv_aload_n hx hb dX5_init_18 rfl (lv_at hl 0 rfl) ?_
  refine lv_iconst (v := 0) hx hb dX5_init_19 (by decide) ?_
  refine y_puti (fs' := [.ref b1, .int 0, .int 0, .null, .null, .int 0, .null, .null, .int 0, .int 0, .int 0]) S V hw (C := RX5) (T := TX5) (N := 11) rfl ug_X5 tyX5 tyX5_ok nmX5 2 (by decide) fl_X5_19 rfl (by decide +kernel) (Nat.le_of_ble_eq_true rfl) dX5_init_20 rfl (fun H locs hw => ?_)
  refine lv_aload_n hx hb dX5_init_23 rfl (lv_at hl 0 rfl) ?_
  refine lv_bipush (v := 8) hx hb dX5_init_24 (by decide) ?_
  refine y_newa (N := 8) S V hA wa_int hw (by decide) (by decide) (Nat.le_of_ble_eq_true rfl) (Nat.le_of_ble_eq_true rfl) (Nat.le_of_ble_eq_true rfl) dX5_init_26 (fun b2 H hw => ?_)
  refine y_putF (fs' := [.ref b1, .int 0, .int 0, .ref b2, .null, .int 0, .null, .null, .int 0, .int 0, .int 0]) S V hin hw (C := RX5) (T := TX5) (N := 11) rfl ug_X5 tyX5 tyX5_ok nmX5 3 (by decide) fl_X5_22 rfl rfl (ty := .array .int) (by decide +kernel) rfl rfl (Nat.le_of_ble_eq_true rfl) dX5_init_28 rfl (fun H locs hw => ?_)
  refine lv_aload_n hx hb dX5_init_31 rfl (lv_at hl 0 rfl) ?_
  refine lv_bipush (v := 40) hx hb dX5_init_32 (by decide) ?_
  refine y_newa (N := 40) S V hA wa_int hw (by decide) (by decide) (Nat.le_of_ble_eq_true rfl) (Nat.le_of_ble_eq_true rfl) (Nat.le_of_ble_eq_true rfl) dX5_init_34 (fun b3 H hw => ?_)
  refine y_putF (fs' := [.ref b1, .int 0, .int 0, .ref b2, .ref b3, .int 0, .null, .null, .int 0, .int 0, .int 0]) S V hin hw (C := RX5) (T := TX5) (N := 11) rfl ug_X5 tyX5 tyX5_ok nmX5 4 (by decide) fl_X5_25 rfl rfl (ty := .array .int) (by decide +kernel) rfl rfl (Nat.le_of_ble_eq_true rfl) dX5_init_36 rfl (fun H locs hw => ?_)
  refine lv_aload_n hx hb dX5_init_39 rfl (lv_at hl 0 rfl) ?_
  refine lv_iconst (v := 0) hx hb dX5_init_40 (by decide) ?_
  refine y_puti (fs' := [.ref b1, .int 0, .int 0, .ref b2, .ref b3, .int 0, .null, .null, .int 0, .int 0, .int 0]) S V hw (C := RX5) (T := TX5) (N := 11) rfl ug_X5 tyX5 tyX5_ok nmX5 5 (by decide) fl_X5_28 rfl (by decide +kernel) (Nat.le_of_ble_eq_true rfl) dX5_init_41 rfl (fun H locs hw => ?_)
  refine lv_aload_n hx hb dX5_init_44 rfl (lv_at hl 0 rfl) ?_
  refine lv_bipush (v := 8) hx hb dX5_init_45 (by decide) ?_
  refine y_newa (N := 8) S V hA wa_int hw (by decide) (by decide) (Nat.le_of_ble_eq_true rfl) (Nat.le_of_ble_eq_true rfl) (Nat.le_of_ble_eq_true rfl) dX5_init_47 (fun b4 H hw => ?_)
  refine y_putF (fs' := [.ref b1, .int 0, .int 0, .ref b2, .ref b3, .int 0, .ref b4, .null, .int 0, .int 0, .int 0]) S V hin hw (C := RX5) (T := TX5) (N := 11) rfl ug_X5 tyX5 tyX5_ok nmX5 6 (by decide) fl_X5_31 rfl rfl (ty := .array .int) (by decide +kernel) rfl rfl (Nat.le_of_ble_eq_true rfl) dX5_init_49 rfl (fun H locs hw => ?_)
  refine lv_aload_n hx hb dX5_init_52 rfl (lv_at hl 0 rfl) ?_
  refine lv_iconst (v := 4) hx hb dX5_init_53 (by decide) ?_
  refine y_newa (N := 4) S V hA wa_int hw (by decide) (by decide) (Nat.le_of_ble_eq_true rfl) (Nat.le_of_ble_eq_true rfl) (Nat.le_of_ble_eq_true rfl) dX5_init_54 (fun b5 H hw => ?_)
  refine y_putF (fs' := [.ref b1, .int 0, .int 0, .ref b2, .ref b3, .int 0, .ref b4, .ref b5, .int 0, .int 0, .int 0]) S V hin hw (C := RX5) (T := TX5) (N := 11) rfl ug_X5 tyX5 tyX5_ok nmX5 7 (by decide) fl_X5_34 rfl rfl (ty := .array .int) (by decide +kernel) rfl rfl (Nat.le_of_ble_eq_true rfl) dX5_init_56 rfl (fun H locs hw => ?_)
  refine lv_aload_n hx hb dX5_init_59 rfl (lv_at hl 0 rfl) ?_
  refine lv_iconst (v := 0) hx hb dX5_init_60 (by decide) ?_
  refine y_puti (fs' := [.ref b1, .int 0, .int 0, .ref b2, .ref b3, .int 0, .ref b4, .ref b5, .int 0, .int 0, .int 0]) S V hw (C := RX5) (T := TX5) (N := 11) rfl ug_X5 tyX5 tyX5_ok nmX5 8 (by decide) fl_X5_37 rfl (by decide +kernel) (Nat.le_of_ble_eq_true rfl) dX5_init_61 rfl (fun H locs hw => ?_)
  refine lv_aload_n hx hb dX5_init_64 rfl (lv_at hl 0 rfl) ?_
  refine lv_iconst (v := 0) hx hb dX5_init_65 (by decide) ?_
  refine y_puti (fs' := [.ref b1, .int 0, .int 0, .ref b2, .ref b3, .int 0, .ref b4, .ref b5, .int 0, .int 0, .int 0]) S V hw (C := RX5) (T := TX5) (N := 11) rfl ug_X5 tyX5 tyX5_ok nmX5 9 (by decide) fl_X5_40 rfl (by decide +kernel) (Nat.le_of_ble_eq_true rfl) dX5_init_66 rfl (fun H locs hw => ?_)
  refine lv_aload_n hx hb dX5_init_69 rfl (lv_at hl 0 rfl) ?_
  refine lv_iconst (v := 0) hx hb dX5_init_70 (by decide) ?_
  refine y_puti (fs' := [.ref b1, .int 0, .int 0, .ref b2, .ref b3, .int 0, .ref b4, .ref b5, .int 0, .int 0, .int 0]) S V hw (C := RX5) (T := TX5) (N := 11) rfl ug_X5 tyX5 tyX5_ok nmX5 10 (by decide) fl_X5_43 rfl (by decide +kernel) (Nat.le_of_ble_eq_true rfl) dX5_init_71 rfl (fun H locs hw => ?_)
  exact y_ret (y := yX5_init) (w := wX5 q) S hr hlocks (fun i => List.getD [b1, b2, b3, b4, b5] i 0) hw (Nat.le_of_ble_eq_true rfl) (Nat.le_of_ble_eq_true rfl) dX5_init_74
def wX4 (q : ClassId × ClassId × ClassId × ClassId) (h : Nat) (u : Nat → Nat) : va_W := [(h, .inr (4, [.ref (u 0), .ref (u 1), .ref (u 3), .ref (u 5)])), (u 0, .inl (q.1, 10, .inl (fun _ => 0)))] ++ wX0 q (u 1) (fun i => u (2 + i)) ++ wX0 q (u 3) (fun i => u (4 + i)) ++ wX6 q (u 5) (fun i => u (6 + i))
set_option maxHeartbeats 4000000 in
set_option maxRecDepth 100000 in
theorem mi_X4 (l : Launch) (D : va_G) (q : ClassId × ClassId × ClassId × ClassId) (tF : Nat) : CI l D q tF yX4_init cX4_init 1 { frames := 2, cells := 8, slots := 103, locals := 32 } 4 [.null, .null, .null, .null] (wX4 q) 8 103 := by
  refine CI.start (by decide) (Nat.le_of_ble_eq_true rfl) (fun p e s m below meth c h A S V hr hlocks hin0 hA hw ls hl => ?_)
  have hx := S.1
  have hb := S.2.1
  have hin := hin0 rfl
  refine lv_aload_n hx hb dX4_init_0 rfl (lv_at hl 0 rfl) ?_
  refine y_obj S hl.1 ml_X4_3 wo_inst wo_code (Nat.le_of_ble_eq_true rfl) (Nat.le_of_ble_eq_true rfl) dX4_init_1 ?_
  refine lv_aload_n hx hb dX4_init_4 rfl (lv_at hl 0 rfl) ?_
  refine lv_bipush (v := 10) hx hb dX4_init_5 (by decide) ?_
  refine y_newa (N := 10) S V hA wa_int hw (by decide) (by decide) (Nat.le_of_ble_eq_true rfl) (Nat.le_of_ble_eq_true rfl) (Nat.le_of_ble_eq_true rfl) dX4_init_7 (fun b1 H hw => ?_)
  refine y_putF (fs' := [.ref b1, .null, .null, .null]) S V hin hw (C := RX4) (T := TX4) (N := 4) rfl ug_X4 tyX4 tyX4_ok nmX4 0 (by decide) fl_X4_9 rfl rfl (ty := .array .int) (by decide +kernel) rfl rfl (Nat.le_of_ble_eq_true rfl) dX4_init_9 rfl (fun H locs hw => ?_)
  refine lv_aload_n hx hb dX4_init_12 rfl (lv_at hl 0 rfl) ?_
  refine y_new (fs := [.int 0, .int 0, .int 0, .int 0, .int 0, .int 0, .null]) S V hA (C := RX0) (T := TX0) (N := 7) (ci := 0) rfl ug_X0 tyX0 tyX0_ok ck_X4_15 ci_X0 wi_X0 (fun j hj => by rcases (show j = 0 ∨ j = 1 ∨ j = 2 ∨ j = 3 ∨ j = 4 ∨ j = 5 ∨ j = 6 by omega) with rfl | rfl | rfl | rfl | rfl | rfl | rfl <;> rfl) (Nat.le_of_ble_eq_true rfl) (Nat.le_of_ble_eq_true rfl) dX4_init_13 dX4_init_16 hw (fun b2 H hw => ?_)
  refine y_callN (rest := [.ref b2, .ref h]) S V hA (mi_X0 l D q tF) (V.2.1 _ (List.mem_of_getElem? (i := 4) rfl)) ic_X0 wi_X0 ii_X0 (by decide +kernel) rfl ⟨(Nat.le_of_ble_eq_true rfl), (Nat.le_of_ble_eq_true rfl)⟩ ⟨rfl, rfl⟩ hl.1 (Nat.le_of_ble_eq_true rfl) dX4_init_17 ⟨(Nat.le_of_ble_eq_true rfl), (Nat.le_of_ble_eq_true rfl)⟩ hw (fun u2 H locs hw => ?_)
  refine y_putF (fs' := [.ref b1, .ref b2, .null, .null]) S V hin hw (C := RX4) (T := TX4) (N := 4) rfl ug_X4 tyX4 tyX4_ok nmX4 1 (by decide) fl_X4_18 rfl rfl (ty := .object "OnChin$Balance") (by decide +kernel) rfl rfl (Nat.le_of_ble_eq_true rfl) dX4_init_20 rfl (fun H locs hw => ?_)
  refine lv_aload_n hx hb dX4_init_23 rfl (lv_at hl 0 rfl) ?_
  refine y_new (fs := [.int 0, .int 0, .int 0, .int 0, .int 0, .int 0, .null]) S V hA (C := RX0) (T := TX0) (N := 7) (ci := 0) rfl ug_X0 tyX0 tyX0_ok ck_X4_15 ci_X0 wi_X0 (fun j hj => by rcases (show j = 0 ∨ j = 1 ∨ j = 2 ∨ j = 3 ∨ j = 4 ∨ j = 5 ∨ j = 6 by omega) with rfl | rfl | rfl | rfl | rfl | rfl | rfl <;> rfl) (Nat.le_of_ble_eq_true rfl) (Nat.le_of_ble_eq_true rfl) dX4_init_24 dX4_init_27 hw (fun b3 H hw => ?_)
  refine y_callN (rest := [.ref b3, .ref h]) S V hA (mi_X0 l D q tF) (V.2.1 _ (List.mem_of_getElem? (i := 4) rfl)) ic_X0 wi_X0 ii_X0 (by decide +kernel) rfl ⟨(Nat.le_of_ble_eq_true rfl), (Nat.le_of_ble_eq_true rfl)⟩ ⟨rfl, rfl⟩ hl.1 (Nat.le_of_ble_eq_true rfl) dX4_init_28 ⟨(Nat.le_of_ble_eq_true rfl), (Nat.le_of_ble_eq_true rfl)⟩ hw (fun u3 H locs hw => ?_)
  refine y_putF (fs' := [.ref b1, .ref b2, .ref b3, .null]) S V hin hw (C := RX4) (T := TX4) (N := 4) rfl ug_X4 tyX4 tyX4_ok nmX4 2 (by decide) fl_X4_22 rfl rfl (ty := .object "OnChin$Balance") (by decide +kernel) rfl rfl (Nat.le_of_ble_eq_true rfl) dX4_init_31 rfl (fun H locs hw => ?_)
  refine lv_aload_n hx hb dX4_init_34 rfl (lv_at hl 0 rfl) ?_
  refine y_new (fs := [.int 0, .int 0, .int 0, .int 0, .int 0, .null, .null]) S V hA (C := RX6) (T := TX6) (N := 7) (ci := 6) rfl ug_X6 tyX6 tyX6_ok ck_X4_25 ci_X6 wi_X6 (fun j hj => by rcases (show j = 0 ∨ j = 1 ∨ j = 2 ∨ j = 3 ∨ j = 4 ∨ j = 5 ∨ j = 6 by omega) with rfl | rfl | rfl | rfl | rfl | rfl | rfl <;> rfl) (Nat.le_of_ble_eq_true rfl) (Nat.le_of_ble_eq_true rfl) dX4_init_35 dX4_init_38 hw (fun b4 H hw => ?_)
  refine y_callN (rest := [.ref b4, .ref h]) S V hA (mi_X6 l D q tF) (V.2.1 _ (List.mem_of_getElem? (i := 5) rfl)) ic_X6 wi_X6 ii_X6 (by decide +kernel) rfl ⟨(Nat.le_of_ble_eq_true rfl), (Nat.le_of_ble_eq_true rfl)⟩ ⟨rfl, rfl⟩ hl.1 (Nat.le_of_ble_eq_true rfl) dX4_init_39 ⟨(Nat.le_of_ble_eq_true rfl), (Nat.le_of_ble_eq_true rfl)⟩ hw (fun u4 H locs hw => ?_)
  refine y_putF (fs' := [.ref b1, .ref b2, .ref b3, .ref b4]) S V hin hw (C := RX4) (T := TX4) (N := 4) rfl ug_X4 tyX4 tyX4_ok nmX4 3 (by decide) fl_X4_28 rfl rfl (ty := .object "OnChin$Thing") (by decide +kernel) rfl rfl (Nat.le_of_ble_eq_true rfl) dX4_init_42 rfl (fun H locs hw => ?_)
  exact y_ret (y := yX4_init) (w := wX4 q) S hr hlocks (fun i => List.getD [b1, b2, u2 0, b3, u3 0, b4, u4 0, u4 1] i 0) hw (Nat.le_of_ble_eq_true rfl) (Nat.le_of_ble_eq_true rfl) dX4_init_45
def nmS : Nat → Int32 := va_cpy (fun j => tFirst.getD j 0) (fun _ => 0) (0 : Int32).toNatClampNeg (0 : Int32).toNatClampNeg (10 : Int32).toNatClampNeg
def wX7 (q : ClassId × ClassId × ClassId × ClassId) (h : Nat) (u : Nat → Nat) : va_W := [(h, .inr (7, [.ref (u 0), .ref (u 1)])), (u 0, .inl (q.2.1, 4, .inr (.inr (.inr (.inr (va_up (va_up (va_up (va_up (fun _ => none) 0 (some (u 2))) 1 (some (u 5))) 2 (some (u 8))) 3 (some (u 11)))))))), (u 1, .inl (q.1, 10, .inl nmS))] ++ wX6 q (u 2) (fun i => u (3 + i)) ++ wX6 q (u 5) (fun i => u (6 + i)) ++ wX6 q (u 8) (fun i => u (9 + i)) ++ wX6 q (u 11) (fun i => u (12 + i))
set_option maxHeartbeats 4000000 in
set_option maxRecDepth 100000 in
theorem mi_X7 (l : Launch) (D : va_G) (q : ClassId × ClassId × ClassId × ClassId) (tF : Nat) : CI l D q tF yX7_init cX7_init 2 { frames := 2, cells := 14, slots := 74, locals := 32 } 7 [.null, .null] (wX7 q) 14 74 := by
  refine CI.start (by decide) (Nat.le_of_ble_eq_true rfl) (fun p e s m below meth c h A S V hr hlocks hin0 hA hw ls hl => ?_)
  have hx := S.1
  have hb := S.2.1
  have hin := hin0 rfl
  refine lv_aload_n hx hb dX7_init_0 rfl (lv_at hl 0 rfl) ?_
  refine y_obj S hl.1 ml_X7_3 wo_inst wo_code (Nat.le_of_ble_eq_true rfl) (Nat.le_of_ble_eq_true rfl) dX7_init_1 ?_
  refine lv_aload_n hx hb dX7_init_4 rfl (lv_at hl 0 rfl) ?_
  refine lv_iconst (v := 4) hx hb dX7_init_5 (by decide) ?_
  refine y_newq (N := 4) S V hA 1 rfl ck_X7_9 V.2.2.2.1.1 hw (by decide) (by decide) (Nat.le_of_ble_eq_true rfl) (Nat.le_of_ble_eq_true rfl) (Nat.le_of_ble_eq_true rfl) dX7_init_6 (fun b1 H hw => ?_)
  refine y_putF (fs' := [.ref b1, .null]) S V hin hw (C := RX7) (T := TX7) (N := 2) rfl ug_X7 tyX7 tyX7_ok nmX7 0 (by decide) fl_X7_11 rfl rfl (ty := .array (.object "OnChin$Thing")) (by decide +kernel) rfl rfl (Nat.le_of_ble_eq_true rfl) dX7_init_9 rfl (fun H locs hw => ?_)
  refine lv_aload_n hx hb dX7_init_12 rfl (lv_at hl 0 rfl) ?_
  refine lv_bipush (v := 10) hx hb dX7_init_13 (by decide) ?_
  refine y_newa (N := 10) S V hA wa_int hw (by decide) (by decide) (Nat.le_of_ble_eq_true rfl) (Nat.le_of_ble_eq_true rfl) (Nat.le_of_ble_eq_true rfl) dX7_init_15 (fun b2 H hw => ?_)
  refine y_putF (fs' := [.ref b1, .ref b2]) S V hin hw (C := RX7) (T := TX7) (N := 2) rfl ug_X7 tyX7 tyX7_ok nmX7 1 (by decide) fl_X7_17 rfl rfl (ty := .array .int) (by decide +kernel) rfl rfl (Nat.le_of_ble_eq_true rfl) dX7_init_17 rfl (fun H locs hw => ?_)
  refine lv_iconst (v := 0) hx hb dX7_init_20 (by decide) ?_
  refine lv_istore_n (lv' := [(1, .int 0), (0, .ref h)]) hx hb dX7_init_21 rfl hl (by decide) rfl (fun ls hl => ?_)
  refine lv_iload_n hx hb dX7_init_22 rfl (lv_at hl 0 rfl) ?_
  refine lv_iconst (v := 4) hx hb dX7_init_23 (by decide) ?_
  refine lv_icmp_ge (tgt := 46) hx hb dX7_init_24 (by decide) (fun hc => absurd hc (by decide)) (fun _ => ?_)
  refine lv_aload_n hx hb dX7_init_27 rfl (lv_at hl 1 rfl) ?_
  refine y_get S V hw (C := RX7) (T := TX7) (N := 2) rfl ug_X7 0 (by decide) fl_X7_11 rfl dX7_init_28 ?_
  refine lv_iload_n hx hb dX7_init_31 rfl (lv_at hl 0 rfl) ?_
  refine y_new (fs := [.int 0, .int 0, .int 0, .int 0, .int 0, .null, .null]) S V hA (C := RX6) (T := TX6) (N := 7) (ci := 6) rfl ug_X6 tyX6 tyX6_ok ck_X7_9 ci_X6 wi_X6 (fun j hj => by rcases (show j = 0 ∨ j = 1 ∨ j = 2 ∨ j = 3 ∨ j = 4 ∨ j = 5 ∨ j = 6 by omega) with rfl | rfl | rfl | rfl | rfl | rfl | rfl <;> rfl) (Nat.le_of_ble_eq_true rfl) (Nat.le_of_ble_eq_true rfl) dX7_init_32 dX7_init_35 hw (fun b3 H hw => ?_)
  refine y_callN (rest := [.ref b3, .int 0, .ref b1]) S V hA (mi_X6 l D q tF) (V.2.1 _ (List.mem_of_getElem? (i := 0) rfl)) ic_X6 wi_X6 ii_X6 (by decide +kernel) rfl ⟨(Nat.le_of_ble_eq_true rfl), (Nat.le_of_ble_eq_true rfl)⟩ ⟨rfl, rfl⟩ hl.1 (Nat.le_of_ble_eq_true rfl) dX7_init_36 ⟨(Nat.le_of_ble_eq_true rfl), (Nat.le_of_ble_eq_true rfl)⟩ hw (fun u3 H locs hw => ?_)
  refine va_astq hx hb V.1 hw.1 hw.2.1 hw.2.2 1 1 3 6 rfl rfl (r := (RX6, TX6, 7)) rfl rfl (i := 0) (vp_in_nI (n := 0) (Nat.le_of_ble_eq_true rfl) (Nat.le_of_ble_eq_true rfl)) dX7_init_39 (fun H locs hP hD hS => ?_)
  have hw : wn D A s H locs ([(h, .inr (7, [.ref b1, .ref b2])), (b1, .inl (q.2.1, 4, .inr (.inr (.inr (.inr (va_up (fun _ => none) 0 (some b3))))))), (b2, .inl (q.1, 10, .inl (fun _ => 0)))] ++ wX6 q b3 u3) := ⟨hP, hD, hS⟩
  refine lv_iinc (v := 1) (lv' := [(1, .int 1), (0, .ref h)]) hx hb dX7_init_40 hl (k := 0) rfl (by decide) (by decide) rfl (fun ls hl => ?_)
  refine lv_goto (tgt := 22) hx hb dX7_init_43 (by decide) ?_
  refine lv_iload_n hx hb dX7_init_22 rfl (lv_at hl 0 rfl) ?_
  refine lv_iconst (v := 4) hx hb dX7_init_23 (by decide) ?_
  refine lv_icmp_ge (tgt := 46) hx hb dX7_init_24 (by decide) (fun hc => absurd hc (by decide)) (fun _ => ?_)
  refine lv_aload_n hx hb dX7_init_27 rfl (lv_at hl 1 rfl) ?_
  refine y_get S V hw (C := RX7) (T := TX7) (N := 2) rfl ug_X7 0 (by decide) fl_X7_11 rfl dX7_init_28 ?_
  refine lv_iload_n hx hb dX7_init_31 rfl (lv_at hl 0 rfl) ?_
  refine y_new (fs := [.int 0, .int 0, .int 0, .int 0, .int 0, .null, .null]) S V hA (C := RX6) (T := TX6) (N := 7) (ci := 6) rfl ug_X6 tyX6 tyX6_ok ck_X7_9 ci_X6 wi_X6 (fun j hj => by rcases (show j = 0 ∨ j = 1 ∨ j = 2 ∨ j = 3 ∨ j = 4 ∨ j = 5 ∨ j = 6 by omega) with rfl | rfl | rfl | rfl | rfl | rfl | rfl <;> rfl) (Nat.le_of_ble_eq_true rfl) (Nat.le_of_ble_eq_true rfl) dX7_init_32 dX7_init_35 hw (fun b4 H hw => ?_)
  refine y_callN (rest := [.ref b4, .int 1, .ref b1]) S V hA (mi_X6 l D q tF) (V.2.1 _ (List.mem_of_getElem? (i := 0) rfl)) ic_X6 wi_X6 ii_X6 (by decide +kernel) rfl ⟨(Nat.le_of_ble_eq_true rfl), (Nat.le_of_ble_eq_true rfl)⟩ ⟨rfl, rfl⟩ hl.1 (Nat.le_of_ble_eq_true rfl) dX7_init_36 ⟨(Nat.le_of_ble_eq_true rfl), (Nat.le_of_ble_eq_true rfl)⟩ hw (fun u4 H locs hw => ?_)
  refine va_astq hx hb V.1 hw.1 hw.2.1 hw.2.2 1 1 6 6 rfl rfl (r := (RX6, TX6, 7)) rfl rfl (i := 1) (vp_in_nI (n := 1) (Nat.le_of_ble_eq_true rfl) (Nat.le_of_ble_eq_true rfl)) dX7_init_39 (fun H locs hP hD hS => ?_)
  have hw : wn D A s H locs ([(h, .inr (7, [.ref b1, .ref b2])), (b1, .inl (q.2.1, 4, .inr (.inr (.inr (.inr (va_up (va_up (fun _ => none) 0 (some b3)) 1 (some b4))))))), (b2, .inl (q.1, 10, .inl (fun _ => 0)))] ++ wX6 q b3 u3 ++ wX6 q b4 u4) := ⟨hP, hD, hS⟩
  refine lv_iinc (v := 2) (lv' := [(1, .int 2), (0, .ref h)]) hx hb dX7_init_40 hl (k := 0) rfl (by decide) (by decide) rfl (fun ls hl => ?_)
  refine lv_goto (tgt := 22) hx hb dX7_init_43 (by decide) ?_
  refine lv_iload_n hx hb dX7_init_22 rfl (lv_at hl 0 rfl) ?_
  refine lv_iconst (v := 4) hx hb dX7_init_23 (by decide) ?_
  refine lv_icmp_ge (tgt := 46) hx hb dX7_init_24 (by decide) (fun hc => absurd hc (by decide)) (fun _ => ?_)
  refine lv_aload_n hx hb dX7_init_27 rfl (lv_at hl 1 rfl) ?_
  refine y_get S V hw (C := RX7) (T := TX7) (N := 2) rfl ug_X7 0 (by decide) fl_X7_11 rfl dX7_init_28 ?_
  refine lv_iload_n hx hb dX7_init_31 rfl (lv_at hl 0 rfl) ?_
  refine y_new (fs := [.int 0, .int 0, .int 0, .int 0, .int 0, .null, .null]) S V hA (C := RX6) (T := TX6) (N := 7) (ci := 6) rfl ug_X6 tyX6 tyX6_ok ck_X7_9 ci_X6 wi_X6 (fun j hj => by rcases (show j = 0 ∨ j = 1 ∨ j = 2 ∨ j = 3 ∨ j = 4 ∨ j = 5 ∨ j = 6 by omega) with rfl | rfl | rfl | rfl | rfl | rfl | rfl <;> rfl) (Nat.le_of_ble_eq_true rfl) (Nat.le_of_ble_eq_true rfl) dX7_init_32 dX7_init_35 hw (fun b5 H hw => ?_)
  refine y_callN (rest := [.ref b5, .int 2, .ref b1]) S V hA (mi_X6 l D q tF) (V.2.1 _ (List.mem_of_getElem? (i := 0) rfl)) ic_X6 wi_X6 ii_X6 (by decide +kernel) rfl ⟨(Nat.le_of_ble_eq_true rfl), (Nat.le_of_ble_eq_true rfl)⟩ ⟨rfl, rfl⟩ hl.1 (Nat.le_of_ble_eq_true rfl) dX7_init_36 ⟨(Nat.le_of_ble_eq_true rfl), (Nat.le_of_ble_eq_true rfl)⟩ hw (fun u5 H locs hw => ?_)
  refine va_astq hx hb V.1 hw.1 hw.2.1 hw.2.2 1 1 9 6 rfl rfl (r := (RX6, TX6, 7)) rfl rfl (i := 2) (vp_in_nI (n := 2) (Nat.le_of_ble_eq_true rfl) (Nat.le_of_ble_eq_true rfl)) dX7_init_39 (fun H locs hP hD hS => ?_)
  have hw : wn D A s H locs ([(h, .inr (7, [.ref b1, .ref b2])), (b1, .inl (q.2.1, 4, .inr (.inr (.inr (.inr (va_up (va_up (va_up (fun _ => none) 0 (some b3)) 1 (some b4)) 2 (some b5))))))), (b2, .inl (q.1, 10, .inl (fun _ => 0)))] ++ wX6 q b3 u3 ++ wX6 q b4 u4 ++ wX6 q b5 u5) := ⟨hP, hD, hS⟩
  refine lv_iinc (v := 3) (lv' := [(1, .int 3), (0, .ref h)]) hx hb dX7_init_40 hl (k := 0) rfl (by decide) (by decide) rfl (fun ls hl => ?_)
  refine lv_goto (tgt := 22) hx hb dX7_init_43 (by decide) ?_
  refine lv_iload_n hx hb dX7_init_22 rfl (lv_at hl 0 rfl) ?_
  refine lv_iconst (v := 4) hx hb dX7_init_23 (by decide) ?_
  refine lv_icmp_ge (tgt := 46) hx hb dX7_init_24 (by decide) (fun hc => absurd hc (by decide)) (fun _ => ?_)
  refine lv_aload_n hx hb dX7_init_27 rfl (lv_at hl 1 rfl) ?_
  refine y_get S V hw (C := RX7) (T := TX7) (N := 2) rfl ug_X7 0 (by decide) fl_X7_11 rfl dX7_init_28 ?_
  refine lv_iload_n hx hb dX7_init_31 rfl (lv_at hl 0 rfl) ?_
  refine y_new (fs := [.int 0, .int 0, .int 0, .int 0, .int 0, .null, .null]) S V hA (C := RX6) (T := TX6) (N := 7) (ci := 6) rfl ug_X6 tyX6 tyX6_ok ck_X7_9 ci_X6 wi_X6 (fun j hj => by rcases (show j = 0 ∨ j = 1 ∨ j = 2 ∨ j = 3 ∨ j = 4 ∨ j = 5 ∨ j = 6 by omega) with rfl | rfl | rfl | rfl | rfl | rfl | rfl <;> rfl) (Nat.le_of_ble_eq_true rfl) (Nat.le_of_ble_eq_true rfl) dX7_init_32 dX7_init_35 hw (fun b6 H hw => ?_)
  refine y_callN (rest := [.ref b6, .int 3, .ref b1]) S V hA (mi_X6 l D q tF) (V.2.1 _ (List.mem_of_getElem? (i := 0) rfl)) ic_X6 wi_X6 ii_X6 (by decide +kernel) rfl ⟨(Nat.le_of_ble_eq_true rfl), (Nat.le_of_ble_eq_true rfl)⟩ ⟨rfl, rfl⟩ hl.1 (Nat.le_of_ble_eq_true rfl) dX7_init_36 ⟨(Nat.le_of_ble_eq_true rfl), (Nat.le_of_ble_eq_true rfl)⟩ hw (fun u6 H locs hw => ?_)
  refine va_astq hx hb V.1 hw.1 hw.2.1 hw.2.2 1 1 12 6 rfl rfl (r := (RX6, TX6, 7)) rfl rfl (i := 3) (vp_in_nI (n := 3) (Nat.le_of_ble_eq_true rfl) (Nat.le_of_ble_eq_true rfl)) dX7_init_39 (fun H locs hP hD hS => ?_)
  have hw : wn D A s H locs ([(h, .inr (7, [.ref b1, .ref b2])), (b1, .inl (q.2.1, 4, .inr (.inr (.inr (.inr (va_up (va_up (va_up (va_up (fun _ => none) 0 (some b3)) 1 (some b4)) 2 (some b5)) 3 (some b6))))))), (b2, .inl (q.1, 10, .inl (fun _ => 0)))] ++ wX6 q b3 u3 ++ wX6 q b4 u4 ++ wX6 q b5 u5 ++ wX6 q b6 u6) := ⟨hP, hD, hS⟩
  refine lv_iinc (v := 4) (lv' := [(1, .int 4), (0, .ref h)]) hx hb dX7_init_40 hl (k := 0) rfl (by decide) (by decide) rfl (fun ls hl => ?_)
  refine lv_goto (tgt := 22) hx hb dX7_init_43 (by decide) ?_
  refine lv_iload_n hx hb dX7_init_22 rfl (lv_at hl 0 rfl) ?_
  refine lv_iconst (v := 4) hx hb dX7_init_23 (by decide) ?_
  refine lv_icmp_ge (tgt := 46) hx hb dX7_init_24 (by decide) (fun _ => ?_) (fun hc => absurd (by decide) hc)
  refine va_getsN hx hb V.2.2.2.2.1 hw.2.2 S.2.2.2.1 (va_Nw.use rfl (V.2.2.1 _ (List.mem_of_getElem? (i := 0) rfl))) (fun _ h => h) dX7_init_46 ?_
  refine lv_iconst (v := 0) hx hb dX7_init_49 (by decide) ?_
  refine lv_aload_n hx hb dX7_init_50 rfl (lv_at hl 1 rfl) ?_
  refine y_get S V hw (C := RX7) (T := TX7) (N := 2) rfl ug_X7 1 (by decide) fl_X7_17 rfl dX7_init_51 ?_
  refine lv_iconst (v := 0) hx hb dX7_init_54 (by decide) ?_
  refine lv_bipush (v := 10) hx hb dX7_init_55 (by decide) ?_
  refine va_copyx hx hb (by rw [S.2.2.1]; exact hl.1.symm) S.2.2.2.1 (gw_S S _ ml_X7_25) (gw_S S _ wn_arraycopy) (gw_S S _ ws_arraycopy) (gw_S S _ wi_J10) V.1 hw.1 hw.2.1 hw.2.2 V.2.2.2.2.2.1 V.2.2.2.2.2.2.1 V.2.2.2.2.2.2.2 2 0 rfl rfl (by decide) (by decide) (by decide) (Nat.le_of_ble_eq_true rfl) (Nat.le_of_ble_eq_true rfl) (Nat.le_of_ble_eq_true rfl) (Nat.le_of_ble_eq_true rfl) dX7_init_57 (fun H locs hP hD hS => ?_)
  have hw : wn D A s H locs ([(h, .inr (7, [.ref b1, .ref b2])), (b1, .inl (q.2.1, 4, .inr (.inr (.inr (.inr (va_up (va_up (va_up (va_up (fun _ => none) 0 (some b3)) 1 (some b4)) 2 (some b5)) 3 (some b6))))))), (b2, .inl (q.1, 10, .inl nmS))] ++ wX6 q b3 u3 ++ wX6 q b4 u4 ++ wX6 q b5 u5 ++ wX6 q b6 u6) := ⟨hP, hD, hS⟩
  exact y_ret (y := yX7_init) (w := wX7 q) S hr hlocks (fun i => List.getD [b1, b2, b3, u3 0, u3 1, b4, u4 0, u4 1, b5, u5 0, u5 1, b6, u6 0, u6 1] i 0) hw (Nat.le_of_ble_eq_true rfl) (Nat.le_of_ble_eq_true rfl) dX7_init_60
def wX8 (q : ClassId × ClassId × ClassId × ClassId) (h : Nat) (u : Nat → Nat) : va_W := [(h, .inr (8, [.ref (u 0), .ref (u 15), .ref (u 21), .ref (u 23), .ref (u 28), .ref (u 37), .ref (u 39), .ref (u 43)]))] ++ wX7 q (u 0) (fun i => u (1 + i)) ++ wX5 q (u 15) (fun i => u (16 + i)) ++ wX0 q (u 21) (fun i => u (22 + i)) ++ [(u 23, .inl (q.2.2.1, 2, .inr (.inr (.inr (.inr (va_up (va_up (fun _ => none) 0 (some (u 24))) 1 (some (u 26))))))))] ++ wX0 q (u 24) (fun i => u (25 + i)) ++ wX0 q (u 26) (fun i => u (27 + i)) ++ wX4 q (u 28) (fun i => u (29 + i)) ++ wX1 q (u 37) (fun i => u (38 + i)) ++ wX2 q (u 39) (fun i => u (40 + i)) ++ wX3 q (u 43) (fun i => u (44 + i))
set_option maxHeartbeats 4000000 in
set_option maxRecDepth 100000 in
theorem mi_X8 (l : Launch) (D : va_G) (q : ClassId × ClassId × ClassId × ClassId) (tF : Nat) : CI l D q tF yX8_init cX8_init 2 { frames := 3, cells := 49, slots := 858, locals := 53 } 8 [.null, .null, .null, .null, .null, .null, .null, .null] (wX8 q) 49 858 := by
  refine CI.start (by decide) (Nat.le_of_ble_eq_true rfl) (fun p e s m below meth c h A S V hr hlocks hin0 hA hw ls hl => ?_)
  have hx := S.1
  have hb := S.2.1
  have hin := hin0 rfl
  refine lv_aload_n hx hb dX8_init_0 rfl (lv_at hl 0 rfl) ?_
  refine y_obj S hl.1 ml_X8_3 wo_inst wo_code (Nat.le_of_ble_eq_true rfl) (Nat.le_of_ble_eq_true rfl) dX8_init_1 ?_
  refine lv_aload_n hx hb dX8_init_4 rfl (lv_at hl 0 rfl) ?_
  refine y_new (fs := [.null, .null]) S V hA (C := RX7) (T := TX7) (N := 2) (ci := 7) rfl ug_X7 tyX7 tyX7_ok ck_X8_9 ci_X7 wi_X7 (fun j hj => by rcases (show j = 0 ∨ j = 1 by omega) with rfl | rfl <;> rfl) (Nat.le_of_ble_eq_true rfl) (Nat.le_of_ble_eq_true rfl) dX8_init_5 dX8_init_8 hw (fun b1 H hw => ?_)
  refine y_callI (rest := [.ref b1, .ref h]) S V hA (mi_X7 l D q tF) ml_X8_11 ic_X7 wi_X7 ii_X7 (by decide +kernel) rfl ⟨(Nat.le_of_ble_eq_true rfl), (Nat.le_of_ble_eq_true rfl)⟩ ⟨rfl, rfl⟩ hl.1 (Nat.le_of_ble_eq_true rfl) dX8_init_9 ⟨(Nat.le_of_ble_eq_true rfl), (Nat.le_of_ble_eq_true rfl)⟩ hw (fun u1 H locs hw => ?_)
  refine y_putF (fs' := [.ref b1, .null, .null, .null, .null, .null, .null, .null]) S V hin hw (C := RX8) (T := TX8) (N := 8) rfl ug_X8 tyX8 tyX8_ok nmX8 0 (by decide) fl_X8_12 rfl rfl (ty := .object "OnChin$Told") (by decide +kernel) rfl rfl (Nat.le_of_ble_eq_true rfl) dX8_init_12 rfl (fun H locs hw => ?_)
  refine lv_aload_n hx hb dX8_init_15 rfl (lv_at hl 0 rfl) ?_
  refine y_new (fs := [.null, .int 0, .int 0, .null, .null, .int 0, .null, .null, .int 0, .int 0, .int 0]) S V hA (C := RX5) (T := TX5) (N := 11) (ci := 5) rfl ug_X5 tyX5 tyX5_ok ck_X8_16 ci_X5 wi_X5 (fun j hj => by rcases (show j = 0 ∨ j = 1 ∨ j = 2 ∨ j = 3 ∨ j = 4 ∨ j = 5 ∨ j = 6 ∨ j = 7 ∨ j = 8 ∨ j = 9 ∨ j = 10 by omega) with rfl | rfl | rfl | rfl | rfl | rfl | rfl | rfl | rfl | rfl | rfl <;> rfl) (Nat.le_of_ble_eq_true rfl) (Nat.le_of_ble_eq_true rfl) dX8_init_16 dX8_init_19 hw (fun b2 H hw => ?_)
  refine y_callN (rest := [.ref b2, .ref h]) S V hA (mi_X5 l D q tF) (V.2.1 _ (List.mem_of_getElem? (i := 1) rfl)) ic_X5 wi_X5 ii_X5 (by decide +kernel) rfl ⟨(Nat.le_of_ble_eq_true rfl), (Nat.le_of_ble_eq_true rfl)⟩ ⟨rfl, rfl⟩ hl.1 (Nat.le_of_ble_eq_true rfl) dX8_init_20 ⟨(Nat.le_of_ble_eq_true rfl), (Nat.le_of_ble_eq_true rfl)⟩ hw (fun u2 H locs hw => ?_)
  refine y_putF (fs' := [.ref b1, .ref b2, .null, .null, .null, .null, .null, .null]) S V hin hw (C := RX8) (T := TX8) (N := 8) rfl ug_X8 tyX8 tyX8_ok nmX8 1 (by decide) fl_X8_19 rfl rfl (ty := .object "OnChin$Text") (by decide +kernel) rfl rfl (Nat.le_of_ble_eq_true rfl) dX8_init_23 rfl (fun H locs hw => ?_)
  refine lv_aload_n hx hb dX8_init_26 rfl (lv_at hl 0 rfl) ?_
  refine y_new (fs := [.int 0, .int 0, .int 0, .int 0, .int 0, .int 0, .null]) S V hA (C := RX0) (T := TX0) (N := 7) (ci := 0) rfl ug_X0 tyX0 tyX0_ok ck_X8_23 ci_X0 wi_X0 (fun j hj => by rcases (show j = 0 ∨ j = 1 ∨ j = 2 ∨ j = 3 ∨ j = 4 ∨ j = 5 ∨ j = 6 by omega) with rfl | rfl | rfl | rfl | rfl | rfl | rfl <;> rfl) (Nat.le_of_ble_eq_true rfl) (Nat.le_of_ble_eq_true rfl) dX8_init_27 dX8_init_30 hw (fun b3 H hw => ?_)
  refine y_callN (rest := [.ref b3, .ref h]) S V hA (mi_X0 l D q tF) (V.2.1 _ (List.mem_of_getElem? (i := 2) rfl)) ic_X0 wi_X0 ii_X0 (by decide +kernel) rfl ⟨(Nat.le_of_ble_eq_true rfl), (Nat.le_of_ble_eq_true rfl)⟩ ⟨rfl, rfl⟩ hl.1 (Nat.le_of_ble_eq_true rfl) dX8_init_31 ⟨(Nat.le_of_ble_eq_true rfl), (Nat.le_of_ble_eq_true rfl)⟩ hw (fun u3 H locs hw => ?_)
  refine y_putF (fs' := [.ref b1, .ref b2, .ref b3, .null, .null, .null, .null, .null]) S V hin hw (C := RX8) (T := TX8) (N := 8) rfl ug_X8 tyX8 tyX8_ok nmX8 2 (by decide) fl_X8_26 rfl rfl (ty := .object "OnChin$Balance") (by decide +kernel) rfl rfl (Nat.le_of_ble_eq_true rfl) dX8_init_34 rfl (fun H locs hw => ?_)
  refine lv_aload_n hx hb dX8_init_37 rfl (lv_at hl 0 rfl) ?_
  refine lv_iconst (v := 2) hx hb dX8_init_38 (by decide) ?_
  refine y_newq (N := 2) S V hA 2 rfl ck_X8_23 V.2.2.2.1.2 hw (by decide) (by decide) (Nat.le_of_ble_eq_true rfl) (Nat.le_of_ble_eq_true rfl) (Nat.le_of_ble_eq_true rfl) dX8_init_39 (fun b4 H hw => ?_)
  refine y_putF (fs' := [.ref b1, .ref b2, .ref b3, .ref b4, .null, .null, .null, .null]) S V hin hw (C := RX8) (T := TX8) (N := 8) rfl ug_X8 tyX8 tyX8_ok nmX8 3 (by decide) fl_X8_30 rfl rfl (ty := .array (.object "OnChin$Balance")) (by decide +kernel) rfl rfl (Nat.le_of_ble_eq_true rfl) dX8_init_42 rfl (fun H locs hw => ?_)
  refine lv_iconst (v := 0) hx hb dX8_init_45 (by decide) ?_
  refine lv_istore_n (lv' := [(1, .int 0), (0, .ref h)]) hx hb dX8_init_46 rfl hl (by decide) rfl (fun ls hl => ?_)
  refine lv_iload_n hx hb dX8_init_47 rfl (lv_at hl 0 rfl) ?_
  refine lv_iconst (v := 2) hx hb dX8_init_48 (by decide) ?_
  refine lv_icmp_ge (tgt := 71) hx hb dX8_init_49 (by decide) (fun hc => absurd hc (by decide)) (fun _ => ?_)
  refine lv_aload_n hx hb dX8_init_52 rfl (lv_at hl 1 rfl) ?_
  refine y_get S V hw (C := RX8) (T := TX8) (N := 8) rfl ug_X8 3 (by decide) fl_X8_30 rfl dX8_init_53 ?_
  refine lv_iload_n hx hb dX8_init_56 rfl (lv_at hl 0 rfl) ?_
  refine y_new (fs := [.int 0, .int 0, .int 0, .int 0, .int 0, .int 0, .null]) S V hA (C := RX0) (T := TX0) (N := 7) (ci := 0) rfl ug_X0 tyX0 tyX0_ok ck_X8_23 ci_X0 wi_X0 (fun j hj => by rcases (show j = 0 ∨ j = 1 ∨ j = 2 ∨ j = 3 ∨ j = 4 ∨ j = 5 ∨ j = 6 by omega) with rfl | rfl | rfl | rfl | rfl | rfl | rfl <;> rfl) (Nat.le_of_ble_eq_true rfl) (Nat.le_of_ble_eq_true rfl) dX8_init_57 dX8_init_60 hw (fun b5 H hw => ?_)
  refine y_callN (rest := [.ref b5, .int 0, .ref b4]) S V hA (mi_X0 l D q tF) (V.2.1 _ (List.mem_of_getElem? (i := 2) rfl)) ic_X0 wi_X0 ii_X0 (by decide +kernel) rfl ⟨(Nat.le_of_ble_eq_true rfl), (Nat.le_of_ble_eq_true rfl)⟩ ⟨rfl, rfl⟩ hl.1 (Nat.le_of_ble_eq_true rfl) dX8_init_61 ⟨(Nat.le_of_ble_eq_true rfl), (Nat.le_of_ble_eq_true rfl)⟩ hw (fun u5 H locs hw => ?_)
  refine va_astq hx hb V.1 hw.1 hw.2.1 hw.2.2 24 2 25 0 rfl rfl (r := (RX0, TX0, 7)) rfl rfl (i := 0) (vp_in_nI (n := 0) (Nat.le_of_ble_eq_true rfl) (Nat.le_of_ble_eq_true rfl)) dX8_init_64 (fun H locs hP hD hS => ?_)
  have hw : wn D A s H locs ([(h, .inr (8, [.ref b1, .ref b2, .ref b3, .ref b4, .null, .null, .null, .null]))] ++ wX7 q b1 u1 ++ wX5 q b2 u2 ++ wX0 q b3 u3 ++ [(b4, .inl (q.2.2.1, 2, .inr (.inr (.inr (.inr (va_up (fun _ => none) 0 (some b5)))))))] ++ wX0 q b5 u5) := ⟨hP, hD, hS⟩
  refine lv_iinc (v := 1) (lv' := [(1, .int 1), (0, .ref h)]) hx hb dX8_init_65 hl (k := 0) rfl (by decide) (by decide) rfl (fun ls hl => ?_)
  refine lv_goto (tgt := 47) hx hb dX8_init_68 (by decide) ?_
  refine lv_iload_n hx hb dX8_init_47 rfl (lv_at hl 0 rfl) ?_
  refine lv_iconst (v := 2) hx hb dX8_init_48 (by decide) ?_
  refine lv_icmp_ge (tgt := 71) hx hb dX8_init_49 (by decide) (fun hc => absurd hc (by decide)) (fun _ => ?_)
  refine lv_aload_n hx hb dX8_init_52 rfl (lv_at hl 1 rfl) ?_
  refine y_get S V hw (C := RX8) (T := TX8) (N := 8) rfl ug_X8 3 (by decide) fl_X8_30 rfl dX8_init_53 ?_
  refine lv_iload_n hx hb dX8_init_56 rfl (lv_at hl 0 rfl) ?_
  refine y_new (fs := [.int 0, .int 0, .int 0, .int 0, .int 0, .int 0, .null]) S V hA (C := RX0) (T := TX0) (N := 7) (ci := 0) rfl ug_X0 tyX0 tyX0_ok ck_X8_23 ci_X0 wi_X0 (fun j hj => by rcases (show j = 0 ∨ j = 1 ∨ j = 2 ∨ j = 3 ∨ j = 4 ∨ j = 5 ∨ j = 6 by omega) with rfl | rfl | rfl | rfl | rfl | rfl | rfl <;> rfl) (Nat.le_of_ble_eq_true rfl) (Nat.le_of_ble_eq_true rfl) dX8_init_57 dX8_init_60 hw (fun b6 H hw => ?_)
  refine y_callN (rest := [.ref b6, .int 1, .ref b4]) S V hA (mi_X0 l D q tF) (V.2.1 _ (List.mem_of_getElem? (i := 2) rfl)) ic_X0 wi_X0 ii_X0 (by decide +kernel) rfl ⟨(Nat.le_of_ble_eq_true rfl), (Nat.le_of_ble_eq_true rfl)⟩ ⟨rfl, rfl⟩ hl.1 (Nat.le_of_ble_eq_true rfl) dX8_init_61 ⟨(Nat.le_of_ble_eq_true rfl), (Nat.le_of_ble_eq_true rfl)⟩ hw (fun u6 H locs hw => ?_)
  refine va_astq hx hb V.1 hw.1 hw.2.1 hw.2.2 24 2 27 0 rfl rfl (r := (RX0, TX0, 7)) rfl rfl (i := 1) (vp_in_nI (n := 1) (Nat.le_of_ble_eq_true rfl) (Nat.le_of_ble_eq_true rfl)) dX8_init_64 (fun H locs hP hD hS => ?_)
  have hw : wn D A s H locs ([(h, .inr (8, [.ref b1, .ref b2, .ref b3, .ref b4, .null, .null, .null, .null]))] ++ wX7 q b1 u1 ++ wX5 q b2 u2 ++ wX0 q b3 u3 ++ [(b4, .inl (q.2.2.1, 2, .inr (.inr (.inr (.inr (va_up (va_up (fun _ => none) 0 (some b5)) 1 (some b6)))))))] ++ wX0 q b5 u5 ++ wX0 q b6 u6) := ⟨hP, hD, hS⟩
  refine lv_iinc (v := 2) (lv' := [(1, .int 2), (0, .ref h)]) hx hb dX8_init_65 hl (k := 0) rfl (by decide) (by decide) rfl (fun ls hl => ?_)
  refine lv_goto (tgt := 47) hx hb dX8_init_68 (by decide) ?_
  refine lv_iload_n hx hb dX8_init_47 rfl (lv_at hl 0 rfl) ?_
  refine lv_iconst (v := 2) hx hb dX8_init_48 (by decide) ?_
  refine lv_icmp_ge (tgt := 71) hx hb dX8_init_49 (by decide) (fun _ => ?_) (fun hc => absurd (by decide) hc)
  refine lv_aload_n hx hb dX8_init_71 rfl (lv_at hl 1 rfl) ?_
  refine y_new (fs := [.null, .null, .null, .null]) S V hA (C := RX4) (T := TX4) (N := 4) (ci := 4) rfl ug_X4 tyX4 tyX4_ok ck_X8_34 ci_X4 wi_X4 (fun j hj => by rcases (show j = 0 ∨ j = 1 ∨ j = 2 ∨ j = 3 by omega) with rfl | rfl | rfl | rfl <;> rfl) (Nat.le_of_ble_eq_true rfl) (Nat.le_of_ble_eq_true rfl) dX8_init_72 dX8_init_75 hw (fun b7 H hw => ?_)
  refine y_callN (rest := [.ref b7, .ref h]) S V hA (mi_X4 l D q tF) (V.2.1 _ (List.mem_of_getElem? (i := 3) rfl)) ic_X4 wi_X4 ii_X4 (by decide +kernel) rfl ⟨(Nat.le_of_ble_eq_true rfl), (Nat.le_of_ble_eq_true rfl)⟩ ⟨rfl, rfl⟩ hl.1 (Nat.le_of_ble_eq_true rfl) dX8_init_76 ⟨(Nat.le_of_ble_eq_true rfl), (Nat.le_of_ble_eq_true rfl)⟩ hw (fun u7 H locs hw => ?_)
  refine y_putF (fs' := [.ref b1, .ref b2, .ref b3, .ref b4, .ref b7, .null, .null, .null]) S V hin hw (C := RX8) (T := TX8) (N := 8) rfl ug_X8 tyX8 tyX8_ok nmX8 4 (by decide) fl_X8_37 rfl rfl (ty := .object "OnChin$Keeper") (by decide +kernel) rfl rfl (Nat.le_of_ble_eq_true rfl) dX8_init_79 rfl (fun H locs hw => ?_)
  refine lv_aload_n hx hb dX8_init_82 rfl (lv_at hl 1 rfl) ?_
  refine y_new (fs := [.int 0, .null]) S V hA (C := RX1) (T := TX1) (N := 2) (ci := 1) rfl ug_X1 tyX1 tyX1_ok ck_X8_41 ci_X1 wi_X1 (fun j hj => by rcases (show j = 0 ∨ j = 1 by omega) with rfl | rfl <;> rfl) (Nat.le_of_ble_eq_true rfl) (Nat.le_of_ble_eq_true rfl) dX8_init_83 dX8_init_86 hw (fun b8 H hw => ?_)
  refine y_callN (rest := [.ref b8, .ref h]) S V hA (mi_X1 l D q tF) (V.2.1 _ (List.mem_of_getElem? (i := 6) rfl)) ic_X1 wi_X1 ii_X1 (by decide +kernel) rfl ⟨(Nat.le_of_ble_eq_true rfl), (Nat.le_of_ble_eq_true rfl)⟩ ⟨rfl, rfl⟩ hl.1 (Nat.le_of_ble_eq_true rfl) dX8_init_87 ⟨(Nat.le_of_ble_eq_true rfl), (Nat.le_of_ble_eq_true rfl)⟩ hw (fun u8 H locs hw => ?_)
  refine y_putF (fs' := [.ref b1, .ref b2, .ref b3, .ref b4, .ref b7, .ref b8, .null, .null]) S V hin hw (C := RX8) (T := TX8) (N := 8) rfl ug_X8 tyX8 tyX8_ok nmX8 5 (by decide) fl_X8_44 rfl rfl (ty := .object "OnChin$Evenings") (by decide +kernel) rfl rfl (Nat.le_of_ble_eq_true rfl) dX8_init_90 rfl (fun H locs hw => ?_)
  refine lv_aload_n hx hb dX8_init_93 rfl (lv_at hl 1 rfl) ?_
  refine y_new (fs := [.int 0, .int 0, .int 0, .int 0, .int 0, .int 0, .int 0, .null, .null, .null]) S V hA (C := RX2) (T := TX2) (N := 10) (ci := 2) rfl ug_X2 tyX2 tyX2_ok ck_X8_48 ci_X2 wi_X2 (fun j hj => by rcases (show j = 0 ∨ j = 1 ∨ j = 2 ∨ j = 3 ∨ j = 4 ∨ j = 5 ∨ j = 6 ∨ j = 7 ∨ j = 8 ∨ j = 9 by omega) with rfl | rfl | rfl | rfl | rfl | rfl | rfl | rfl | rfl | rfl <;> rfl) (Nat.le_of_ble_eq_true rfl) (Nat.le_of_ble_eq_true rfl) dX8_init_94 dX8_init_97 hw (fun b9 H hw => ?_)
  refine y_callN (rest := [.ref b9, .ref h]) S V hA (mi_X2 l D q tF) (V.2.1 _ (List.mem_of_getElem? (i := 7) rfl)) ic_X2 wi_X2 ii_X2 (by decide +kernel) rfl ⟨(Nat.le_of_ble_eq_true rfl), (Nat.le_of_ble_eq_true rfl)⟩ ⟨rfl, rfl⟩ hl.1 (Nat.le_of_ble_eq_true rfl) dX8_init_98 ⟨(Nat.le_of_ble_eq_true rfl), (Nat.le_of_ble_eq_true rfl)⟩ hw (fun u9 H locs hw => ?_)
  refine y_putF (fs' := [.ref b1, .ref b2, .ref b3, .ref b4, .ref b7, .ref b8, .ref b9, .null]) S V hin hw (C := RX8) (T := TX8) (N := 8) rfl ug_X8 tyX8 tyX8_ok nmX8 6 (by decide) fl_X8_51 rfl rfl (ty := .object "OnChin$Film") (by decide +kernel) rfl rfl (Nat.le_of_ble_eq_true rfl) dX8_init_101 rfl (fun H locs hw => ?_)
  refine lv_aload_n hx hb dX8_init_104 rfl (lv_at hl 1 rfl) ?_
  refine y_new (fs := [.null, .null, .null, .null, .null, .int 0]) S V hA (C := RX3) (T := TX3) (N := 6) (ci := 3) rfl ug_X3 tyX3 tyX3_ok ck_X8_55 ci_X3 wi_X3 (fun j hj => by rcases (show j = 0 ∨ j = 1 ∨ j = 2 ∨ j = 3 ∨ j = 4 ∨ j = 5 by omega) with rfl | rfl | rfl | rfl | rfl | rfl <;> rfl) (Nat.le_of_ble_eq_true rfl) (Nat.le_of_ble_eq_true rfl) dX8_init_105 dX8_init_108 hw (fun b10 H hw => ?_)
  refine y_callN (rest := [.ref b10, .ref h]) S V hA (mi_X3 l D q tF) (V.2.1 _ (List.mem_of_getElem? (i := 8) rfl)) ic_X3 wi_X3 ii_X3 (by decide +kernel) rfl ⟨(Nat.le_of_ble_eq_true rfl), (Nat.le_of_ble_eq_true rfl)⟩ ⟨rfl, rfl⟩ hl.1 (Nat.le_of_ble_eq_true rfl) dX8_init_109 ⟨(Nat.le_of_ble_eq_true rfl), (Nat.le_of_ble_eq_true rfl)⟩ hw (fun u10 H locs hw => ?_)
  refine y_putF (fs' := [.ref b1, .ref b2, .ref b3, .ref b4, .ref b7, .ref b8, .ref b9, .ref b10]) S V hin hw (C := RX8) (T := TX8) (N := 8) rfl ug_X8 tyX8 tyX8_ok nmX8 7 (by decide) fl_X8_58 rfl rfl (ty := .object "OnChin$House") (by decide +kernel) rfl rfl (Nat.le_of_ble_eq_true rfl) dX8_init_112 rfl (fun H locs hw => ?_)
  exact y_ret (y := yX8_init) (w := wX8 q) S hr hlocks (fun i => List.getD [b1, u1 0, u1 1, u1 2, u1 3, u1 4, u1 5, u1 6, u1 7, u1 8, u1 9, u1 10, u1 11, u1 12, u1 13, b2, u2 0, u2 1, u2 2, u2 3, u2 4, b3, u3 0, b4, b5, u5 0, b6, u6 0, b7, u7 0, u7 1, u7 2, u7 3, u7 4, u7 5, u7 6, u7 7, b8, u8 0, b9, u9 0, u9 1, u9 2, b10, u10 0, u10 1, u10 2, u10 3, u10 4] i 0) hw (Nat.le_of_ble_eq_true rfl) (Nat.le_of_ble_eq_true rfl) dX8_init_115
