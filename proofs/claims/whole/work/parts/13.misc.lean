/-! static tables, text constants -/
theorem vin_lt {i : Int32} {n N : Nat} (h : vp_in i n) (hN : n ≤ N) : i.toNatClampNeg < N := Nat.lt_of_lt_of_le (Nat.not_le.mp fun q => h (Or.inr q)) hN
theorem vin_lt1 {i : Int32} {n N : Nat} (h : vp_in i n) (hN : 1 + n ≤ N) : 1 + i.toNatClampNeg < N := by have := vin_lt h (Nat.le_refl n); omega
section XM
variable {p : Program} {l : Launch} {e : Env} {R : Room} {s : State} {m : MethodId} {args : Array Value} {below : List Frame} {meth : Method} {c : Code} {H : Heap} {locs : List Loc} {Q : State → Prop}
variable {cc : ByteArray} {pc nL index : Nat} {ls : Array Slot} {rest : List Value} {D : va_G} {q : ClassId × ClassId × ClassId × ClassId} {ad : Nat → Nat → Nat} {t : Nat × Nat} {aK aV : Nat → Nat} {own : String} {σ : St} {o : Nat}
theorem xs_1 (S : CallFix p m c cc nL s args GW own) (V : EvC D q ad t aK aV s) (hw : wo D clA LC ad s.heap H locs (EC q ad σ)) (hl : (own, index, "OnChin", "LEAST", "[I", "OnChin") ∈ nfC) (hdg : decode cc pc = .ok (.getstatic index, 3)) (kk : W p l e R s m args below meth c H locs 0 0 Q (F0 m (pc + 3) ls (.ref t.1 :: rest))) : W p l e R s m args below meth c H locs 0 0 Q (F0 m pc ls rest) :=
  va_getsN S.1 S.2.1 V.2.2.2.2.1.1 hw.2 S.2.2.2.1 (va_Nw.use rfl (V.2.2.2.1 _ hl)) (fun _ h => h) hdg kk
theorem xs_2 (S : CallFix p m c cc nL s args GW own) (V : EvC D q ad t aK aV s) (hw : wo D clA LC ad s.heap H locs (EC q ad σ)) (hl : (own, index, "OnChin", "MOST", "[I", "OnChin") ∈ nfC) (hdg : decode cc pc = .ok (.getstatic index, 3)) (kk : W p l e R s m args below meth c H locs 0 0 Q (F0 m (pc + 3) ls (.ref t.2 :: rest))) : W p l e R s m args below meth c H locs 0 0 Q (F0 m pc ls rest) :=
  va_getsN S.1 S.2.1 V.2.2.2.2.2.1.1 hw.2 S.2.2.2.1 (va_Nw.use rfl (V.2.2.2.1 _ hl)) (fun _ h => h) hdg kk
theorem xt_1 (S : CallFix p m c cc nL s args GW own) (V : EvC D q ad t aK aV s) (hw : wo D clA LC ad s.heap H locs (EC q ad σ)) {i z : Int32} (hi : vp_in i 10) (hz : tLeast.getD i.toNatClampNeg 0 = z) (hdg : decode cc pc = .ok (.iaload, 1)) (kk : W p l e R s m args below meth c H locs 0 0 Q (F0 m (pc + 1) ls (.int z :: rest))) : W p l e R s m args below meth c H locs 0 0 Q (F0 m pc ls (.int i :: .ref t.1 :: rest)) :=
  va_ti S.1 S.2.1 V.2.2.2.2.1.2 hw.2 hi (by rw [hz]) hdg kk
theorem xt_2 (S : CallFix p m c cc nL s args GW own) (V : EvC D q ad t aK aV s) (hw : wo D clA LC ad s.heap H locs (EC q ad σ)) {i z : Int32} (hi : vp_in i 10) (hz : tMost.getD i.toNatClampNeg 0 = z) (hdg : decode cc pc = .ok (.iaload, 1)) (kk : W p l e R s m args below meth c H locs 0 0 Q (F0 m (pc + 1) ls (.int z :: rest))) : W p l e R s m args below meth c H locs 0 0 Q (F0 m pc ls (.int i :: .ref t.2 :: rest)) :=
  va_ti S.1 S.2.1 V.2.2.2.2.2.1.2 hw.2 hi (by rw [hz]) hdg kk
theorem xl_str (S : CallFix p m c cc nL s args GW "OnChin$Text") (V : EvC D q ad t aK aV s) {i : Nat} (hi : i < 13) (hx : sIx.getD i 0 = index) (hdg : decode cc pc = .ok (.ldc index, 2)) (kk : W p l e R s m args below meth c H locs 0 0 Q (F0 m (pc + 2) ls (.ref (aK i) :: rest))) : W p l e R s m args below meth c H locs 0 0 Q (F0 m pc ls rest) := by
  subst hx
  exact va_ldcS S.1 S.2.1 S.2.2.2.1 (V.2.2.2.2.2.2.1.2 i hi) hdg kk
theorem xr_str (S : CallFix p m c cc nL s args GW own) (V : EvC D q ad t aK aV s) (hw : wo D clA LC ad s.heap H locs (EC q ad σ)) {i : Nat} (hi : i < 13) : ∃ cell : Cell, H[aK i]? = some cell ∧ cell.vm.isStatics = false ∧ s.vm.findClass "java/lang/String" = some cell.cls := vk_recv V.2.2.2.2.2.2.1.1 hi hw.2
end XM
def wp_J0_length_8abf5 (o0 : Nat) (post : Int32 → St → Prop) (σ : St) : Prop := post (nI (sLen.getD o0 0)) σ
def wp_J0_charAt_5068e (o0 : Nat) (x1 : Int32) (post : Int32 → St → Prop) (σ : St) : Prop := vp_in x1 (sLen.getD o0 0) ∧ post ((sByt.getD o0 []).getD x1.toNatClampNeg 0 &&& 255) σ
/-! JDK: texts' length and letters, over the constants -/
section XJ
variable {p : Program} {l : Launch} {e : Env} {R : Room} {s : State} {m : MethodId} {args : Array Value} {below : List Frame} {meth : Method} {c : Code} {H : Heap} {locs : List Loc} {Q : State → Prop}
variable {cc bytes : ByteArray} {pc nL maxL n : Nat} {ls : Array Slot} {rest st0 As avs : List Value} {D : va_G} {cl : List vw_C} {L : List (Nat × Nat)} {ad : Nat → Nat → Nat} {own C : String} {F : St → Nat → Nat → va_E} {Ev : State → Prop} {σ : St} {y : MethodName} {ret : Option FieldType} {rm : Room} {b index : Nat}
theorem ret_n {ty : FieldType} {post : Int32 → St → Prop} (S : CallFix p m c cc nL s args GW own) (hr : meth.sig.returnType = some ty) (hlocks : meth.locks = false) (hw : wo D cl L ad s.heap H locs (F σ)) {v : Int32} (hn : narrow ty (.int v) = .int v) (h : post v σ) (hdg : decode cc pc = .ok (.ireturn, 1)) : W p l e R s m args below meth c H locs 0 0 (MQ below (zQi D cl L ad F post) args s 0 0 (zA L ad)) (F0 m pc ls [.int v]) :=
  W.zret (v := v) S.1 S.2.1 hr hn (fun t ht _ => ⟨⟨v, σ, rfl, h, by show va_P D cl (wz L ad (F σ)) t.heap; rw [ht]; exact hw.1⟩, hw.2.F ht⟩) hw.2.2.2 hdg hlocks
theorem call_Sv {post : St → Prop} (hE : EvOK Ev L ad) (S : CallFix p m c cc nL s args GW own) (V : Ev s) (hw : wo D cl L ad s.heap H locs (F σ)) (hM : cV l D cl L ad F Ev y bytes maxL ret rm As σ post) (ok : okS y bytes maxL ret n) (hlink : Cond.methodLink own index y ∈ GW) (hR : rm.frames + 1 ≤ R.frames ∧ 8 + (maxL + 11) + rm.locals ≤ R.locals) (hz : rm.cells = 0 ∧ rm.slots = 0) (hn : As.length = n) (hsz : ls.size = nL) (hst : st0 = As.reverse ++ rest) (hrm : (rest.map fun v => v.category).sum ≤ 8) (hdg : decode cc pc = .ok (.invokestatic index, 3))
    (kk : ∀ (σ' : St) (H1 : Heap) (locs1 : List Loc), post σ' → wo D cl L ad s.heap H1 locs1 (F σ') → W p l e R s m args below meth c H1 locs1 0 0 Q (F0 m (pc + 3) ls rest)) : W p l e R s m args below meth c H locs 0 0 Q (F0 m pc ls st0) :=
  va_callv (va_runS (As := As) (rest := rest) S hM (va_cwS n (gw_S S) (gi_S ok hlink) rfl hz.1 hz.2 ok.2 hR) ⟨blind_z hE, pre_z hE V hw⟩ rfl hn hsz hst (lv_room hrm) hdg ⟨Nat.zero_le _, Nat.zero_le _⟩) hw.2 (fun _ _ h => h) (fun _ h => h) (fun u t H1 locs1 ht _ hp hB _ _ hS => kk u H1 locs1 hp ⟨by rw [← ht]; exact hB, hS⟩)
end XJ
theorem mt_J0_coder (l : Launch) (D : va_G) (q : ClassId × ClassId × ClassId × ClassId) (ad : Nat → Nat → Nat) (t : Nat × Nat) (aK aV : Nat → Nat) (o0 : Nat) (ho0 : o0 < 13) (σ : St) (post : Int32 → St → Prop) (h : post 0 σ) : cI l D clA LC ad (EC q ad) (EvC D q ad t aK aV) yJ0_coder_7d493 cJ0_coder_7d493 1 (some .byte) { frames := 0, cells := 0, slots := 0, locals := 0 } [.ref (aK o0)] σ post := by
  refine ent_i (by decide) (Nat.le_of_ble_eq_true rfl) (fun p e s m below meth c S V hr hlocks hw ls hl => ?_)
  have hx := S.1
  have hb := S.2.1
  refine va_gets hx hb V.2.2.2.2.2.2.2.1 hw.2 S.2.2.2.1 (gw_S S _ fl_J0_38) (fun _ h => h) dJ0_coder_7d493_0 ?_
  refine lv_if_eq (tgt := 13) hx hb dJ0_coder_7d493_3 (by decide) (fun hc => absurd hc (by decide)) (fun _ => ?_)
  refine lv_aload_n hx hb dJ0_coder_7d493_6 rfl (lv_at hl 0 rfl) ?_
  refine vk_getf hx hb (V.2.2.2.2.2.2.1.1.1 o0 ho0).2.1 hw.2 S.2.2.2.1 (gw_S S _ fl_J0_15) (fun _ h => h) dJ0_coder_7d493_7 ?_
  refine lv_goto (tgt := 14) hx hb dJ0_coder_7d493_10 (by decide) ?_
  exact ret_n S hr hlocks hw (by decide) h dJ0_coder_7d493_14
theorem mt_J0_isLatin1 (l : Launch) (D : va_G) (q : ClassId × ClassId × ClassId × ClassId) (ad : Nat → Nat → Nat) (t : Nat × Nat) (aK aV : Nat → Nat) (o0 : Nat) (ho0 : o0 < 13) (σ : St) (post : Int32 → St → Prop) (h : post 1 σ) : cI l D clA LC ad (EC q ad) (EvC D q ad t aK aV) yJ0_isLatin1_aae02 cJ0_isLatin1_aae02 1 (some .boolean) { frames := 0, cells := 0, slots := 0, locals := 0 } [.ref (aK o0)] σ post := by
  refine ent_i (by decide) (Nat.le_of_ble_eq_true rfl) (fun p e s m below meth c S V hr hlocks hw ls hl => ?_)
  have hx := S.1
  have hb := S.2.1
  refine va_gets hx hb V.2.2.2.2.2.2.2.1 hw.2 S.2.2.2.1 (gw_S S _ fl_J0_38) (fun _ h => h) dJ0_isLatin1_aae02_0 ?_
  refine lv_if_eq (tgt := 17) hx hb dJ0_isLatin1_aae02_3 (by decide) (fun hc => absurd hc (by decide)) (fun _ => ?_)
  refine lv_aload_n hx hb dJ0_isLatin1_aae02_6 rfl (lv_at hl 0 rfl) ?_
  refine vk_getf hx hb (V.2.2.2.2.2.2.1.1.1 o0 ho0).2.1 hw.2 S.2.2.2.1 (gw_S S _ fl_J0_15) (fun _ h => h) dJ0_isLatin1_aae02_7 ?_
  refine lv_if_ne (tgt := 17) hx hb dJ0_isLatin1_aae02_10 (by decide) (fun hc => absurd rfl hc) (fun _ => ?_)
  refine lv_iconst (v := 1) hx hb dJ0_isLatin1_aae02_13 (by decide) ?_
  refine lv_goto (tgt := 18) hx hb dJ0_isLatin1_aae02_14 (by decide) ?_
  exact ret_n S hr hlocks hw (by decide) h dJ0_isLatin1_aae02_18
theorem mt_J3_check (l : Launch) (D : va_G) (q : ClassId × ClassId × ClassId × ClassId) (ad : Nat → Nat → Nat) (t : Nat × Nat) (aK aV : Nat → Nat) (x n : Int32) (v : Value) (hv : v = .null ∨ ∃ a, v = .ref a) (h0 : ¬ x < 0) (h1 : x < n) (σ : St) (post : Int32 → St → Prop) (h : post x σ) : cI l D clA LC ad (EC q ad) (EvC D q ad t aK aV) yJ3_checkIndex_8e157 cJ3_checkIndex_8e157 3 (some .int) { frames := 0, cells := 0, slots := 0, locals := 0 } [.int x, .int n, v] σ post := by
  have hle : (lg_sl [.int x, .int n, v]).length ≤ 3 := by
    rcases hv with e | ⟨a, e⟩ <;> subst e <;> exact Nat.le_of_ble_eq_true rfl
  refine ent_i (by decide) hle (fun p e s m below meth c S V hr hlocks hw ls hl => ?_)
  have hx := S.1
  have hb := S.2.1
  have hl2 : lv_has ls 3 [(0, .int x), (1, .int n)] := lv_sub hl [0, 1] rfl
  refine lv_iload_n hx hb dJ3_checkIndex_8e157_0 rfl (lv_at hl2 0 rfl) ?_
  refine lv_if_lt (tgt := 9) hx hb dJ3_checkIndex_8e157_1 (by decide) (fun hc => absurd hc h0) (fun _ => ?_)
  refine lv_iload_n hx hb dJ3_checkIndex_8e157_4 rfl (lv_at hl2 0 rfl) ?_
  refine lv_iload_n hx hb dJ3_checkIndex_8e157_5 rfl (lv_at hl2 1 rfl) ?_
  refine lv_icmp_lt (tgt := 16) hx hb dJ3_checkIndex_8e157_6 (by decide) (fun _ => ?_) (fun hc => absurd h1 hc)
  refine lv_iload_n hx hb dJ3_checkIndex_8e157_16 rfl (lv_at hl2 0 rfl) ?_
  exact ret_i S hr hlocks hw h dJ3_checkIndex_8e157_17
theorem mt_J0_check (l : Launch) (D : va_G) (q : ClassId × ClassId × ClassId × ClassId) (ad : Nat → Nat → Nat) (t : Nat × Nat) (aK aV : Nat → Nat) (x n : Int32) (h0 : ¬ x < 0) (h1 : x < n) (σ : St) (post : St → Prop) (h : post σ) : cV l D clA LC ad (EC q ad) (EvC D q ad t aK aV) yJ0_checkIndex_df160 cJ0_checkIndex_df160 2 none { frames := 1, cells := 0, slots := 0, locals := 22 } [.int x, .int n] σ post := by
  refine ent_v (by decide) (Nat.le_of_ble_eq_true rfl) (fun p e s m below meth c S V hr hlocks hw ls hl => ?_)
  have hx := S.1
  have hb := S.2.1
  refine lv_iload_n hx hb dJ0_checkIndex_df160_0 rfl (lv_at hl 0 rfl) ?_
  refine lv_iload_n hx hb dJ0_checkIndex_df160_1 rfl (lv_at hl 1 rfl) ?_
  have go : ∀ v : Value, (v = .null ∨ ∃ a, v = .ref a) → W p l e { frames := 1, cells := 0, slots := 0, locals := 22 } s m #[.int x, .int n] below meth c s.heap [] 0 0 (MQ below (zQv D clA LC ad (EC q ad) post) #[.int x, .int n] s 0 0 (zA LC ad)) (F0 m 5 ls [v, .int n, .int x]) := by
    intro v hv
    refine call_Si (As := [.int x, .int n, v]) (rest := []) EvC_ok S V hw (mt_J3_check l D q ad t aK aV x n v hv h0 h1 σ (fun r σ' => r = x ∧ σ' = σ) ⟨rfl, rfl⟩) ok_J3_checkIndex_8e157 ml_J0_1059 ⟨Nat.le_of_ble_eq_true rfl, Nat.le_of_ble_eq_true rfl⟩ ⟨rfl, rfl⟩ rfl hl.1 rfl (Nat.le_of_ble_eq_true rfl) dJ0_checkIndex_df160_5 (fun r σ1 H locs hp hw2 => ?_)
    obtain ⟨-, rfl⟩ := hp
    refine lv_pop hx hb dJ0_checkIndex_df160_8 rfl ?_
    exact ret_v S hr hlocks hw2 h dJ0_checkIndex_df160_9
  rcases V.2.2.2.2.2.2.2.2 with hz | ⟨a, hz⟩
  · refine va_gets hx hb hz hw.2 S.2.2.2.1 (gw_S S _ fl_J0_1053) (fun _ h => h) dJ0_checkIndex_df160_2 ?_
    exact go _ (Or.inl rfl)
  · refine va_gets hx hb hz hw.2 S.2.2.2.1 (gw_S S _ fl_J0_1053) (fun _ h => h) dJ0_checkIndex_df160_2 ?_
    exact go _ (Or.inr ⟨a, rfl⟩)
theorem vin_two {x : Int32} {n : Nat} (h : vp_in x n) (hn : n < 2 ^ 31) : ¬ x < 0 ∧ x < Int32.ofNat n := by
  have h0 : ¬ x < 0 := fun z => h (Or.inl z)
  obtain ⟨j, hj, e⟩ := nI_of h0
  refine ⟨h0, ?_⟩
  have := vin_lt h (Nat.le_refl n)
  rw [e, nI_clamp hj] at this
  rw [e]
  exact nI_lt this hn
theorem mt_J1_charAt (l : Launch) (D : va_G) (q : ClassId × ClassId × ClassId × ClassId) (ad : Nat → Nat → Nat) (t : Nat × Nat) (aK aV : Nat → Nat) (o0 : Nat) (x1 : Int32) (ho0 : o0 < 13) (σ : St) (post : Int32 → St → Prop) (hv : vp_in x1 (sLen.getD o0 0)) (h : post ((sByt.getD o0 []).getD x1.toNatClampNeg 0 &&& 255) σ) : cI l D clA LC ad (EC q ad) (EvC D q ad t aK aV) yJ1_charAt_3b067 cJ1_charAt_3b067 2 (some .char) { frames := 2, cells := 0, slots := 0, locals := 43 } [.ref (aV o0), .int x1] σ post := by
  have hs : ∀ o, o < 13 → sLen.getD o 0 < 2 ^ 31 := by decide
  obtain ⟨h0, h1⟩ := vin_two hv (hs o0 ho0)
  refine ent_i (by decide) (Nat.le_of_ble_eq_true rfl) (fun p e s m below meth c S V hr hlocks hw ls hl => ?_)
  have hx := S.1
  have hb := S.2.1
  have hT := (V.2.2.2.2.2.2.1.1.1 o0 ho0).2.2.2
  refine lv_iload_n hx hb dJ1_charAt_3b067_0 rfl (lv_at hl 1 rfl) ?_
  refine lv_aload_n hx hb dJ1_charAt_3b067_1 rfl (lv_at hl 0 rfl) ?_
  refine va_tlen hx hb hT hw.2 rfl dJ1_charAt_3b067_2 ?_
  refine call_Sv (As := [.int x1, .int (Int32.ofNat (sLen.getD o0 0))]) (rest := []) EvC_ok S V hw (mt_J0_check l D q ad t aK aV x1 (Int32.ofNat (sLen.getD o0 0)) h0 h1 σ (fun σ' => σ' = σ) rfl) ok_J0_checkIndex_df160 ml_J1_9 ⟨Nat.le_of_ble_eq_true rfl, Nat.le_of_ble_eq_true rfl⟩ ⟨rfl, rfl⟩ rfl hl.1 rfl (Nat.le_of_ble_eq_true rfl) dJ1_charAt_3b067_3 (fun σ1 H locs hp hw2 => ?_)
  subst hp
  refine lv_aload_n hx hb dJ1_charAt_3b067_6 rfl (lv_at hl 0 rfl) ?_
  refine lv_iload_n hx hb dJ1_charAt_3b067_7 rfl (lv_at hl 1 rfl) ?_
  refine va_tb hx hb hT hw2.2 hv rfl dJ1_charAt_3b067_8 ?_
  refine lv_sipush (v := 255) hx hb dJ1_charAt_3b067_9 (by decide) ?_
  refine lv_iand hx hb dJ1_charAt_3b067_12 ?_
  refine lv_i2c hx hb dJ1_charAt_3b067_13 (sc_c2 _) ?_
  exact ret_n S hr hlocks hw2 (sc_nar _) h dJ1_charAt_3b067_14
theorem mt_J0_length_8abf5 (l : Launch) (D : va_G) (q : ClassId × ClassId × ClassId × ClassId) (ad : Nat → Nat → Nat) (t : Nat × Nat) (aK aV : Nat → Nat) (o0 : Nat) (ho0 : o0 < 13) (σ : St) (post : Int32 → St → Prop) (h : wp_J0_length_8abf5 o0 post σ) : cI l D clA LC ad (EC q ad) (EvC D q ad t aK aV) yJ0_length_8abf5 cJ0_length_8abf5 1 (some .int) { frames := 1, cells := 0, slots := 0, locals := 40 } [.ref (aK o0)] σ post := by
  have hs : ∀ o, o < 13 → sLen.getD o 0 < 2 ^ 31 := by decide
  refine ent_i (by decide) (Nat.le_of_ble_eq_true rfl) (fun p e s m below meth c S V hr hlocks hw ls hl => ?_)
  have hx := S.1
  have hb := S.2.1
  have hq := V.2.2.2.2.2.2.1.1.1 o0 ho0
  refine lv_aload_n hx hb dJ0_length_8abf5_0 rfl (lv_at hl 0 rfl) ?_
  refine vk_getf hx hb hq.2.2.1 hw.2 S.2.2.2.1 (gw_S S _ fl_J0_9) (fun _ h => h) dJ0_length_8abf5_1 ?_
  refine va_tlen hx hb hq.2.2.2 hw.2 rfl dJ0_length_8abf5_4 ?_
  refine lv_aload_n hx hb dJ0_length_8abf5_5 rfl (lv_at hl 0 rfl) ?_
  refine call_Vi (As := []) (rest := [.int (Int32.ofNat (sLen.getD o0 0))]) EvC_ok S V hw (mt_J0_coder l D q ad t aK aV o0 ho0 σ (fun r σ' => r = 0 ∧ σ' = σ) ⟨rfl, rfl⟩) ok_J0_coder_7d493 ml_J0_335 (xr_str S V hw ho0) ⟨Nat.le_of_ble_eq_true rfl, Nat.le_of_ble_eq_true rfl⟩ ⟨rfl, rfl⟩ rfl hl.1 rfl (Nat.le_of_ble_eq_true rfl) dJ0_length_8abf5_6 (fun r σ1 H locs hp hw2 => ?_)
  obtain ⟨rfl, rfl⟩ := hp
  refine lv_ishr hx hb dJ0_length_8abf5_9 ?_
  have e9 : Int32.ofNat (sLen.getD o0 0) >>> ((0 : Int32) &&& 31) = nI (sLen.getD o0 0) := sc_shr0 (hs o0 ho0)
  rw [e9]
  exact ret_i S hr hlocks hw2 h dJ0_length_8abf5_10
theorem mt_J0_charAt_5068e (l : Launch) (D : va_G) (q : ClassId × ClassId × ClassId × ClassId) (ad : Nat → Nat → Nat) (t : Nat × Nat) (aK aV : Nat → Nat) (o0 : Nat) (x1 : Int32) (ho0 : o0 < 13) (σ : St) (post : Int32 → St → Prop) (h : wp_J0_charAt_5068e o0 x1 post σ) : cI l D clA LC ad (EC q ad) (EvC D q ad t aK aV) yJ0_charAt_5068e cJ0_charAt_5068e 2 (some .char) { frames := 3, cells := 0, slots := 0, locals := 120 } [.ref (aK o0), .int x1] σ post := by
  refine ent_i (by decide) (Nat.le_of_ble_eq_true rfl) (fun p e s m below meth c S V hr hlocks hw ls hl => ?_)
  have hx := S.1
  have hb := S.2.1
  refine lv_aload_n hx hb dJ0_charAt_5068e_0 rfl (lv_at hl 0 rfl) ?_
  refine call_Vi (As := []) (rest := []) EvC_ok S V hw (mt_J0_isLatin1 l D q ad t aK aV o0 ho0 σ (fun r σ' => r = 1 ∧ σ' = σ) ⟨rfl, rfl⟩) ok_J0_isLatin1_aae02 ml_J0_492 (xr_str S V hw ho0) ⟨Nat.le_of_ble_eq_true rfl, Nat.le_of_ble_eq_true rfl⟩ ⟨rfl, rfl⟩ rfl hl.1 rfl (Nat.le_of_ble_eq_true rfl) dJ0_charAt_5068e_1 (fun r σ1 H locs hp hw2 => ?_)
  obtain ⟨rfl, rfl⟩ := hp
  refine lv_if_eq (tgt := 16) hx hb dJ0_charAt_5068e_4 (by decide) (fun hc => absurd hc (by decide)) (fun _ => ?_)
  refine lv_aload_n hx hb dJ0_charAt_5068e_7 rfl (lv_at hl 0 rfl) ?_
  refine vk_getf hx hb (V.2.2.2.2.2.2.1.1.1 o0 ho0).2.2.1 hw2.2 S.2.2.2.1 (gw_S S _ fl_J0_9) (fun _ h => h) dJ0_charAt_5068e_8 ?_
  refine lv_iload_n hx hb dJ0_charAt_5068e_11 rfl (lv_at hl 1 rfl) ?_
  refine call_Si (As := [.ref (aV o0), .int x1]) (rest := []) EvC_ok S V hw2 (mt_J1_charAt l D q ad t aK aV o0 x1 ho0 σ1 (fun r σ' => narrow .char (.int r) = .int r ∧ post r σ') h.1 ⟨sc_nar _, h.2⟩) ok_J1_charAt_3b067 ml_J0_495 ⟨Nat.le_of_ble_eq_true rfl, Nat.le_of_ble_eq_true rfl⟩ ⟨rfl, rfl⟩ rfl hl.1 rfl (Nat.le_of_ble_eq_true rfl) dJ0_charAt_5068e_12 (fun r σ2 H locs hp hw3 => ?_)
  exact ret_n S hr hlocks hw3 hp.1 hp.2 dJ0_charAt_5068e_15
