/-! static tables, text constants -/
theorem vin_lt {i : Int32} {n N : Nat} (h : vp_in i n) (hN : n ≤ N) : i.toNatClampNeg < N := Nat.lt_of_lt_of_le (Nat.not_le.mp fun q => h (Or.inr q)) hN
theorem vin_lt1 {i : Int32} {n N : Nat} (h : vp_in i n) (hN : 1 + n ≤ N) : 1 + i.toNatClampNeg < N := by have := vin_lt h (Nat.le_refl n); omega
section XM
variable {p : Program} {l : Launch} {e : Env} {R : Room} {s : State} {m : MethodId} {args : Array Value} {below : List Frame} {meth : Method} {c : Code} {H : Heap} {locs : List Loc} {Q : State → Prop}
variable {cc : ByteArray} {pc nL index : Nat} {ls : Array Slot} {rest : List Value} {D : va_G} {q : ClassId × ClassId × ClassId × ClassId} {ad : Nat → Nat → Nat} {t : Nat × Nat} {aK aV : Nat → Nat} {own : String} {σ : St} {o : Nat}
theorem xs_1 (S : CallFix p m c cc nL s args GW own) (V : EvC D q ad t aK aV s) (hw : wo D clA LC ad s.heap H locs (EC q ad σ)) (hl : (own, index, "OnChin", "LEAST", "[I", "OnChin") ∈ nfC) (hdg : decode cc pc = .ok (.getstatic index, 3)) (kk : W p l e R s m args below meth c H locs 0 0 Q (F0 m (pc + 3) ls (.ref t.1 :: rest))) : W p l e R s m args below meth c H locs 0 0 Q (F0 m pc ls rest) :=
  va_getsN S.1 S.2.1 V.2.2.2.2.1.1 hw.2 S.2.2.2.1 (va_Nw.use rfl (V.2.2.2.1 _ hl)) (fun _ h => h) hdg kk
theorem xs_2 (S : CallFix p m c cc nL s args GW own) (V : EvC D q ad t aK aV s) (hw : wo D clA LC ad s.heap H locs (EC q ad σ)) (hl : (own, index, "OnChin", "MOST", "[I", "OnChin") ∈ nfC) (hdg : decode cc pc = .ok (.getstatic index, 3)) (kk : W p l e R s m args below meth c H locs 0 0 Q (F0 m (pc + 3) ls (.ref t.2 :: rest))) : W p l e R s m args below meth c H locs 0 0 Q (F0 m pc ls rest) :=
  va_getsN S.1 S.2.1 V.2.2.2.2.2.1.1 hw.2 S.2.2.2.1 (va_Nw.use rfl (V.2.2.2.1 _ hl)) (fun _ h => h) hdg kk
theorem xt_1 (S : CallFix p m c cc nL s args GW own) (V : EvC D q ad t aK aV s) (hw : wo D clA LC ad s.heap H locs (EC q ad σ)) {i z : Int32} (hi : vp_in i 10) (hz : tLeast.getD i.toNatClampNeg 0 = z) (hdg : decode cc pc = .ok (.iaload, 1)) (kk : W p l e R s m args below meth c H locs 0 0 Q (F0 m (pc + 1) ls (.int z :: rest))) : W p l e R s m args below meth c H locs 0 0 Q (F0 m pc ls (.int i :: .ref t.1 :: rest)) :=
  va_ti S.1 S.2.1 V.2.2.2.2.1.2 hw.2 hi (by rw [hz]) hdg kk
theorem xt_2 (S : CallFix p m c cc nL s args GW own) (V : EvC D q ad t aK aV s) (hw : wo D clA LC ad s.heap H locs (EC q ad σ)) {i z : Int32} (hi : vp_in i 10) (hz : tMost.getD i.toNatClampNeg 0 = z) (hdg : decode cc pc = .ok (.iaload, 1)) (kk : W p l e R s m args below meth c H locs 0 0 Q (F0 m (pc + 1) ls (.int z :: rest))) : W p l e R s m args below meth c H locs 0 0 Q (F0 m pc ls (.int i :: .ref t.2 :: rest)) :=
  va_ti S.1 S.2.1 V.2.2.2.2.2.1.2 hw.2 hi (by rw [hz]) hdg kk
theorem xl_str (S : CallFix p m c cc nL s args GW "OnChin$Text") (V : EvC D q ad t aK aV s) {i : Nat} (hi : i < 13) (hx : sIx.getD i 0 = index) (hdg : decode cc pc = .ok (.ldc index, 2)) (kk : W p l e R s m args below meth c H locs 0 0 Q (F0 m (pc + 2) ls (.ref (aK i) :: rest))) : W p l e R s m args below meth c H locs 0 0 Q (F0 m pc ls rest) := by
  subst hx
  exact va_ldcS S.1 S.2.1 S.2.2.2.1 (V.2.2.2.2.2.2.1.2 i hi) hdg kk
theorem xr_str (S : CallFix p m c cc nL s args GW own) (V : EvC D q ad t aK aV s) (hw : wo D clA LC ad s.heap H locs (EC q ad σ)) {i : Nat} (hi : i < 13) : ∃ cell : Cell, H[aK i]? = some cell ∧ cell.vm.isStatics = false ∧ s.vm.findClass "java/lang/String" = some cell.cls := vk_recv V.2.2.2.2.2.2.1.1 hi hw.2
end XM
def wp_J0_length_8abf5 (o0 : Nat) (post : Int32 → St → Prop) (σ : St) : Prop := post (nI (sLen.getD o0 0)) σ
def wp_J0_charAt_5068e (o0 : Nat) (x1 : Int32) (post : Int32 → St → Prop) (σ : St) : Prop := vp_in x1 (sLen.getD o0 0) ∧ post ((sByt.getD o0 []).getD x1.toNatClampNeg 0 &&& 255) σ
theorem mt_J0_length_8abf5 (l : Launch) (D : va_G) (q : ClassId × ClassId × ClassId × ClassId) (ad : Nat → Nat → Nat) (t : Nat × Nat) (aK aV : Nat → Nat) (o0 : Nat) (ho0 : o0 < 13) (σ : St) (post : Int32 → St → Prop) (h : wp_J0_length_8abf5 o0 post σ) : cI l D clA LC ad (EC q ad) (EvC D q ad t aK aV) yJ0_length_8abf5 cJ0_length_8abf5 1 (some .int) { frames := 1, cells := 0, slots := 0, locals := 40 } [.ref (aK o0)] σ post := by
  sorry
theorem mt_J0_charAt_5068e (l : Launch) (D : va_G) (q : ClassId × ClassId × ClassId × ClassId) (ad : Nat → Nat → Nat) (t : Nat × Nat) (aK aV : Nat → Nat) (o0 : Nat) (x1 : Int32) (ho0 : o0 < 13) (σ : St) (post : Int32 → St → Prop) (h : wp_J0_charAt_5068e o0 x1 post σ) : cI l D clA LC ad (EC q ad) (EvC D q ad t aK aV) yJ0_charAt_5068e cJ0_charAt_5068e 2 (some .char) { frames := 3, cells := 0, slots := 0, locals := 120 } [.ref (aK o0), .int x1] σ post := by
  sorry
