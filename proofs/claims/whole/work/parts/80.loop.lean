/-! the law's loop -/
section LOOP
variable {p : Program} {l : Launch} {e : Env} {s : State} {m : MethodId} {below : List Frame} {meth : Method} {c : Code} {b L : Nat} {xs : Nat → Int32} {D : va_G} {q : ClassId × ClassId × ClassId × ClassId} {adC adM : Nat → Nat → Nat} {t : Nat × Nat} {aK aV : Nat → Nat}
set_option maxHeartbeats 4000000 in
set_option maxRecDepth 100000 in
theorem law_loop (C : LWC p s m meth c b L xs D q adC adM t aK aV) : ∀ (n i : Nat) (σ μ : St) (H : Heap) (locs : List Loc) (ls : Array Slot), L ≤ i + n → i ≤ L + 7 → LWS D q adC adM s H locs σ μ → Inv σ μ → lv_has ls 4 [(0, .ref b), (1, .ref (adC 0 0)), (2, .ref (adM 0 0)), (3, .int (nI i))] → W p l e room_1 s m #[Value.ref b] below meth c H locs 70 3425 (lw_Z below #[Value.ref b] s) (F0 m 18 ls []) := by
  have S := C.1
  have hx := S.1
  have hb := S.2.1
  obtain ⟨-, VC, VM, ⟨z1, z2, z3⟩, ⟨hX, hbl, hL⟩, hr, hlocks⟩ := id C
  have e7 : ∀ i, i ≤ L + 7 → (nI L - 7 < nI i ↔ L < i + 7) := by
    intro i hi
    have q1 : (nI L).toInt = L := nI_toInt (by omega)
    have q2 : (nI i).toInt = i := nI_toInt (by omega)
    have q3 : (7 : Int32).toInt = 7 := by decide
    rw [fa_lt, i_sub (by omega) (by omega), q1, q2, q3]
    omega
  intro n
  induction n with
  | zero =>
    intro i σ μ H locs ls hn hi hw hI hl
    refine lv_iload_n hx hb dL_law_18 rfl (lv_at hl 3 rfl) ?_
    refine lv_aload_n hx hb dL_law_19 rfl (lv_at hl 0 rfl) ?_
    refine va_slen hx hb hX hbl (Nat.not_le.mpr hbl) hw.2.2 dL_law_20 ?_
    refine lv_bipush (v := 7) hx hb dL_law_21 (by decide) ?_
    refine lv_isub hx hb dL_law_23 ?_
    refine lv_icmp_gt (tgt := 1060) hx hb dL_law_24 (by decide) (fun _ => ?_) (fun hc => absurd ((e7 i hi).mpr (by omega)) hc)
    refine lv_iconst (v := 1) hx hb dL_law_1060 (by decide) ?_
    refine va_forget hw.2.2.2.2 ?_
    refine W.widen (k := 600000) (n := 7302250) (Nat.le_of_ble_eq_true rfl) (Nat.le_of_ble_eq_true rfl) ?_
    exact lw_ret hx hb hr hlocks dL_law_1061
  | succ n ih =>
    intro i σ μ H locs ls hn hi hw hI hl
    refine lv_iload_n hx hb dL_law_18 rfl (lv_at hl 3 rfl) ?_
    refine lv_aload_n hx hb dL_law_19 rfl (lv_at hl 0 rfl) ?_
    refine va_slen hx hb hX hbl (Nat.not_le.mpr hbl) hw.2.2 dL_law_20 ?_
    refine lv_bipush (v := 7) hx hb dL_law_21 (by decide) ?_
    refine lv_isub hx hb dL_law_23 ?_
    refine lv_icmp_gt (tgt := 1060) hx hb dL_law_24 (by decide) (fun _ => ?_) (fun hc => ?_)
    · refine lv_iconst (v := 1) hx hb dL_law_1060 (by decide) ?_
      refine va_forget hw.2.2.2.2 ?_
      refine W.widen (k := 600000) (n := 7302250) (Nat.le_of_ble_eq_true rfl) (Nat.le_of_ble_eq_true rfl) ?_
      exact lw_ret hx hb hr hlocks dL_law_1061
    · have hi7 : i + 7 ≤ L := by
        rcases Nat.lt_or_ge L (i + 7) with y | y
        · exact absurd ((e7 i hi).mpr y) hc
        · exact y
      have kk : ∀ (σ' μ' : St) (H' : Heap) (locs' : List Loc), LWS D q adC adM s H' locs' σ' μ' → Inv σ' μ' → W p l e room_1 s m #[Value.ref b] below meth c H' locs' 70 3425 (lw_Z below #[Value.ref b] s) (F0 m 1054 ls []) := by
        intro σ' μ' H' locs' hw' hI'
        refine lv_iinc (v := nI (i + 7)) (lv' := [(3, .int (nI (i + 7))), (0, .ref b), (1, .ref (adC 0 0)), (2, .ref (adM 0 0))]) hx hb dL_law_1054 hl (k := 3) rfl (nI_add i 7) (by decide) rfl (fun ls hl => ?_)
        refine lv_goto (tgt := 18) hx hb dL_law_1057 (by decide) ?_
        exact ih (i + 7) σ' μ' H' locs' ls (by omega) (by omega) hw' hI' (lv_sub hl [1, 2, 3, 0] rfl)
      refine lv_aload_n hx hb dL_law_27 rfl (lv_at hl 0 rfl) ?_
      refine lv_iload_n hx hb dL_law_28 rfl (lv_at hl 3 rfl) ?_
      refine va_sld hx hb hX hbl (Nat.not_le.mpr hbl) hw.2.2 (vp_in_nI (by omega) (by omega)) dL_law_29 ?_
      refine lv_bipush (v := 31) hx hb dL_law_30 (by decide) ?_
      refine lv_iand hx hb dL_law_32 ?_
      generalize xs (nI i).toNatClampNeg &&& 31 = z
      by_cases hc0 : z = 0
      · refine lv_tableIn (tgt := 152) hx hb dL_law_33 (by rw [hc0]; decide) (by rw [hc0]; decide) (by rw [hc0]; rfl) (by decide) ?_
        exact law_0 C hw hI hl hi7 kk
      by_cases hc1 : z = 1
      · refine lv_tableIn (tgt := 215) hx hb dL_law_33 (by rw [hc1]; decide) (by rw [hc1]; decide) (by rw [hc1]; rfl) (by decide) ?_
        exact law_1 C hw hI hl hi7 kk
      by_cases hc2 : z = 2
      · refine lv_tableIn (tgt := 228) hx hb dL_law_33 (by rw [hc2]; decide) (by rw [hc2]; decide) (by rw [hc2]; rfl) (by decide) ?_
        exact law_2 C hw hI hl hi7 kk
      by_cases hc3 : z = 3
      · refine lv_tableIn (tgt := 241) hx hb dL_law_33 (by rw [hc3]; decide) (by rw [hc3]; decide) (by rw [hc3]; rfl) (by decide) ?_
        exact law_3 C hw hI hl hi7 kk
      by_cases hc4 : z = 4
      · refine lv_tableIn (tgt := 254) hx hb dL_law_33 (by rw [hc4]; decide) (by rw [hc4]; decide) (by rw [hc4]; rfl) (by decide) ?_
        exact law_4 C hw hI hl hi7 kk
      by_cases hc5 : z = 5
      · refine lv_tableIn (tgt := 287) hx hb dL_law_33 (by rw [hc5]; decide) (by rw [hc5]; decide) (by rw [hc5]; rfl) (by decide) ?_
        exact law_5 C hw hI hl hi7 kk
      by_cases hc6 : z = 6
      · refine lv_tableIn (tgt := 330) hx hb dL_law_33 (by rw [hc6]; decide) (by rw [hc6]; decide) (by rw [hc6]; rfl) (by decide) ?_
        exact law_6 C hw hI hl hi7 kk
      by_cases hc7 : z = 7
      · refine lv_tableIn (tgt := 373) hx hb dL_law_33 (by rw [hc7]; decide) (by rw [hc7]; decide) (by rw [hc7]; rfl) (by decide) ?_
        exact law_7 C hw hI hl hi7 kk
      by_cases hc8 : z = 8
      · refine lv_tableIn (tgt := 396) hx hb dL_law_33 (by rw [hc8]; decide) (by rw [hc8]; decide) (by rw [hc8]; rfl) (by decide) ?_
        exact law_8 C hw hI hl hi7 kk
      by_cases hc9 : z = 9
      · refine lv_tableIn (tgt := 419) hx hb dL_law_33 (by rw [hc9]; decide) (by rw [hc9]; decide) (by rw [hc9]; rfl) (by decide) ?_
        exact law_9 C hw hI hl hi7 kk
      by_cases hc10 : z = 10
      · refine lv_tableIn (tgt := 442) hx hb dL_law_33 (by rw [hc10]; decide) (by rw [hc10]; decide) (by rw [hc10]; rfl) (by decide) ?_
        exact law_10 C hw hI hl hi7 kk
      by_cases hc11 : z = 11
      · refine lv_tableIn (tgt := 465) hx hb dL_law_33 (by rw [hc11]; decide) (by rw [hc11]; decide) (by rw [hc11]; rfl) (by decide) ?_
        exact law_11 C hw hI hl hi7 kk
      by_cases hc12 : z = 12
      · refine lv_tableIn (tgt := 508) hx hb dL_law_33 (by rw [hc12]; decide) (by rw [hc12]; decide) (by rw [hc12]; rfl) (by decide) ?_
        exact law_12 C hw hI hl hi7 kk
      by_cases hc13 : z = 13
      · refine lv_tableIn (tgt := 541) hx hb dL_law_33 (by rw [hc13]; decide) (by rw [hc13]; decide) (by rw [hc13]; rfl) (by decide) ?_
        exact law_13 C hw hI hl hi7 kk
      by_cases hc14 : z = 14
      · refine lv_tableIn (tgt := 564) hx hb dL_law_33 (by rw [hc14]; decide) (by rw [hc14]; decide) (by rw [hc14]; rfl) (by decide) ?_
        exact law_14 C hw hI hl hi7 kk
      by_cases hc15 : z = 15
      · refine lv_tableIn (tgt := 607) hx hb dL_law_33 (by rw [hc15]; decide) (by rw [hc15]; decide) (by rw [hc15]; rfl) (by decide) ?_
        exact law_15 C hw hI hl hi7 kk
      by_cases hc16 : z = 16
      · refine lv_tableIn (tgt := 682) hx hb dL_law_33 (by rw [hc16]; decide) (by rw [hc16]; decide) (by rw [hc16]; rfl) (by decide) ?_
        exact law_16 C hw hI hl hi7 kk
      by_cases hc17 : z = 17
      · refine lv_tableIn (tgt := 715) hx hb dL_law_33 (by rw [hc17]; decide) (by rw [hc17]; decide) (by rw [hc17]; rfl) (by decide) ?_
        exact law_17 C hw hI hl hi7 kk
      by_cases hc18 : z = 18
      · refine lv_tableIn (tgt := 790) hx hb dL_law_33 (by rw [hc18]; decide) (by rw [hc18]; decide) (by rw [hc18]; rfl) (by decide) ?_
        exact law_18 C hw hI hl hi7 kk
      by_cases hc19 : z = 19
      · refine lv_tableIn (tgt := 823) hx hb dL_law_33 (by rw [hc19]; decide) (by rw [hc19]; decide) (by rw [hc19]; rfl) (by decide) ?_
        exact law_19 C hw hI hl hi7 kk
      by_cases hc20 : z = 20
      · refine lv_tableIn (tgt := 836) hx hb dL_law_33 (by rw [hc20]; decide) (by rw [hc20]; decide) (by rw [hc20]; rfl) (by decide) ?_
        exact law_20 C hw hI hl hi7 kk
      by_cases hc21 : z = 21
      · refine lv_tableIn (tgt := 859) hx hb dL_law_33 (by rw [hc21]; decide) (by rw [hc21]; decide) (by rw [hc21]; rfl) (by decide) ?_
        exact law_21 C hw hI hl hi7 kk
      by_cases hc22 : z = 22
      · refine lv_tableIn (tgt := 892) hx hb dL_law_33 (by rw [hc22]; decide) (by rw [hc22]; decide) (by rw [hc22]; rfl) (by decide) ?_
        exact law_22 C hw hI hl hi7 kk
      by_cases hc23 : z = 23
      · refine lv_tableIn (tgt := 925) hx hb dL_law_33 (by rw [hc23]; decide) (by rw [hc23]; decide) (by rw [hc23]; rfl) (by decide) ?_
        exact law_23 C hw hI hl hi7 kk
      by_cases hc24 : z = 24
      · refine lv_tableIn (tgt := 968) hx hb dL_law_33 (by rw [hc24]; decide) (by rw [hc24]; decide) (by rw [hc24]; rfl) (by decide) ?_
        exact law_24 C hw hI hl hi7 kk
      by_cases hc25 : z = 25
      · refine lv_tableIn (tgt := 1031) hx hb dL_law_33 (by rw [hc25]; decide) (by rw [hc25]; decide) (by rw [hc25]; rfl) (by decide) ?_
        exact law_25 C hw hI hl hi7 kk
      refine lv_tableOut (tgt := 1054) hx hb dL_law_33 (by have e0 := lv_neT (k := 0) (a := 0) hc0 rfl; have e1 := lv_neT (k := 1) (a := 1) hc1 rfl; have e2 := lv_neT (k := 2) (a := 2) hc2 rfl; have e3 := lv_neT (k := 3) (a := 3) hc3 rfl; have e4 := lv_neT (k := 4) (a := 4) hc4 rfl; have e5 := lv_neT (k := 5) (a := 5) hc5 rfl; have e6 := lv_neT (k := 6) (a := 6) hc6 rfl; have e7 := lv_neT (k := 7) (a := 7) hc7 rfl; have e8 := lv_neT (k := 8) (a := 8) hc8 rfl; have e9 := lv_neT (k := 9) (a := 9) hc9 rfl; have e10 := lv_neT (k := 10) (a := 10) hc10 rfl; have e11 := lv_neT (k := 11) (a := 11) hc11 rfl; have e12 := lv_neT (k := 12) (a := 12) hc12 rfl; have e13 := lv_neT (k := 13) (a := 13) hc13 rfl; have e14 := lv_neT (k := 14) (a := 14) hc14 rfl; have e15 := lv_neT (k := 15) (a := 15) hc15 rfl; have e16 := lv_neT (k := 16) (a := 16) hc16 rfl; have e17 := lv_neT (k := 17) (a := 17) hc17 rfl; have e18 := lv_neT (k := 18) (a := 18) hc18 rfl; have e19 := lv_neT (k := 19) (a := 19) hc19 rfl; have e20 := lv_neT (k := 20) (a := 20) hc20 rfl; have e21 := lv_neT (k := 21) (a := 21) hc21 rfl; have e22 := lv_neT (k := 22) (a := 22) hc22 rfl; have e23 := lv_neT (k := 23) (a := 23) hc23 rfl; have e24 := lv_neT (k := 24) (a := 24) hc24 rfl; have e25 := lv_neT (k := 25) (a := 25) hc25 rfl; omega) (by decide) ?_
      exact kk σ μ H locs hw hI
end LOOP
