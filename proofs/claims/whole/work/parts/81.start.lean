/-! THE START: what the Statement gives; two new objects; the loop -/
def adC0 (h : Nat) (u : Nat → Nat) : Nat → Nat → Nat := fun c o => match c with
  | 0 => h
  | 1 => u 0
  | 2 => (match o with
    | 0 => u 3
    | 1 => u 6
    | 2 => u 9
    | 3 => u 12
    | 4 => u 34
    | _ => 0)
  | 3 => (match o with
    | 0 => u 4
    | 1 => u 7
    | 2 => u 10
    | 3 => u 13
    | 4 => u 35
    | _ => 0)
  | 4 => (match o with
    | 0 => u 5
    | 1 => u 8
    | 2 => u 11
    | 3 => u 14
    | 4 => u 36
    | _ => 0)
  | 5 => u 1
  | 6 => (match o with
    | 0 => u 2
    | 1 => u 29
    | 2 => u 42
    | _ => 0)
  | 7 => u 15
  | 8 => u 16
  | 9 => u 17
  | 10 => u 18
  | 11 => u 19
  | 12 => u 20
  | 13 => (match o with
    | 0 => u 21
    | 1 => u 24
    | 2 => u 26
    | 3 => u 30
    | 4 => u 32
    | _ => 0)
  | 14 => (match o with
    | 0 => u 22
    | 1 => u 25
    | 2 => u 27
    | 3 => u 31
    | 4 => u 33
    | _ => 0)
  | 15 => u 23
  | 16 => u 28
  | 17 => u 37
  | 18 => u 38
  | 19 => u 39
  | 20 => u 40
  | 21 => u 41
  | 22 => u 43
  | 23 => u 44
  | 24 => u 45
  | 25 => u 46
  | 26 => u 47
  | 27 => u 48
  | _ => 0
def adM0 (h : Nat) (u : Nat → Nat) : Nat → Nat → Nat := fun c _ => match c with
  | 0 => h
  | k + 1 => u k
def sg0 : St := fun c o k => match c with
  | 2 => (match k with
    | 3 => -1
    | _ => 0)
  | 6 => (match o with
    | 0 => nmS k
    | _ => 0)
  | 13 => (match k with
    | 0 => -1
    | _ => 0)
  | 17 => (match k with
    | 0 => -1
    | _ => 0)
  | 19 => (match k with
    | 2 => -1
    | 3 => -1
    | 4 => -1
    | _ => 0)
  | _ => 0
def mu0 : St := fun c _ k => match c with
  | 0 => (match k with
    | 8 => 10
    | 9 => 20
    | 10 => 1
    | 11 => 20
    | 13 => 200
    | 14 => 20
    | 15 => 100
    | _ => 0)
  | 13 => upd (upd (upd (fun _ => 0) 2 (-1)) 3 (-1)) 4 (-1) k
  | _ => 0
theorem inv0 : Inv sg0 mu0 := by
  have n1 : ∀ k, k < 10 → mu0 0 0 (8 + k) = nmS k := by decide
  have n2 : NB nmS := by unfold NB; decide
  have n3 : nmS 2 = nI 1 := by decide
  have kb : ∀ o r, mu0 13 0 r = -1 → KB sg0 mu0 o r := fun o r h => ⟨0, (fun _ => 0, 0, 0, 0), by decide, ⟨rfl, rfl, rfl, rfl, rfl, fun _ _ _ => rfl⟩, ⟨rfl, rfl, rfl, rfl, fun _ _ => rfl⟩, fun j hj => absurd hj (Nat.not_lt_zero j), h.symm, Or.inl rfl⟩
  refine ⟨⟨nmS, 1, fun _ => (0, 0, 0, fun _ => 0, fun _ => 0), fun _ => 0, 0, fun _ => 0, fun _ => 0, fun _ _ => rfl, ⟨n1, n3, by decide, n2⟩, fun t ht => ?_, fun t ht => ?_, ⟨rfl, by decide, fun i hi => absurd hi (Nat.not_lt_zero i)⟩, ⟨rfl, by decide, fun i hi => absurd hi (Nat.not_lt_zero i)⟩, fun c hc => ⟨rfl, rfl, Nat.zero_le _⟩, fun c hc => ⟨rfl, rfl, Nat.zero_le _⟩, rfl, rfl⟩, ⟨kb 0 2 (by decide), kb 1 3 (by decide), kb 2 4 (by decide)⟩, 0, fun _ => 0, fun _ => 0, by decide, rfl, rfl, fun t ht => absurd ht (Nat.not_lt_zero t)⟩
  · exact ⟨rfl, rfl, Nat.zero_le _, rfl, Nat.zero_le _, fun i hi => absurd hi (Nat.not_lt_zero i), rfl, fun i hi => absurd hi (Nat.not_lt_zero i), rfl⟩
  · exact ⟨rfl, rfl, rfl, Nat.zero_le _, rfl, Nat.zero_le _, fun i hi => absurd hi (Nat.not_lt_zero i), fun i hi => absurd hi (Nat.not_lt_zero i)⟩
theorem P_ref {D : va_G} {cl : List vw_C} {ws : va_W} {H : Heap} {k a n : Nat} {cA : ClassId} {f g : Nat → Option Nat} (hP : va_P D cl ws H) (hk : ws[k]? = some (a, .inl (cA, n, .inr (.inr (.inr (.inr f)))))) (h : ∀ i, i < n → f i = g i) : va_P D cl (ws.set k (a, .inl (cA, n, .inr (.inr (.inr (.inr g)))))) H := by
  intro j x hx
  by_cases e : j = k
  · subst e
    rw [List.getElem?_set_self (List.getElem?_eq_some_iff.mp hk).1] at hx
    have := Option.some.inj hx
    subst this
    have h1 : H[a]? = some (vp_cell cA (n, .inr (.inr (.inr (.inr f))))) := hP j _ hk
    have e1 : (fun j : Fin n => va_rf (f j.val)) = fun j : Fin n => va_rf (g j.val) := funext (fun j => by rw [h j.val j.isLt])
    have e2 : vp_cell cA (n, .inr (.inr (.inr (.inr f)))) = vp_cell cA (n, .inr (.inr (.inr (.inr g)))) := congrArg (fun z : Fin n → Value => ({ cls := cA, slots := Array.ofFn z, vm := .none } : Cell)) e1
    show H[a]? = some (vp_cell cA (n, .inr (.inr (.inr (.inr g)))))
    rw [h1, e2]
  · rw [List.getElem?_set_ne (Ne.symm e)] at hx
    exact hP j x hx
theorem D_perm {A : Nat → Prop} {ws ws' : va_W} (hD : va_D A ws) (is : List Nat) (hn : is.Nodup) (key : ∀ (k : Nat) (x : Nat × va_E), ws'[k]? = some x → ∃ (i : Nat) (y : Nat × va_E), is[k]? = some i ∧ ws[i]? = some y ∧ y.1 = x.1) : va_D A ws' := by
  refine ⟨fun i j x y hx hy hxy => ?_, fun k x hx => ?_⟩
  · obtain ⟨a, x0, a1, a2, a3⟩ := key i x hx
    obtain ⟨b, y0, b1, b2, b3⟩ := key j y hy
    have e := hD.1 a b x0 y0 a2 b2 (by rw [a3, b3, hxy])
    subst e
    exact (List.getElem?_inj (List.getElem?_eq_some_iff.mp a1).1 hn).mp (a1.trans b1.symm)
  · obtain ⟨a, x0, a1, a2, a3⟩ := key k x hx
    rw [← a3]
    exact hD.2 a x0 a2
theorem P_all {D : va_G} {cl : List vw_C} {L : List (Nat × Nat)} {ad : Nat → Nat → Nat} {e : Nat → Nat → va_E} {H : Heap} (h : ∀ y ∈ L, va_at D cl (ad y.1 y.2, e y.1 y.2) H) : va_P D cl (wz L ad e) H := by
  intro k x hx
  unfold wz at hx
  rw [List.getElem?_map] at hx
  cases hq : L[k]? with
  | none => rw [hq] at hx; cases hx
  | some y =>
    rw [hq] at hx
    have := Option.some.inj hx
    rw [← this]
    exact h y (List.mem_of_getElem? hq)
theorem xof {args : Array Value} {s : State} {tm : Term} {N : Nat} {f : Nat → Int32} (hN : N < 2 ^ 31) (harr : (Cond.arrayOf tm .int).before args s = true) (hlen : (Term.length tm).eval args s none [] s = some (.int (Int32.ofNat N))) (hel : ∀ j : Nat, j < N → (Term.elem tm (.int (Int32.ofNat j))).eval args s none [] s = some (.int (f j))) : ∃ t : Nat, tm.eval args s none [] s = some (.ref t) ∧ va_X t N f s s.heap ∧ t < s.heap.size := by
  obtain ⟨t, ht, cell, h1, h2, h3, h4, h5, h6, -⟩ := va_Tof (A := fun _ => False) (f := fun j => .int (f j)) hN harr hlen hel (fun _ _ z => z)
  obtain ⟨t', cell', ht', hat, hv⟩ := Term.length_spec hlen
  cases ht.symm.trans ht'
  obtain ⟨hc', -, -, -⟩ := State.arrayAt?_spec hat
  cases h1.symm.trans hc'
  have hsz : cell.slots.size < 2 ^ 31 := by
    simp only [Term.eval, ht, hat, Option.bind_eq_bind, Option.bind_some] at hlen
    by_cases hlt : cell.slots.size < 2147483648
    · exact hlt
    · simp [hlt] at hlen
  have hs : cell.slots.size = N := by
    have e : nI cell.slots.size = nI N := h5
    exact (nI_eq hsz hN).mp e
  exact ⟨t, ht, ⟨cell, h1, h2, h3, hs, h6⟩, (Array.getElem?_eq_some_iff.mp h1).1⟩
section START
variable {p : Program} {s : State} {m : MethodId} {c : Code} {b : Nat}
theorem st_K (S : CallFix p m c code 4 s #[Value.ref b] GW "OnChinLaw") (hts : ∀ w ∈ lw_tbl, w.before #[Value.ref b] s = true) : ∃ (D : va_G) (q : ClassId × ClassId × ClassId × ClassId), va_K D clA (tyA q) s ∧ va_AO "OnChin$Thing" s ∧ va_AO "OnChin$Balance" s := by
  have h : ∀ k : Nat, ∃ z : ClassId × (Nat → Nat), ∀ r : vw_C, clA[k]? = some r → u_Kn s r.1 r.2.1 r.2.2 z.1 z.2 := by
    intro k
    match k with
    | 0 =>
      obtain ⟨c0, i0, hk⟩ := u_known (n := 7) S.2.2.2.2 ug_X0 (gw_S S _ ci_X0)
      exact ⟨(c0, i0), fun r hr => by cases hr; exact hk⟩
    | 1 =>
      obtain ⟨c0, i0, hk⟩ := u_known (n := 2) S.2.2.2.2 ug_X1 (gw_S S _ ci_X1)
      exact ⟨(c0, i0), fun r hr => by cases hr; exact hk⟩
    | 2 =>
      obtain ⟨c0, i0, hk⟩ := u_known (n := 10) S.2.2.2.2 ug_X2 (gw_S S _ ci_X2)
      exact ⟨(c0, i0), fun r hr => by cases hr; exact hk⟩
    | 3 =>
      obtain ⟨c0, i0, hk⟩ := u_known (n := 6) S.2.2.2.2 ug_X3 (gw_S S _ ci_X3)
      exact ⟨(c0, i0), fun r hr => by cases hr; exact hk⟩
    | 4 =>
      obtain ⟨c0, i0, hk⟩ := u_known (n := 4) S.2.2.2.2 ug_X4 (gw_S S _ ci_X4)
      exact ⟨(c0, i0), fun r hr => by cases hr; exact hk⟩
    | 5 =>
      obtain ⟨c0, i0, hk⟩ := u_known (n := 11) S.2.2.2.2 ug_X5 (gw_S S _ ci_X5)
      exact ⟨(c0, i0), fun r hr => by cases hr; exact hk⟩
    | 6 =>
      obtain ⟨c0, i0, hk⟩ := u_known (n := 7) S.2.2.2.2 ug_X6 (gw_S S _ ci_X6)
      exact ⟨(c0, i0), fun r hr => by cases hr; exact hk⟩
    | 7 =>
      obtain ⟨c0, i0, hk⟩ := u_known (n := 2) S.2.2.2.2 ug_X7 (gw_S S _ ci_X7)
      exact ⟨(c0, i0), fun r hr => by cases hr; exact hk⟩
    | 8 =>
      obtain ⟨c0, i0, hk⟩ := u_known (n := 8) S.2.2.2.2 ug_X8 (gw_S S _ ci_X8)
      exact ⟨(c0, i0), fun r hr => by cases hr; exact hk⟩
    | 9 =>
      obtain ⟨c0, i0, hk⟩ := u_known (n := 42) S.2.2.2.2 ug_X9 (gw_S S _ ci_X9)
      exact ⟨(c0, i0), fun r hr => by cases hr; exact hk⟩
    | k + 10 => exact ⟨(0, fun _ => 0), fun r hr => by simp [clA] at hr⟩
  obtain ⟨f, hf⟩ := Classical.axiomOfChoice h
  obtain ⟨c1, k1, p1, a1, a2, a3⟩ := Cond.arrayClass_spec (gw_S S _ wa_int)
  obtain ⟨c4, k4, p4, d1, d2, d3⟩ := Cond.arrayClass_spec (gw_S S _ wa_bool)
  have ht := hts (Cond.arrayOver (.object "OnChin$Thing")) (List.mem_append_right _ (List.mem_of_getElem? (i := 32) (by decide +kernel)))
  have hb := hts (Cond.arrayOver (.object "OnChin$Balance")) (List.mem_append_right _ (List.mem_of_getElem? (i := 164) (by decide +kernel)))
  obtain ⟨p2, c2, k2, b1, -, b3, b4, b5⟩ := Cond.arrayOver_spec ht
  obtain ⟨p3, c3, k3, e1, -, e3, e4, e5⟩ := Cond.arrayOver_spec hb
  refine ⟨(fun k => (f k).1, fun k => (f k).2), (c1, c2, c3, c4), ⟨fun k r hr => hf k r hr, fun k r hr => ?_⟩, va_AO.of ht, va_AO.of hb⟩
  match k with
  | 0 => cases hr; exact ⟨fun n z => ⟨fun k h => (by cases h), k1, a2, p1, a3⟩, a1⟩
  | 1 => cases hr; exact ⟨fun n z => ⟨fun k h => (by cases h), k2, b3, p2, b4⟩, k2, p2, b3, b4, b1, b5⟩
  | 2 => cases hr; exact ⟨fun n z => ⟨fun k h => (by cases h), k3, e3, p3, e4⟩, k3, p3, e3, e4, e1, e5⟩
  | 3 => cases hr; exact ⟨fun n z => ⟨fun k h => (by cases h), k4, d2, p4, d3⟩, d1⟩
  | k + 4 => simp [tyA] at hr
theorem st_links (hts : ∀ w ∈ lw_tbl, w.before #[Value.ref b] s = true) : (∀ x ∈ nmC, va_Nw (.methodLinkNest x.1 x.2.1 x.2.2.1 x.2.2.2) s) ∧ ∀ x ∈ nfC, va_Nw (.fieldLinkNest x.1 x.2.1 x.2.2.1 x.2.2.2.1 x.2.2.2.2.1 x.2.2.2.2.2) s := by
  have h1 : ∀ x ∈ nmC, Cond.methodLinkNest x.1 x.2.1 x.2.2.1 x.2.2.2 ∈ tables_1 := by decide +kernel
  have h2 : ∀ x ∈ nfC, Cond.fieldLinkNest x.1 x.2.1 x.2.2.1 x.2.2.2.1 x.2.2.2.2.1 x.2.2.2.2.2 ∈ tables_1 := by decide +kernel
  exact ⟨fun x hx => va_Nw.of rfl (hts _ (List.mem_append_right _ (h1 x hx))), fun x hx => va_Nw.of rfl (hts _ (List.mem_append_right _ (h2 x hx)))⟩
set_option maxRecDepth 100000 in
theorem st_flat : (∀ j, j < 10 → Cond.eq (.elem (.static "OnChin" "LEAST" "[I") (.int (Int32.ofNat j))) (.int (tLeast.getD j 0)) ∈ flatC (Jvm.Cond.and given_1 narrow_1)) ∧ (∀ j, j < 10 → Cond.eq (.elem (.static "OnChin" "MOST" "[I") (.int (Int32.ofNat j))) (.int (tMost.getD j 0)) ∈ flatC (Jvm.Cond.and given_1 narrow_1)) ∧ (∀ j, j < 10 → Cond.eq (.elem (.static "OnChin" "AT_FIRST" "[I") (.int (Int32.ofNat j))) (.int (tFirst.getD j 0)) ∈ flatC (Jvm.Cond.and given_1 narrow_1)) := by decide +kernel
theorem st_statics (hts : ∀ w ∈ lw_tbl, w.before #[Value.ref b] s = true) (hgv : (Jvm.Cond.and given_1 narrow_1).before #[Value.ref b] s = true) : ∃ (t : Nat × Nat) (tF : Nat), (va_Z "OnChin" "LEAST" "[I" (.ref t.1) (fun x => s.heap.size ≤ x) s s.heap ∧ va_T .int t.1 10 (fun j => .int (tLeast.getD j 0)) (fun x => s.heap.size ≤ x) s s.heap) ∧ (va_Z "OnChin" "MOST" "[I" (.ref t.2) (fun x => s.heap.size ≤ x) s s.heap ∧ va_T .int t.2 10 (fun j => .int (tMost.getD j 0)) (fun x => s.heap.size ≤ x) s s.heap) ∧ (va_Z "java/lang/String" "COMPACT_STRINGS" "Z" (.int 1) (fun x => s.heap.size ≤ x) s s.heap ∧ va_Zq "jdk/internal/util/Preconditions" "SIOOBE_FORMATTER" "Ljava/util/function/BiFunction;" (fun x => s.heap.size ≤ x) s s.heap) ∧ va_Z "OnChin" "AT_FIRST" "[I" (.ref tF) (fun x => s.heap.size ≤ x) s s.heap ∧ va_X tF 10 (fun j => tFirst.getD j 0) s s.heap ∧ tF < s.heap.size := by
  have hs := flat_of_before _ hgv
  have hA : ∀ a : Nat, a < s.heap.size → ¬ (fun x => s.heap.size ≤ x) a := fun a ha => Nat.not_le.mpr ha
  have i8 := hts (Cond.initialized "OnChin") (List.mem_append_right _ (List.mem_of_getElem? (i := 1) (by decide +kernel)))
  obtain ⟨f1, f2, f3⟩ := st_flat
  obtain ⟨t1, e1, T1⟩ := va_Tof (tm := .static "OnChin" "LEAST" "[I") (ty := .int) (N := 10) (f := fun j => .int (tLeast.getD j 0)) (by decide) (hs _ (by decide +kernel)) (va_eqt (z := 10) (hs _ (by decide +kernel))) (fun j hj => va_eqt (hs _ (f1 j hj))) hA
  obtain ⟨t2, e2, T2⟩ := va_Tof (tm := .static "OnChin" "MOST" "[I") (ty := .int) (N := 10) (f := fun j => .int (tMost.getD j 0)) (by decide) (hs _ (by decide +kernel)) (va_eqt (z := 10) (hs _ (by decide +kernel))) (fun j hj => va_eqt (hs _ (f2 j hj))) hA
  obtain ⟨t3, e3, X3, l3⟩ := xof (tm := .static "OnChin" "AT_FIRST" "[I") (N := 10) (f := fun j => tFirst.getD j 0) (by decide) (hs _ (by decide +kernel)) (va_eqt (z := 10) (hs _ (by decide +kernel))) (fun j hj => va_eqt (hs _ (f3 j hj)))
  refine ⟨(t1, t2), t3, ⟨va_Zof (hts (Cond.laysStatic "OnChin" "LEAST" "[I") (List.mem_append_right _ (List.mem_of_getElem? (i := 438) (by decide +kernel)))) i8 e1 hA, T1⟩, ⟨va_Zof (hts (Cond.laysStatic "OnChin" "MOST" "[I") (List.mem_append_right _ (List.mem_of_getElem? (i := 440) (by decide +kernel)))) i8 e2 hA, T2⟩, ⟨va_Zof (hts (Cond.laysStatic "java/lang/String" "COMPACT_STRINGS" "Z") (List.mem_append_right _ (List.mem_of_getElem? (i := 355) (by decide +kernel)))) (hts (Cond.initialized "java/lang/String") (List.mem_append_right _ (List.mem_of_getElem? (i := 13) (by decide +kernel)))) (va_eqt (z := 1) (hs _ (by decide +kernel))) hA, va_Zqof (hts (Cond.laysStatic "jdk/internal/util/Preconditions" "SIOOBE_FORMATTER" "Ljava/util/function/BiFunction;") (List.mem_append_right _ (List.mem_of_getElem? (i := 371) (by decide +kernel)))) (hts (Cond.initialized "jdk/internal/util/Preconditions") (List.mem_append_right _ (List.mem_of_getElem? (i := 15) (by decide +kernel)))) (hs _ (by decide +kernel)) hA⟩, va_Zof (hts (Cond.laysStatic "OnChin" "AT_FIRST" "[I") (List.mem_append_right _ (List.mem_of_getElem? (i := 71) (by decide +kernel)))) i8 e3 hA, X3, l3⟩
set_option maxRecDepth 100000 in
theorem st_flat2 : (∀ i, i < 13 → Cond.exactly (.string "OnChin$Text" (sIx.getD i 0)) "java/lang/String" ∈ flatC (Jvm.Cond.and given_1 narrow_1)) ∧ (∀ i, i < 13 → Cond.eq (.field (.string "OnChin$Text" (sIx.getD i 0)) "java/lang/String" "coder" "B") (.int 0) ∈ flatC (Jvm.Cond.and given_1 narrow_1)) ∧ (∀ i, i < 13 → Cond.arrayOf (.field (.string "OnChin$Text" (sIx.getD i 0)) "java/lang/String" "value" "[B") .byte ∈ flatC (Jvm.Cond.and given_1 narrow_1)) ∧ (∀ i, i < 13 → Cond.eq (.length (.field (.string "OnChin$Text" (sIx.getD i 0)) "java/lang/String" "value" "[B")) (.int (Int32.ofNat (sLen.getD i 0))) ∈ flatC (Jvm.Cond.and given_1 narrow_1)) := by decide +kernel
set_option maxRecDepth 100000 in
theorem st_flat3 : ∀ i, i < 13 → ∀ j, j < sLen.getD i 0 → Cond.eq (.elem (.field (.string "OnChin$Text" (sIx.getD i 0)) "java/lang/String" "value" "[B") (.int (Int32.ofNat j))) (.int ((sByt.getD i []).getD j 0)) ∈ flatC (Jvm.Cond.and given_1 narrow_1) := by decide +kernel

set_option maxRecDepth 100000 in
theorem st_ne0 : ∀ j, j < 13 → 0 < j → Cond.not (Cond.eq (.string "OnChin$Text" (sIx.getD 0 0)) (.string "OnChin$Text" (sIx.getD j 0))) ∈ flatC (Jvm.Cond.and given_1 narrow_1) := by decide +kernel
set_option maxRecDepth 100000 in
theorem st_ne1 : ∀ j, j < 13 → 1 < j → Cond.not (Cond.eq (.string "OnChin$Text" (sIx.getD 1 0)) (.string "OnChin$Text" (sIx.getD j 0))) ∈ flatC (Jvm.Cond.and given_1 narrow_1) := by decide +kernel
set_option maxRecDepth 100000 in
theorem st_ne2 : ∀ j, j < 13 → 2 < j → Cond.not (Cond.eq (.string "OnChin$Text" (sIx.getD 2 0)) (.string "OnChin$Text" (sIx.getD j 0))) ∈ flatC (Jvm.Cond.and given_1 narrow_1) := by decide +kernel
set_option maxRecDepth 100000 in
theorem st_ne3 : ∀ j, j < 13 → 3 < j → Cond.not (Cond.eq (.string "OnChin$Text" (sIx.getD 3 0)) (.string "OnChin$Text" (sIx.getD j 0))) ∈ flatC (Jvm.Cond.and given_1 narrow_1) := by decide +kernel
set_option maxRecDepth 100000 in
theorem st_ne4 : ∀ j, j < 13 → 4 < j → Cond.not (Cond.eq (.string "OnChin$Text" (sIx.getD 4 0)) (.string "OnChin$Text" (sIx.getD j 0))) ∈ flatC (Jvm.Cond.and given_1 narrow_1) := by decide +kernel
set_option maxRecDepth 100000 in
theorem st_ne5 : ∀ j, j < 13 → 5 < j → Cond.not (Cond.eq (.string "OnChin$Text" (sIx.getD 5 0)) (.string "OnChin$Text" (sIx.getD j 0))) ∈ flatC (Jvm.Cond.and given_1 narrow_1) := by decide +kernel
set_option maxRecDepth 100000 in
theorem st_ne6 : ∀ j, j < 13 → 6 < j → Cond.not (Cond.eq (.string "OnChin$Text" (sIx.getD 6 0)) (.string "OnChin$Text" (sIx.getD j 0))) ∈ flatC (Jvm.Cond.and given_1 narrow_1) := by decide +kernel
set_option maxRecDepth 100000 in
theorem st_ne7 : ∀ j, j < 13 → 7 < j → Cond.not (Cond.eq (.string "OnChin$Text" (sIx.getD 7 0)) (.string "OnChin$Text" (sIx.getD j 0))) ∈ flatC (Jvm.Cond.and given_1 narrow_1) := by decide +kernel
set_option maxRecDepth 100000 in
theorem st_ne8 : ∀ j, j < 13 → 8 < j → Cond.not (Cond.eq (.string "OnChin$Text" (sIx.getD 8 0)) (.string "OnChin$Text" (sIx.getD j 0))) ∈ flatC (Jvm.Cond.and given_1 narrow_1) := by decide +kernel
set_option maxRecDepth 100000 in
theorem st_ne9 : ∀ j, j < 13 → 9 < j → Cond.not (Cond.eq (.string "OnChin$Text" (sIx.getD 9 0)) (.string "OnChin$Text" (sIx.getD j 0))) ∈ flatC (Jvm.Cond.and given_1 narrow_1) := by decide +kernel
set_option maxRecDepth 100000 in
theorem st_ne10 : ∀ j, j < 13 → 10 < j → Cond.not (Cond.eq (.string "OnChin$Text" (sIx.getD 10 0)) (.string "OnChin$Text" (sIx.getD j 0))) ∈ flatC (Jvm.Cond.and given_1 narrow_1) := by decide +kernel
set_option maxRecDepth 100000 in
theorem st_ne11 : ∀ j, j < 13 → 11 < j → Cond.not (Cond.eq (.string "OnChin$Text" (sIx.getD 11 0)) (.string "OnChin$Text" (sIx.getD j 0))) ∈ flatC (Jvm.Cond.and given_1 narrow_1) := by decide +kernel
theorem st_lt : ∀ i, i < 13 → ∀ j, j < 13 → i < j → Cond.not (Cond.eq (.string "OnChin$Text" (sIx.getD i 0)) (.string "OnChin$Text" (sIx.getD j 0))) ∈ flatC (Jvm.Cond.and given_1 narrow_1) := by
  intro i hi j hj hij
  match i with
  | 0 => exact st_ne0 j hj hij
  | 1 => exact st_ne1 j hj hij
  | 2 => exact st_ne2 j hj hij
  | 3 => exact st_ne3 j hj hij
  | 4 => exact st_ne4 j hj hij
  | 5 => exact st_ne5 j hj hij
  | 6 => exact st_ne6 j hj hij
  | 7 => exact st_ne7 j hj hij
  | 8 => exact st_ne8 j hj hij
  | 9 => exact st_ne9 j hj hij
  | 10 => exact st_ne10 j hj hij
  | 11 => exact st_ne11 j hj hij
  | k + 12 => omega
set_option maxRecDepth 100000 in
theorem st_refs : ∀ i, i < 13 → Cond.stringRef "OnChin$Text" (sIx.getD i 0) (sTx.getD i "") ∈ tables_1 := by decide +kernel
theorem st_texts (hts : ∀ w ∈ lw_tbl, w.before #[Value.ref b] s = true) (hgv : (Jvm.Cond.and given_1 narrow_1).before #[Value.ref b] s = true) : ∃ aK aV : Nat → Nat, vk_S 13 sLen sByt aK aV (fun x => s.heap.size ≤ x) s s.heap ∧ ∀ i, i < 13 → vk_R "OnChin$Text" (sIx.getD i 0) (sTx.getD i "") (aK i) s := by
  have hs := flat_of_before _ hgv
  have hA : ∀ a : Nat, a < s.heap.size → ¬ (fun x => s.heap.size ≤ x) a := fun a ha => Nat.not_le.mpr ha
  obtain ⟨f1, f2, f3, f4⟩ := st_flat2
  have hl : ∀ i, i < 13 → sLen.getD i 0 < 2 ^ 31 := by decide
  obtain ⟨aK, aV, h1, h2⟩ := vk_Sof (N := 13) (tm := fun i => .string "OnChin$Text" (sIx.getD i 0)) (len := sLen) (byt := sByt) (A := fun x => s.heap.size ≤ x) hl (fun i hi => hs _ (f1 i hi)) (fun i hi => hs _ (f2 i hi)) (fun i hi => hs _ (f3 i hi)) (fun i hi => hs _ (f4 i hi)) (fun i hi j hj => hs _ (st_flat3 i hi j hj)) (fun i j hi hj hij => (Nat.lt_or_gt_of_ne hij).elim (fun z => Or.inl (hs _ (st_lt i hi j hj z))) (fun z => Or.inr (hs _ (st_lt j hj i hi z)))) hA
  exact ⟨aK, aV, h1, fun i hi => vk_R.of (hts _ (List.mem_append_right _ (st_refs i hi))) (h2 i hi)⟩
end START
