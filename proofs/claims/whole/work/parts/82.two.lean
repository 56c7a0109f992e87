/-! the cells that the constructors leave are the two worlds -/
set_option maxHeartbeats 4000000 in
set_option maxRecDepth 100000 in
theorem exC {q : ClassId × ClassId × ClassId × ClassId} {h : Nat} {u : Nat → Nat} : wX8 q h u = [(h, .inr (8, [.ref (u 0), .ref (u 15), .ref (u 21), .ref (u 23), .ref (u 28), .ref (u 37), .ref (u 39), .ref (u 43)])), (u 0, .inr (7, [.ref (u 1), .ref (u 2)])), (u 1, .inl (q.2.1, 4, .inr (.inr (.inr (.inr (va_up (va_up (va_up (va_up (fun _ => none) 0 (some (u 3))) 1 (some (u 6))) 2 (some (u 9))) 3 (some (u 12)))))))), (u 2, .inl (q.1, 10, .inl nmS)), (u 3, .inr (6, [.int 0, .int 0, .int 0, .int (-1), .int 0, .ref (u 4), .ref (u 5)])), (u 4, .inl (q.1, 4, .inl (fun _ => 0))), (u 5, .inl (q.1, 4, .inl (fun _ => 0))), (u 6, .inr (6, [.int 0, .int 0, .int 0, .int (-1), .int 0, .ref (u 7), .ref (u 8)])), (u 7, .inl (q.1, 4, .inl (fun _ => 0))), (u 8, .inl (q.1, 4, .inl (fun _ => 0))), (u 9, .inr (6, [.int 0, .int 0, .int 0, .int (-1), .int 0, .ref (u 10), .ref (u 11)])), (u 10, .inl (q.1, 4, .inl (fun _ => 0))), (u 11, .inl (q.1, 4, .inl (fun _ => 0))), (u 12, .inr (6, [.int 0, .int 0, .int 0, .int (-1), .int 0, .ref (u 13), .ref (u 14)])), (u 13, .inl (q.1, 4, .inl (fun _ => 0))), (u 14, .inl (q.1, 4, .inl (fun _ => 0))), (u 15, .inr (5, [.ref (u 16), .int 0, .int 0, .ref (u 17), .ref (u 18), .int 0, .ref (u 19), .ref (u 20), .int 0, .int 0, .int 0])), (u 16, .inl (q.1, 200, .inl (fun _ => 0))), (u 17, .inl (q.1, 8, .inl (fun _ => 0))), (u 18, .inl (q.1, 40, .inl (fun _ => 0))), (u 19, .inl (q.1, 8, .inl (fun _ => 0))), (u 20, .inl (q.1, 4, .inl (fun _ => 0))), (u 21, .inr (0, [.int (-1), .int 0, .int 0, .int 0, .int 0, .int 0, .ref (u 22)])), (u 22, .inl (q.1, 32, .inl (fun _ => 0))), (u 23, .inl (q.2.2.1, 2, .inr (.inr (.inr (.inr (va_up (va_up (fun _ => none) 0 (some (u 24))) 1 (some (u 26)))))))), (u 24, .inr (0, [.int (-1), .int 0, .int 0, .int 0, .int 0, .int 0, .ref (u 25)])), (u 25, .inl (q.1, 32, .inl (fun _ => 0))), (u 26, .inr (0, [.int (-1), .int 0, .int 0, .int 0, .int 0, .int 0, .ref (u 27)])), (u 27, .inl (q.1, 32, .inl (fun _ => 0))), (u 28, .inr (4, [.ref (u 29), .ref (u 30), .ref (u 32), .ref (u 34)])), (u 29, .inl (q.1, 10, .inl (fun _ => 0))), (u 30, .inr (0, [.int (-1), .int 0, .int 0, .int 0, .int 0, .int 0, .ref (u 31)])), (u 31, .inl (q.1, 32, .inl (fun _ => 0))), (u 32, .inr (0, [.int (-1), .int 0, .int 0, .int 0, .int 0, .int 0, .ref (u 33)])), (u 33, .inl (q.1, 32, .inl (fun _ => 0))), (u 34, .inr (6, [.int 0, .int 0, .int 0, .int (-1), .int 0, .ref (u 35), .ref (u 36)])), (u 35, .inl (q.1, 4, .inl (fun _ => 0))), (u 36, .inl (q.1, 4, .inl (fun _ => 0))), (u 37, .inr (1, [.int (-1), .ref (u 38)])), (u 38, .inl (q.1, 28, .inl (fun _ => 0))), (u 39, .inr (2, [.int 0, .int 0, .int (-1), .int (-1), .int (-1), .int 0, .int 0, .ref (u 40), .ref (u 41), .ref (u 42)])), (u 40, .inl (q.1, 25, .inl (fun _ => 0))), (u 41, .inl (q.1, 24, .inl (fun _ => 0))), (u 42, .inl (q.1, 10, .inl (fun _ => 0))), (u 43, .inr (3, [.ref (u 44), .ref (u 45), .ref (u 46), .ref (u 47), .ref (u 48), .int 0])), (u 44, .inl (q.1, 36, .inl (fun _ => 0))), (u 45, .inl (q.1, 36, .inl (fun _ => 0))), (u 46, .inl (q.1, 36, .inl (fun _ => 0))), (u 47, .inl (q.1, 36, .inl (fun _ => 0))), (u 48, .inl (q.1, 36, .inl (fun _ => 0)))] := by
  simp only [wX8, wX7, wX6, wX5, wX4, wX3, wX2, wX1, wX0, List.cons_append, List.nil_append]
set_option maxHeartbeats 4000000 in
set_option maxRecDepth 100000 in
theorem exM {q : ClassId × ClassId × ClassId × ClassId} {h2 : Nat} {u2 : Nat → Nat} : wX9 q h2 u2 = [(h2, .inr (9, [.ref (u2 0), .int 0, .ref (u2 1), .int 0, .ref (u2 2), .ref (u2 3), .ref (u2 4), .ref (u2 5), .int 10, .int 20, .int 1, .int 20, .int 0, .int 200, .int 20, .int 100, .int 0, .int 0, .int 0, .int 0, .int 0, .ref (u2 6), .ref (u2 7), .ref (u2 8), .ref (u2 9), .ref (u2 10), .ref (u2 11), .ref (u2 12), .int 0, .int 0, .int 0, .int 0, .int 0, .int 0, .int 0, .ref (u2 13), .ref (u2 14), .int 0, .ref (u2 15), .ref (u2 16), .ref (u2 17), .ref (u2 18)])), (u2 0, .inl (q.1, 200, .inl (fun _ => 0))), (u2 1, .inl (q.1, 48, .inl (fun _ => 0))), (u2 2, .inl (q.1, 4, .inl (fun _ => 0))), (u2 3, .inl (q.1, 4, .inl (fun _ => 0))), (u2 4, .inl (q.1, 4, .inl (fun _ => 0))), (u2 5, .inl (q.1, 32, .inl (fun _ => 0))), (u2 6, .inl (q.1, 4, .inl (fun _ => 0))), (u2 7, .inl (q.1, 2010, .inl (fun _ => 0))), (u2 8, .inl (q.1, 5, .inl (fun _ => 0))), (u2 9, .inl (q.1, 5, .inl (fun _ => 0))), (u2 10, .inl (q.1, 5, .inl (fun _ => 0))), (u2 11, .inl (q.1, 5, .inl (fun _ => 0))), (u2 12, .inl (q.1, 5, .inl (upd (upd (upd (fun _ => 0) 2 (-1)) 3 (-1)) 4 (-1)))), (u2 13, .inl (q.1, 25, .inl (fun _ => 0))), (u2 14, .inl (q.1, 25, .inl (fun _ => 0))), (u2 15, .inl (q.2.2.2, 28, .inl (fun _ => 0))), (u2 16, .inl (q.1, 36, .inl (fun _ => 0))), (u2 17, .inl (q.1, 36, .inl (fun _ => 0))), (u2 18, .inl (q.1, 36, .inl (fun _ => 0)))] := rfl
set_option maxHeartbeats 4000000 in
set_option maxRecDepth 100000 in
theorem worldC {D : va_G} {q : ClassId × ClassId × ClassId × ClassId} {H : Heap} {h : Nat} {u : Nat → Nat} (hP : va_P D clA (wX8 q h u) H) : va_P D clA (wz LC (adC0 h u) (EC q (adC0 h u) sg0)) H := by
  rw [exC] at hP
  have a0 := hP 0 _ rfl
  have a1 := hP 1 _ rfl
  have a2 := hP 2 _ rfl
  have a3 := hP 3 _ rfl
  have a4 := hP 4 _ rfl
  have a5 := hP 5 _ rfl
  have a6 := hP 6 _ rfl
  have a7 := hP 7 _ rfl
  have a8 := hP 8 _ rfl
  have a9 := hP 9 _ rfl
  have a10 := hP 10 _ rfl
  have a11 := hP 11 _ rfl
  have a12 := hP 12 _ rfl
  have a13 := hP 13 _ rfl
  have a14 := hP 14 _ rfl
  have a15 := hP 15 _ rfl
  have a16 := hP 16 _ rfl
  have a17 := hP 17 _ rfl
  have a18 := hP 18 _ rfl
  have a19 := hP 19 _ rfl
  have a20 := hP 20 _ rfl
  have a21 := hP 21 _ rfl
  have a22 := hP 22 _ rfl
  have a23 := hP 23 _ rfl
  have a24 := hP 24 _ rfl
  have a25 := hP 25 _ rfl
  have a26 := hP 26 _ rfl
  have a27 := hP 27 _ rfl
  have a28 := hP 28 _ rfl
  have a29 := hP 29 _ rfl
  have a30 := hP 30 _ rfl
  have a31 := hP 31 _ rfl
  have a32 := hP 32 _ rfl
  have a33 := hP 33 _ rfl
  have a34 := hP 34 _ rfl
  have a35 := hP 35 _ rfl
  have a36 := hP 36 _ rfl
  have a37 := hP 37 _ rfl
  have a38 := hP 38 _ rfl
  have a39 := hP 39 _ rfl
  have a40 := hP 40 _ rfl
  have a41 := hP 41 _ rfl
  have a42 := hP 42 _ rfl
  have a43 := hP 43 _ rfl
  have a44 := hP 44 _ rfl
  have a45 := hP 45 _ rfl
  have a46 := hP 46 _ rfl
  have a47 := hP 47 _ rfl
  have a48 := hP 48 _ rfl
  have a49 := hP 49 _ rfl
  have b2 := P_ref (k := 2) (g := fun i => some (adC0 h u 2 i)) hP rfl (fun i hi => by rcases (show i = 0 ∨ i = 1 ∨ i = 2 ∨ i = 3 by omega) with e | e | e | e <;> subst e <;> rfl) 2 _ rfl
  have b24 := P_ref (k := 24) (g := fun i => some (adC0 h u 13 (1 + i))) hP rfl (fun i hi => by rcases (show i = 0 ∨ i = 1 by omega) with e | e <;> subst e <;> rfl) 24 _ rfl
  clear hP
  exact P_all (List.forall_mem_cons.mpr ⟨a0, List.forall_mem_cons.mpr ⟨a1, List.forall_mem_cons.mpr ⟨a4, List.forall_mem_cons.mpr ⟨a7, List.forall_mem_cons.mpr ⟨a10, List.forall_mem_cons.mpr ⟨a13, List.forall_mem_cons.mpr ⟨a35, List.forall_mem_cons.mpr ⟨a5, List.forall_mem_cons.mpr ⟨a8, List.forall_mem_cons.mpr ⟨a11, List.forall_mem_cons.mpr ⟨a14, List.forall_mem_cons.mpr ⟨a36, List.forall_mem_cons.mpr ⟨a6, List.forall_mem_cons.mpr ⟨a9, List.forall_mem_cons.mpr ⟨a12, List.forall_mem_cons.mpr ⟨a15, List.forall_mem_cons.mpr ⟨a37, List.forall_mem_cons.mpr ⟨b2, List.forall_mem_cons.mpr ⟨a3, List.forall_mem_cons.mpr ⟨a30, List.forall_mem_cons.mpr ⟨a43, List.forall_mem_cons.mpr ⟨a16, List.forall_mem_cons.mpr ⟨a17, List.forall_mem_cons.mpr ⟨a18, List.forall_mem_cons.mpr ⟨a19, List.forall_mem_cons.mpr ⟨a20, List.forall_mem_cons.mpr ⟨a21, List.forall_mem_cons.mpr ⟨a22, List.forall_mem_cons.mpr ⟨a25, List.forall_mem_cons.mpr ⟨a27, List.forall_mem_cons.mpr ⟨a31, List.forall_mem_cons.mpr ⟨a33, List.forall_mem_cons.mpr ⟨a23, List.forall_mem_cons.mpr ⟨a26, List.forall_mem_cons.mpr ⟨a28, List.forall_mem_cons.mpr ⟨a32, List.forall_mem_cons.mpr ⟨a34, List.forall_mem_cons.mpr ⟨b24, List.forall_mem_cons.mpr ⟨a29, List.forall_mem_cons.mpr ⟨a38, List.forall_mem_cons.mpr ⟨a39, List.forall_mem_cons.mpr ⟨a40, List.forall_mem_cons.mpr ⟨a41, List.forall_mem_cons.mpr ⟨a42, List.forall_mem_cons.mpr ⟨a44, List.forall_mem_cons.mpr ⟨a45, List.forall_mem_cons.mpr ⟨a46, List.forall_mem_cons.mpr ⟨a47, List.forall_mem_cons.mpr ⟨a48, List.forall_mem_cons.mpr ⟨a49, fun _ h => absurd h List.not_mem_nil⟩⟩⟩⟩⟩⟩⟩⟩⟩⟩⟩⟩⟩⟩⟩⟩⟩⟩⟩⟩⟩⟩⟩⟩⟩⟩⟩⟩⟩⟩⟩⟩⟩⟩⟩⟩⟩⟩⟩⟩⟩⟩⟩⟩⟩⟩⟩⟩⟩⟩)
set_option maxHeartbeats 4000000 in
set_option maxRecDepth 100000 in
theorem worldM {D : va_G} {q : ClassId × ClassId × ClassId × ClassId} {H : Heap} {h2 : Nat} {u2 : Nat → Nat} (hP : va_P D clA (wX9 q h2 u2) H) : va_P D clA (wz LM (adM0 h2 u2) (EM q (adM0 h2 u2) mu0)) H := by
  rw [exM] at hP
  have a0 := hP 0 _ rfl
  have a1 := hP 1 _ rfl
  have a2 := hP 2 _ rfl
  have a3 := hP 3 _ rfl
  have a4 := hP 4 _ rfl
  have a5 := hP 5 _ rfl
  have a6 := hP 6 _ rfl
  have a7 := hP 7 _ rfl
  have a8 := hP 8 _ rfl
  have a9 := hP 9 _ rfl
  have a10 := hP 10 _ rfl
  have a11 := hP 11 _ rfl
  have a12 := hP 12 _ rfl
  have a13 := hP 13 _ rfl
  have a14 := hP 14 _ rfl
  have a15 := hP 15 _ rfl
  have a16 := hP 16 _ rfl
  have a17 := hP 17 _ rfl
  have a18 := hP 18 _ rfl
  have a19 := hP 19 _ rfl
  clear hP
  exact P_all (List.forall_mem_cons.mpr ⟨a0, List.forall_mem_cons.mpr ⟨a1, List.forall_mem_cons.mpr ⟨a2, List.forall_mem_cons.mpr ⟨a3, List.forall_mem_cons.mpr ⟨a4, List.forall_mem_cons.mpr ⟨a5, List.forall_mem_cons.mpr ⟨a6, List.forall_mem_cons.mpr ⟨a7, List.forall_mem_cons.mpr ⟨a8, List.forall_mem_cons.mpr ⟨a9, List.forall_mem_cons.mpr ⟨a10, List.forall_mem_cons.mpr ⟨a11, List.forall_mem_cons.mpr ⟨a12, List.forall_mem_cons.mpr ⟨a13, List.forall_mem_cons.mpr ⟨a14, List.forall_mem_cons.mpr ⟨a15, List.forall_mem_cons.mpr ⟨a16, List.forall_mem_cons.mpr ⟨a17, List.forall_mem_cons.mpr ⟨a18, List.forall_mem_cons.mpr ⟨a19, fun _ h => absurd h List.not_mem_nil⟩⟩⟩⟩⟩⟩⟩⟩⟩⟩⟩⟩⟩⟩⟩⟩⟩⟩⟩⟩)
set_option maxHeartbeats 4000000 in
set_option maxRecDepth 100000 in
theorem adrC {q : ClassId × ClassId × ClassId × ClassId} {h : Nat} {u : Nat → Nat} : (wX8 q h u).map Prod.fst = [h, u 0, u 1, u 2, u 3, u 4, u 5, u 6, u 7, u 8, u 9, u 10, u 11, u 12, u 13, u 14, u 15, u 16, u 17, u 18, u 19, u 20, u 21, u 22, u 23, u 24, u 25, u 26, u 27, u 28, u 29, u 30, u 31, u 32, u 33, u 34, u 35, u 36, u 37, u 38, u 39, u 40, u 41, u 42, u 43, u 44, u 45, u 46, u 47, u 48] := by
  rw [exC]
  rfl
set_option maxHeartbeats 4000000 in
set_option maxRecDepth 100000 in
theorem adrM {q : ClassId × ClassId × ClassId × ClassId} {h2 : Nat} {u2 : Nat → Nat} : (wX9 q h2 u2).map Prod.fst = [h2, u2 0, u2 1, u2 2, u2 3, u2 4, u2 5, u2 6, u2 7, u2 8, u2 9, u2 10, u2 11, u2 12, u2 13, u2 14, u2 15, u2 16, u2 17, u2 18] := by
  rw [exM]
  rfl
theorem D_adr {A : Nat → Prop} {ws ws' : va_W} (hD : va_D A ws) (is : List Nat) (hn : is.Nodup) (h : is.map (fun i => (ws.map Prod.fst)[i]?) = (ws'.map Prod.fst).map some) : va_D A ws' := by
  refine D_perm hD is hn (fun k x hx => ?_)
  have h1 : ((ws'.map Prod.fst).map some)[k]? = some (some x.1) := by rw [List.getElem?_map, List.getElem?_map, hx]; rfl
  rw [← h, List.getElem?_map] at h1
  cases hi : is[k]? with
  | none => rw [hi] at h1; cases h1
  | some i =>
    rw [hi] at h1
    have h2 : (ws.map Prod.fst)[i]? = some x.1 := Option.some.inj h1
    rw [List.getElem?_map] at h2
    cases hy : ws[i]? with
    | none => rw [hy] at h2; cases h2
    | some y =>
      rw [hy] at h2
      exact ⟨i, y, rfl, hy, Option.some.inj h2⟩
theorem wz_adr {L : List (Nat × Nat)} {ad : Nat → Nat → Nat} {e : Nat → Nat → va_E} : (wz L ad e).map Prod.fst = L.map (fun y => ad y.1 y.2) := by
  unfold wz
  rw [List.map_map]
  rfl
set_option maxHeartbeats 4000000 in
set_option maxRecDepth 100000 in
theorem worldsD {q : ClassId × ClassId × ClassId × ClassId} {A : Nat → Prop} {h h2 : Nat} {u u2 : Nat → Nat} (hD : va_D A (wX8 q h u ++ wX9 q h2 u2)) : va_D A (wz LC (adC0 h u) (fun _ _ => .inr (0, [])) ++ wz LM (adM0 h2 u2) (fun _ _ => .inr (0, []))) := by
  refine D_adr hD [0, 1, 4, 7, 10, 13, 35, 5, 8, 11, 14, 36, 6, 9, 12, 15, 37, 2, 3, 30, 43, 16, 17, 18, 19, 20, 21, 22, 25, 27, 31, 33, 23, 26, 28, 32, 34, 24, 29, 38, 39, 40, 41, 42, 44, 45, 46, 47, 48, 49, 50, 51, 52, 53, 54, 55, 56, 57, 58, 59, 60, 61, 62, 63, 64, 65, 66, 67, 68, 69] (by decide) ?_
  rw [List.map_append, List.map_append, adrC, adrM, wz_adr, wz_adr]
  rfl
theorem two_worlds {D : va_G} {q : ClassId × ClassId × ClassId × ClassId} {A : Nat → Prop} {H : Heap} {h h2 : Nat} {u u2 : Nat → Nat} (hP : va_P D clA (([] ++ wX8 q h u) ++ wX9 q h2 u2) H) (hD : va_D A (([] ++ wX8 q h u) ++ wX9 q h2 u2)) : va_P D clA (wz LC (adC0 h u) (EC q (adC0 h u) sg0)) H ∧ va_P D clA (wz LM (adM0 h2 u2) (EM q (adM0 h2 u2) mu0)) H ∧ va_D A (wz LC (adC0 h u) (fun _ _ => .inr (0, [])) ++ wz LM (adM0 h2 u2) (fun _ _ => .inr (0, []))) := by
  rw [List.nil_append] at hP hD
  refine ⟨worldC (fun k x hx => hP k x ?_), worldM (fun k x hx => hP ((wX8 q h u).length + k) x ?_), worldsD hD⟩
  · rw [List.getElem?_append_left (List.getElem?_eq_some_iff.mp hx).1]
    exact hx
  · rw [List.getElem?_append_right (Nat.le_add_right _ _), Nat.add_sub_cancel_left]
    exact hx
