/-! words of the tables by their places; printed by wip/whole/gen/gen.py -/
/-! from the entry: classes, arrays, tables; printed by wip/whole/gen/start.py -/
theorem lw_nest {s : State} {b : Nat} (hts : ∀ w ∈ lw_tbl, w.before #[Value.ref b] s = true) : zNe s := by
  refine ⟨fun q hq => ?_, fun q hq => ?_, ?_, ?_⟩
  · exact va_Nw.of rfl (hts _ (of_decide_eq_true (List.all_eq_true.mp (show znF.all (fun q => decide (Cond.fieldLinkNest q.1 q.2.1 q.2.2.1 q.2.2.2.1 q.2.2.2.2.1 q.2.2.2.2.2 ∈ lw_tbl)) = true by decide +kernel) q hq)))
  · exact va_Nw.of rfl (hts _ (of_decide_eq_true (List.all_eq_true.mp (show znM.all (fun q => decide (Cond.methodLinkNest q.1 q.2.1 q.2.2.1 q.2.2.2 ∈ lw_tbl)) = true by decide +kernel) q hq)))
  · exact va_AO.of (hts (.arrayOver (.object "CallExplorer$Entry")) (by decide +kernel))
  · exact va_Nw.of rfl (hts (.castable "[I" "java/lang/Cloneable") (by decide +kernel))
set_option maxRecDepth 100000 in
theorem lw_tab_zt1 {s : State} {b : Nat} (hts : ∀ w ∈ lw_tbl, w.before #[Value.ref b] s = true) (hgv : (Jvm.Cond.and given_1 narrow_1).before #[Value.ref b] s = true) : zTb "FIRST_ROLES" zt1 (lA s) s s.heap := by
  have hs := flat_of_before _ hgv
  have hA : ∀ a : Nat, a < s.heap.size → ¬ lA s a := fun a h => Nat.not_le.mpr h
  have e0 := va_eqt (hs (Cond.eq (.elem (Term.static "CallExplorer" "FIRST_ROLES" "[I") (.int 0)) (.int 0)) (by decide +kernel))
  have e1 := va_eqt (hs (Cond.eq (.elem (Term.static "CallExplorer" "FIRST_ROLES" "[I") (.int 1)) (.int 2)) (by decide +kernel))
  have e2 := va_eqt (hs (Cond.eq (.elem (Term.static "CallExplorer" "FIRST_ROLES" "[I") (.int 2)) (.int 1)) (by decide +kernel))
  have e3 := va_eqt (hs (Cond.eq (.elem (Term.static "CallExplorer" "FIRST_ROLES" "[I") (.int 3)) (.int 1)) (by decide +kernel))
  have e4 := va_eqt (hs (Cond.eq (.elem (Term.static "CallExplorer" "FIRST_ROLES" "[I") (.int 4)) (.int 1)) (by decide +kernel))
  have e5 := va_eqt (hs (Cond.eq (.elem (Term.static "CallExplorer" "FIRST_ROLES" "[I") (.int 5)) (.int 1)) (by decide +kernel))
  have e6 := va_eqt (hs (Cond.eq (.elem (Term.static "CallExplorer" "FIRST_ROLES" "[I") (.int 6)) (.int 1)) (by decide +kernel))
  have e7 := va_eqt (hs (Cond.eq (.elem (Term.static "CallExplorer" "FIRST_ROLES" "[I") (.int 7)) (.int 1)) (by decide +kernel))
  have e8 := va_eqt (hs (Cond.eq (.elem (Term.static "CallExplorer" "FIRST_ROLES" "[I") (.int 8)) (.int 1)) (by decide +kernel))
  have e9 := va_eqt (hs (Cond.eq (.elem (Term.static "CallExplorer" "FIRST_ROLES" "[I") (.int 9)) (.int 1)) (by decide +kernel))
  obtain ⟨t, ht, hT⟩ := va_Tof (N := 10) (f := fun j => .int (zt1 j)) (by decide) (hs (Cond.arrayOf (Term.static "CallExplorer" "FIRST_ROLES" "[I") .int) (by decide +kernel)) (va_eqt (hs (Cond.eq (.length (Term.static "CallExplorer" "FIRST_ROLES" "[I")) (.int 10)) (by decide +kernel))) (fun j hj => by
    rcases (show j = 0 ∨ j = 1 ∨ j = 2 ∨ j = 3 ∨ j = 4 ∨ j = 5 ∨ j = 6 ∨ j = 7 ∨ j = 8 ∨ j = 9 by omega) with rfl | rfl | rfl | rfl | rfl | rfl | rfl | rfl | rfl | rfl
    · exact e0
    · exact e1
    · exact e2
    · exact e3
    · exact e4
    · exact e5
    · exact e6
    · exact e7
    · exact e8
    · exact e9) hA
  exact ⟨t, va_Zref (hts (.laysStatic "CallExplorer" "FIRST_ROLES" "[I") (by decide +kernel)) (hts (.initialized "CallExplorer") (by decide +kernel)) ht hA, hT⟩
set_option maxRecDepth 100000 in
theorem lw_tab_zt2 {s : State} {b : Nat} (hts : ∀ w ∈ lw_tbl, w.before #[Value.ref b] s = true) (hgv : (Jvm.Cond.and given_1 narrow_1).before #[Value.ref b] s = true) : zTb "SECOND_ROLES" zt2 (lA s) s s.heap := by
  have hs := flat_of_before _ hgv
  have hA : ∀ a : Nat, a < s.heap.size → ¬ lA s a := fun a h => Nat.not_le.mpr h
  have e0 := va_eqt (hs (Cond.eq (.elem (Term.static "CallExplorer" "SECOND_ROLES" "[I") (.int 0)) (.int (-1))) (by decide +kernel))
  have e1 := va_eqt (hs (Cond.eq (.elem (Term.static "CallExplorer" "SECOND_ROLES" "[I") (.int 1)) (.int (-1))) (by decide +kernel))
  have e2 := va_eqt (hs (Cond.eq (.elem (Term.static "CallExplorer" "SECOND_ROLES" "[I") (.int 2)) (.int (-1))) (by decide +kernel))
  have e3 := va_eqt (hs (Cond.eq (.elem (Term.static "CallExplorer" "SECOND_ROLES" "[I") (.int 3)) (.int 0)) (by decide +kernel))
  have e4 := va_eqt (hs (Cond.eq (.elem (Term.static "CallExplorer" "SECOND_ROLES" "[I") (.int 4)) (.int 2)) (by decide +kernel))
  have e5 := va_eqt (hs (Cond.eq (.elem (Term.static "CallExplorer" "SECOND_ROLES" "[I") (.int 5)) (.int (-1))) (by decide +kernel))
  have e6 := va_eqt (hs (Cond.eq (.elem (Term.static "CallExplorer" "SECOND_ROLES" "[I") (.int 6)) (.int 0)) (by decide +kernel))
  have e7 := va_eqt (hs (Cond.eq (.elem (Term.static "CallExplorer" "SECOND_ROLES" "[I") (.int 7)) (.int (-1))) (by decide +kernel))
  have e8 := va_eqt (hs (Cond.eq (.elem (Term.static "CallExplorer" "SECOND_ROLES" "[I") (.int 8)) (.int (-1))) (by decide +kernel))
  have e9 := va_eqt (hs (Cond.eq (.elem (Term.static "CallExplorer" "SECOND_ROLES" "[I") (.int 9)) (.int 2)) (by decide +kernel))
  obtain ⟨t, ht, hT⟩ := va_Tof (N := 10) (f := fun j => .int (zt2 j)) (by decide) (hs (Cond.arrayOf (Term.static "CallExplorer" "SECOND_ROLES" "[I") .int) (by decide +kernel)) (va_eqt (hs (Cond.eq (.length (Term.static "CallExplorer" "SECOND_ROLES" "[I")) (.int 10)) (by decide +kernel))) (fun j hj => by
    rcases (show j = 0 ∨ j = 1 ∨ j = 2 ∨ j = 3 ∨ j = 4 ∨ j = 5 ∨ j = 6 ∨ j = 7 ∨ j = 8 ∨ j = 9 by omega) with rfl | rfl | rfl | rfl | rfl | rfl | rfl | rfl | rfl | rfl
    · exact e0
    · exact e1
    · exact e2
    · exact e3
    · exact e4
    · exact e5
    · exact e6
    · exact e7
    · exact e8
    · exact e9) hA
  exact ⟨t, va_Zref (hts (.laysStatic "CallExplorer" "SECOND_ROLES" "[I") (by decide +kernel)) (hts (.initialized "CallExplorer") (by decide +kernel)) ht hA, hT⟩
set_option maxRecDepth 100000 in
theorem lw_tab_zt3 {s : State} {b : Nat} (hts : ∀ w ∈ lw_tbl, w.before #[Value.ref b] s = true) (hgv : (Jvm.Cond.and given_1 narrow_1).before #[Value.ref b] s = true) : zTb "RESULT_ROLES" zt3 (lA s) s s.heap := by
  have hs := flat_of_before _ hgv
  have hA : ∀ a : Nat, a < s.heap.size → ¬ lA s a := fun a h => Nat.not_le.mpr h
  have e0 := va_eqt (hs (Cond.eq (.elem (Term.static "CallExplorer" "RESULT_ROLES" "[I") (.int 0)) (.int 1)) (by decide +kernel))
  have e1 := va_eqt (hs (Cond.eq (.elem (Term.static "CallExplorer" "RESULT_ROLES" "[I") (.int 1)) (.int 1)) (by decide +kernel))
  have e2 := va_eqt (hs (Cond.eq (.elem (Term.static "CallExplorer" "RESULT_ROLES" "[I") (.int 2)) (.int 0)) (by decide +kernel))
  have e3 := va_eqt (hs (Cond.eq (.elem (Term.static "CallExplorer" "RESULT_ROLES" "[I") (.int 3)) (.int 1)) (by decide +kernel))
  have e4 := va_eqt (hs (Cond.eq (.elem (Term.static "CallExplorer" "RESULT_ROLES" "[I") (.int 4)) (.int 1)) (by decide +kernel))
  have e5 := va_eqt (hs (Cond.eq (.elem (Term.static "CallExplorer" "RESULT_ROLES" "[I") (.int 5)) (.int 2)) (by decide +kernel))
  have e6 := va_eqt (hs (Cond.eq (.elem (Term.static "CallExplorer" "RESULT_ROLES" "[I") (.int 6)) (.int 0)) (by decide +kernel))
  have e7 := va_eqt (hs (Cond.eq (.elem (Term.static "CallExplorer" "RESULT_ROLES" "[I") (.int 7)) (.int 0)) (by decide +kernel))
  have e8 := va_eqt (hs (Cond.eq (.elem (Term.static "CallExplorer" "RESULT_ROLES" "[I") (.int 8)) (.int 0)) (by decide +kernel))
  have e9 := va_eqt (hs (Cond.eq (.elem (Term.static "CallExplorer" "RESULT_ROLES" "[I") (.int 9)) (.int 0)) (by decide +kernel))
  obtain ⟨t, ht, hT⟩ := va_Tof (N := 10) (f := fun j => .int (zt3 j)) (by decide) (hs (Cond.arrayOf (Term.static "CallExplorer" "RESULT_ROLES" "[I") .int) (by decide +kernel)) (va_eqt (hs (Cond.eq (.length (Term.static "CallExplorer" "RESULT_ROLES" "[I")) (.int 10)) (by decide +kernel))) (fun j hj => by
    rcases (show j = 0 ∨ j = 1 ∨ j = 2 ∨ j = 3 ∨ j = 4 ∨ j = 5 ∨ j = 6 ∨ j = 7 ∨ j = 8 ∨ j = 9 by omega) with rfl | rfl | rfl | rfl | rfl | rfl | rfl | rfl | rfl | rfl
    · exact e0
    · exact e1
    · exact e2
    · exact e3
    · exact e4
    · exact e5
    · exact e6
    · exact e7
    · exact e8
    · exact e9) hA
  exact ⟨t, va_Zref (hts (.laysStatic "CallExplorer" "RESULT_ROLES" "[I") (by decide +kernel)) (hts (.initialized "CallExplorer") (by decide +kernel)) ht hA, hT⟩
set_option maxRecDepth 100000 in
theorem lw_tab_zt4 {s : State} {b : Nat} (hts : ∀ w ∈ lw_tbl, w.before #[Value.ref b] s = true) (hgv : (Jvm.Cond.and given_1 narrow_1).before #[Value.ref b] s = true) : zTb "TENS" zt4 (lA s) s s.heap := by
  have hs := flat_of_before _ hgv
  have hA : ∀ a : Nat, a < s.heap.size → ¬ lA s a := fun a h => Nat.not_le.mpr h
  have e0 := va_eqt (hs (Cond.eq (.elem (Term.static "CallExplorer" "TENS" "[I") (.int 0)) (.int 1000000000)) (by decide +kernel))
  have e1 := va_eqt (hs (Cond.eq (.elem (Term.static "CallExplorer" "TENS" "[I") (.int 1)) (.int 100000000)) (by decide +kernel))
  have e2 := va_eqt (hs (Cond.eq (.elem (Term.static "CallExplorer" "TENS" "[I") (.int 2)) (.int 10000000)) (by decide +kernel))
  have e3 := va_eqt (hs (Cond.eq (.elem (Term.static "CallExplorer" "TENS" "[I") (.int 3)) (.int 1000000)) (by decide +kernel))
  have e4 := va_eqt (hs (Cond.eq (.elem (Term.static "CallExplorer" "TENS" "[I") (.int 4)) (.int 100000)) (by decide +kernel))
  have e5 := va_eqt (hs (Cond.eq (.elem (Term.static "CallExplorer" "TENS" "[I") (.int 5)) (.int 10000)) (by decide +kernel))
  have e6 := va_eqt (hs (Cond.eq (.elem (Term.static "CallExplorer" "TENS" "[I") (.int 6)) (.int 1000)) (by decide +kernel))
  have e7 := va_eqt (hs (Cond.eq (.elem (Term.static "CallExplorer" "TENS" "[I") (.int 7)) (.int 100)) (by decide +kernel))
  have e8 := va_eqt (hs (Cond.eq (.elem (Term.static "CallExplorer" "TENS" "[I") (.int 8)) (.int 10)) (by decide +kernel))
  have e9 := va_eqt (hs (Cond.eq (.elem (Term.static "CallExplorer" "TENS" "[I") (.int 9)) (.int 1)) (by decide +kernel))
  obtain ⟨t, ht, hT⟩ := va_Tof (N := 10) (f := fun j => .int (zt4 j)) (by decide) (hs (Cond.arrayOf (Term.static "CallExplorer" "TENS" "[I") .int) (by decide +kernel)) (va_eqt (hs (Cond.eq (.length (Term.static "CallExplorer" "TENS" "[I")) (.int 10)) (by decide +kernel))) (fun j hj => by
    rcases (show j = 0 ∨ j = 1 ∨ j = 2 ∨ j = 3 ∨ j = 4 ∨ j = 5 ∨ j = 6 ∨ j = 7 ∨ j = 8 ∨ j = 9 by omega) with rfl | rfl | rfl | rfl | rfl | rfl | rfl | rfl | rfl | rfl
    · exact e0
    · exact e1
    · exact e2
    · exact e3
    · exact e4
    · exact e5
    · exact e6
    · exact e7
    · exact e8
    · exact e9) hA
  exact ⟨t, va_Zref (hts (.laysStatic "CallExplorer" "TENS" "[I") (by decide +kernel)) (hts (.initialized "CallExplorer") (by decide +kernel)) ht hA, hT⟩
set_option maxHeartbeats 4000000 in
set_option maxRecDepth 100000 in
theorem whole_of (Rl : Nat → (Nat → Nat) → zM → zM → Prop) (H_init : ∀ x : Int32, Rl 0 (fun _ => 0) (zh0 x) (mg0 x)) (H_type : ∀ (n : Nat) (ln : Nat → Nat) (h g : zM) (a0 : Int32) (a1 : Int32) (a2 : Int32), Rl n ln h g → wpTop_type n ln a0 a1 a2 h (fun r h1 => wpMod_type a0 a1 a2 g (fun r1 g1 => r = r1 ∧ Rl n ln h1 g1))) (H_operation : ∀ (n : Nat) (ln : Nat → Nat) (h g : zM) (a0 : Int32) (a1 : Int32) (a2 : Int32), Rl n ln h g → wpTop_operation n ln a0 a1 a2 h (fun r h1 => wpMod_operation a0 a1 a2 g (fun r1 g1 => r = r1 ∧ Rl n ln h1 g1))) (H_literal : ∀ (n : Nat) (ln : Nat → Nat) (h g : zM) (a0 : Int32), Rl n ln h g → wpTop_literal n ln a0 h (fun r h1 => wpMod_literal a0 g (fun r1 g1 => r = r1 ∧ Rl n ln h1 g1))) (H_step : ∀ (n : Nat) (ln : Nat → Nat) (h g : zM), Rl n ln h g → wpTop_step n ln  h (fun r n1 ln1 h1 => wpMod_step  g (fun r1 g1 => r = r1 ∧ Rl n1 ln1 h1 g1))) (H_seek : ∀ (n : Nat) (ln : Nat → Nat) (h g : zM) (a0 : Int32), Rl n ln h g → wpTop_seek n ln a0 h (fun r n1 ln1 h1 => wpMod_seek a0 g (fun r1 g1 => r = r1 ∧ Rl n1 ln1 h1 g1))) (H_shorten : ∀ (n : Nat) (ln : Nat → Nat) (h g : zM) (a0 : Int32), Rl n ln h g → wpTop_shorten n ln a0 h (fun r h1 => wpMod_shorten a0 g (fun r1 g1 => r = r1 ∧ Rl n ln h1 g1))) (H_entries : ∀ (n : Nat) (ln : Nat → Nat) (h g : zM), Rl n ln h g → wpTop_entries n ln  h (fun r h1 => wpMod_entries  g (fun r1 g1 => r = r1 ∧ Rl n ln h1 g1))) (H_entry : ∀ (n : Nat) (ln : Nat → Nat) (h g : zM) (a0 : Int32) (a1 : Int32), Rl n ln h g → wpTop_entry n ln a0 a1 h (fun r h1 => wpMod_entry a0 a1 g (fun r1 g1 => r = r1 ∧ Rl n ln h1 g1))) (H_statement : ∀ (n : Nat) (ln : Nat → Nat) (h g : zM) (a0 : Int32) (a1 : Int32) (a2 : Int32), Rl n ln h g → wpTop_statement n ln a0 a1 a2 h (fun r h1 => wpMod_statement a0 a1 a2 g (fun r1 g1 => r = r1 ∧ Rl n ln h1 g1))) (H_text : ∀ (n : Nat) (ln : Nat → Nat) (h g : zM) (a0 : Int32) (a1 : Int32), Rl n ln h g → wpTop_text n ln a0 a1 h (fun r h1 => wpMod_text a0 a1 g (fun r1 g1 => r = r1 ∧ Rl n ln h1 g1))) (H_draft : ∀ (n : Nat) (ln : Nat → Nat) (h g : zM) (a0 : Int64), Rl n ln h g → wpTop_draft n ln a0 h (fun r h1 => wpMod_draft a0 g (fun r1 g1 => r = r1 ∧ Rl n ln h1 g1))) (H_replay : ∀ (n : Nat) (ln : Nat → Nat) (h g : zM), Rl n ln h g → wpTop_replay n ln  h (fun r h1 => wpMod_replay  g (fun r1 g1 => r = r1 ∧ Rl n ln h1 g1))) (H_state : ∀ (n : Nat) (ln : Nat → Nat) (h g : zM), Rl n ln h g → wpTop_state n ln  h (fun r h1 => wpMod_state  g (fun r1 g1 => r = r1 ∧ Rl n ln h1 g1))) {p : Program} {e : Env} {s : State} {m : MethodId} {below : List Frame} {meth : Method} {c : Code} (l : Launch) {b L : Nat} {xs : Nat → Int32} (hL : L ≤ 2049) (C0 : lw_At p s m meth c b L xs) : W p l e room_1 s m #[Value.ref b] below meth c s.heap [] 0 0 (lw_Z below #[Value.ref b] s) (entryFrame m ([Value.ref b] : List Value).toArray 4) := by
  have hts := C0.2.2.2.2.2.1
  have hgv := C0.2.2.2.2.2.2.2.2.2
  obtain ⟨c0, i0, k0⟩ := u_known (C := "CallExplorer$Book") (T := TBook) (N := 4) (n := 4) hts (fun w hw => (List.mem_filter.mp (inBook w hw)).1) (hts _ (List.mem_filter.mp q70).1)
  obtain ⟨c1, i1, k1⟩ := u_known (C := "CallExplorer$Catalog") (T := TCatalog) (N := 9) (n := 9) hts (fun w hw => (List.mem_filter.mp (inCatalog w hw)).1) (hts _ (List.mem_filter.mp q25).1)
  obtain ⟨c2, i2, k2⟩ := u_known (C := "CallExplorer$Entry") (T := TEntry) (N := 7) (n := 7) hts (fun w hw => (List.mem_filter.mp (inEntry w hw)).1) (hts _ (List.mem_filter.mp q574).1)
  obtain ⟨c3, i3, k3⟩ := u_known (C := "CallExplorer$Grower") (T := TGrower) (N := 9) (n := 9) hts (fun w hw => (List.mem_filter.mp (inGrower w hw)).1) (hts _ (List.mem_filter.mp q166).1)
  obtain ⟨c4, i4, k4⟩ := u_known (C := "CallExplorer$Heap") (T := THeap) (N := 5) (n := 5) hts (fun w hw => (List.mem_filter.mp (inHeap w hw)).1) (hts _ (List.mem_filter.mp q99).1)
  obtain ⟨c5, i5, k5⟩ := u_known (C := "CallExplorer$Reader") (T := TReader) (N := 10) (n := 10) hts (fun w hw => (List.mem_filter.mp (inReader w hw)).1) (hts _ (List.mem_filter.mp q256).1)
  obtain ⟨c6, i6, k6⟩ := u_known (C := "CallExplorer$Runner") (T := TRunner) (N := 9) (n := 9) hts (fun w hw => (List.mem_filter.mp (inRunner w hw)).1) (hts _ (List.mem_filter.mp q93).1)
  obtain ⟨c7, i7, k7⟩ := u_known (C := "CallExplorer$Sequence") (T := TSequence) (N := 2) (n := 2) hts (fun w hw => (List.mem_filter.mp (inSequence w hw)).1) (hts _ (List.mem_filter.mp q172).1)
  obtain ⟨c8, i8, k8⟩ := u_known (C := "CallExplorer$Shortener") (T := TShortener) (N := 3) (n := 3) hts (fun w hw => (List.mem_filter.mp (inShortener w hw)).1) (hts _ (List.mem_filter.mp q222).1)
  obtain ⟨c9, i9, k9⟩ := u_known (C := "CallExplorer$Writer") (T := TWriter) (N := 2) (n := 2) hts (fun w hw => (List.mem_filter.mp (inWriter w hw)).1) (hts _ (List.mem_filter.mp q240).1)
  obtain ⟨c10, i10, k10⟩ := u_known (C := "CallExplorer") (T := TTop) (N := 7) (n := 7) hts (fun w hw => (List.mem_filter.mp (inTop w hw)).1) (hts _ (List.mem_filter.mp q17).1)
  obtain ⟨c11, i11, k11⟩ := u_known (C := "CallExplorerModel") (T := TMod) (N := 43) (n := 43) hts (fun w hw => (List.mem_filter.mp (inMod w hw)).1) (hts _ (List.mem_filter.mp q823).1)
  obtain ⟨cI, kI, mI, a1, a2, a3⟩ := Cond.arrayClass_spec (hts _ (List.mem_filter.mp q68).1)
  obtain ⟨cC, kC, mC, b1, b2, b3⟩ := Cond.arrayClass_spec (hts _ (List.mem_filter.mp q254).1)
  obtain ⟨mE, cE, kE, f1, f2, f3, f4, f5⟩ := Cond.arrayOver_spec (hts (.arrayOver (.object "CallExplorer$Entry")) (by decide +kernel))
  refine law_walk Rl H_init H_type H_operation H_literal H_step H_seek H_shorten H_entries H_entry H_statement H_text H_draft H_replay H_state l hL C0 (fun c => ([c0, c1, c2, c3, c4, c5, c6, c7, c8, c9, c10, c11] : List ClassId).getD c 0, fun c => ([i0, i1, i2, i3, i4, i5, i6, i7, i8, i9, i10, i11] : List (Nat → Nat)).getD c (fun _ => 0)) cI cC cE ⟨fun c q hq => ?_, fun k q hq => ?_⟩ ⟨lw_tab_zt1 hts hgv, lw_tab_zt2 hts hgv, lw_tab_zt3 hts hgv, lw_tab_zt4 hts hgv⟩ (lw_nest hts)
  · have hc : c < 12 := (List.getElem?_eq_some_iff.mp hq).1
    rcases (show c = 0 ∨ c = 1 ∨ c = 2 ∨ c = 3 ∨ c = 4 ∨ c = 5 ∨ c = 6 ∨ c = 7 ∨ c = 8 ∨ c = 9 ∨ c = 10 ∨ c = 11 by omega) with rfl | rfl | rfl | rfl | rfl | rfl | rfl | rfl | rfl | rfl | rfl | rfl
    · cases hq
      exact k0
    · cases hq
      exact k1
    · cases hq
      exact k2
    · cases hq
      exact k3
    · cases hq
      exact k4
    · cases hq
      exact k5
    · cases hq
      exact k6
    · cases hq
      exact k7
    · cases hq
      exact k8
    · cases hq
      exact k9
    · cases hq
      exact k10
    · cases hq
      exact k11
  · have hk : k < 3 := (List.getElem?_eq_some_iff.mp hq).1
    rcases (show k = 0 ∨ k = 1 ∨ k = 2 by omega) with rfl | rfl | rfl
    · cases hq
      exact ⟨fun N z => ⟨(fun k h => by cases h), kI, a2, mI, a3⟩, a1⟩
    · cases hq
      exact ⟨fun N z => ⟨(fun k h => by cases h), kC, b2, mC, b3⟩, b1⟩
    · cases hq
      exact ⟨fun N z => ⟨(fun k h => by cases h), kE, f3, mE, f4⟩, kE, mE, f3, f4, f1, f5⟩
