/-! predicates and contracts, printed by wip/whole/gen -/
/-! Sequence.operationOf -/
theorem dSequence_operationOf_0 : decode bSequence_operationOf 0 = .ok (.aload_n 0, 1) := by decide +kernel
theorem dSequence_operationOf_1 : decode bSequence_operationOf 1 = .ok (.getfield 9, 3) := by decide +kernel
theorem dSequence_operationOf_4 : decode bSequence_operationOf 4 = .ok (.iload_n 1, 1) := by decide +kernel
theorem dSequence_operationOf_5 : decode bSequence_operationOf 5 = .ok (.iconst 5, 1) := by decide +kernel
theorem dSequence_operationOf_6 : decode bSequence_operationOf 6 = .ok (.imul, 1) := by decide +kernel
theorem dSequence_operationOf_7 : decode bSequence_operationOf 7 = .ok (.iaload, 1) := by decide +kernel
theorem dSequence_operationOf_8 : decode bSequence_operationOf 8 = .ok (.ireturn, 1) := by decide +kernel
def wpSequence_operationOf (o : Nat) (x1 : Int32) (h : zM) (post : Int32 → zM → Prop) : Prop := (vp_in (x1 * 5) 50 ∧ post (h (o + 1) (Int32.toNatClampNeg (x1 * 5))) h)
abbrev rmSequence_operationOf : Room := { frames := 0, cells := 0, slots := 0, locals := 0 }
set_option maxHeartbeats 4000000 in
set_option maxRecDepth 100000 in
theorem cSequence_operationOf (l : Launch) (D : va_G) (tys : List (ClassId × FieldType)) (N : Nat) (ad : Nat → Nat) (F : zSh) (A : Nat → Prop) (hJ : zJ A N ad) (cI : ClassId) (hI : tys[0]? = some (cI, .int)) (o : Nat) (hq : zSeq N ad F cI o) (x1 : Int32) (h : zM) (post : Int32 → zM → Prop) (hw : wpSequence_operationOf o x1 h post) : Met l ySequence_operationOf (.code ySequence_operationOf bSequence_operationOf 2 (some .int) :: zt) rmSequence_operationOf (va_Pc [.ref (ad o), .int x1] (zPre D tys N ad F A h)) (va_Qi post (zPst D tys N ad F) A) 0 0 A := by
  refine Met.ofW (cc := bSequence_operationOf) (maxL := 2) (ret := (some .int)) (by decide) rfl ?_
  intro p e s m args below meth c s₁ B hml hv
  obtain ⟨rfl, hP, hK, hT, hN⟩ := hv
  have hr := B.returns
  have hlk := B.notSynchronized
  have S : zS p m c bSequence_operationOf 2 s _ "CallExplorer$Sequence" := ⟨B.exec, B.bytes, hml, findClass_of_methodNamed B.named, fun w hw => atoms_spec (ws := .code ySequence_operationOf bSequence_operationOf 2 (some .int) :: zt) B.pre w (List.mem_cons_of_mem _ hw)⟩
  have hS : va_S A s.heap s.heap [] := va_S.rf
  have hl := lv_entry ([.ref (ad o), .int x1]) (n := 2) (Nat.le_of_ble_eq_true rfl)
  rw [lg_entry_eq]
  generalize (lg_sl ([.ref (ad o), .int x1]) ++ List.replicate (2 - (lg_sl ([.ref (ad o), .int x1])).length) Slot.unset).toArray = ls at hl ⊢
  have hl : lv_has ls 2 [(0, .ref (ad o)), (1, .int x1)] := hl
  show W p l e rmSequence_operationOf s m ([.ref (ad o), .int x1] : List Value).toArray below meth c s.heap [] 0 0 (zQi post D tys N ad F A below ([.ref (ad o), .int x1] : List Value).toArray s) _
  unfold wpSequence_operationOf at hw
  refine lv_aload_n S.1 S.2.1 dSequence_operationOf_0 rfl (lv_at hl 0 rfl) ?_
  refine zr_get S hK hP (Nat.lt_of_succ_lt (hq).1) ((hq).2.1 _) fSequence_cells q185 rfl dSequence_operationOf_1 ?_
  refine lv_iload_n S.1 S.2.1 dSequence_operationOf_4 rfl (lv_at hl 1 rfl) ?_
  refine lv_iconst (v := 5) S.1 S.2.1 dSequence_operationOf_5 (by decide) ?_
  refine lv_imul S.1 S.2.1 dSequence_operationOf_6 ?_
  obtain ⟨z7, hw⟩ := hw
  refine zr_ald S hK hP (hq).1 ((hq).2.2 _) 0 hI z7 dSequence_operationOf_7 ?_
  exact zr_iret S hr hlk hK hP hS rfl hw dSequence_operationOf_8
/-! Sequence.form -/
theorem dSequence_form_0 : decode bSequence_form 0 = .ok (.aload_n 0, 1) := by decide +kernel
theorem dSequence_form_1 : decode bSequence_form 1 = .ok (.getfield 9, 3) := by decide +kernel
theorem dSequence_form_4 : decode bSequence_form 4 = .ok (.iload_n 1, 1) := by decide +kernel
theorem dSequence_form_5 : decode bSequence_form 5 = .ok (.iconst 5, 1) := by decide +kernel
theorem dSequence_form_6 : decode bSequence_form 6 = .ok (.imul, 1) := by decide +kernel
theorem dSequence_form_7 : decode bSequence_form 7 = .ok (.iconst 1, 1) := by decide +kernel
theorem dSequence_form_8 : decode bSequence_form 8 = .ok (.iadd, 1) := by decide +kernel
theorem dSequence_form_9 : decode bSequence_form 9 = .ok (.iconst 2, 1) := by decide +kernel
theorem dSequence_form_10 : decode bSequence_form 10 = .ok (.iload_n 2, 1) := by decide +kernel
theorem dSequence_form_11 : decode bSequence_form 11 = .ok (.imul, 1) := by decide +kernel
theorem dSequence_form_12 : decode bSequence_form 12 = .ok (.iadd, 1) := by decide +kernel
theorem dSequence_form_13 : decode bSequence_form 13 = .ok (.iaload, 1) := by decide +kernel
theorem dSequence_form_14 : decode bSequence_form 14 = .ok (.ireturn, 1) := by decide +kernel
def wpSequence_form (o : Nat) (x1 : Int32) (x2 : Int32) (h : zM) (post : Int32 → zM → Prop) : Prop := (vp_in (((x1 * 5) + 1) + (2 * x2)) 50 ∧ post (h (o + 1) (Int32.toNatClampNeg (((x1 * 5) + 1) + (2 * x2)))) h)
abbrev rmSequence_form : Room := { frames := 0, cells := 0, slots := 0, locals := 0 }
set_option maxHeartbeats 4000000 in
set_option maxRecDepth 100000 in
theorem cSequence_form (l : Launch) (D : va_G) (tys : List (ClassId × FieldType)) (N : Nat) (ad : Nat → Nat) (F : zSh) (A : Nat → Prop) (hJ : zJ A N ad) (cI : ClassId) (hI : tys[0]? = some (cI, .int)) (o : Nat) (hq : zSeq N ad F cI o) (x1 : Int32) (x2 : Int32) (h : zM) (post : Int32 → zM → Prop) (hw : wpSequence_form o x1 x2 h post) : Met l ySequence_form (.code ySequence_form bSequence_form 3 (some .int) :: zt) rmSequence_form (va_Pc [.ref (ad o), .int x1, .int x2] (zPre D tys N ad F A h)) (va_Qi post (zPst D tys N ad F) A) 0 0 A := by
  refine Met.ofW (cc := bSequence_form) (maxL := 3) (ret := (some .int)) (by decide) rfl ?_
  intro p e s m args below meth c s₁ B hml hv
  obtain ⟨rfl, hP, hK, hT, hN⟩ := hv
  have hr := B.returns
  have hlk := B.notSynchronized
  have S : zS p m c bSequence_form 3 s _ "CallExplorer$Sequence" := ⟨B.exec, B.bytes, hml, findClass_of_methodNamed B.named, fun w hw => atoms_spec (ws := .code ySequence_form bSequence_form 3 (some .int) :: zt) B.pre w (List.mem_cons_of_mem _ hw)⟩
  have hS : va_S A s.heap s.heap [] := va_S.rf
  have hl := lv_entry ([.ref (ad o), .int x1, .int x2]) (n := 3) (Nat.le_of_ble_eq_true rfl)
  rw [lg_entry_eq]
  generalize (lg_sl ([.ref (ad o), .int x1, .int x2]) ++ List.replicate (3 - (lg_sl ([.ref (ad o), .int x1, .int x2])).length) Slot.unset).toArray = ls at hl ⊢
  have hl : lv_has ls 3 [(0, .ref (ad o)), (1, .int x1), (2, .int x2)] := hl
  show W p l e rmSequence_form s m ([.ref (ad o), .int x1, .int x2] : List Value).toArray below meth c s.heap [] 0 0 (zQi post D tys N ad F A below ([.ref (ad o), .int x1, .int x2] : List Value).toArray s) _
  unfold wpSequence_form at hw
  refine lv_aload_n S.1 S.2.1 dSequence_form_0 rfl (lv_at hl 0 rfl) ?_
  refine zr_get S hK hP (Nat.lt_of_succ_lt (hq).1) ((hq).2.1 _) fSequence_cells q185 rfl dSequence_form_1 ?_
  refine lv_iload_n S.1 S.2.1 dSequence_form_4 rfl (lv_at hl 1 rfl) ?_
  refine lv_iconst (v := 5) S.1 S.2.1 dSequence_form_5 (by decide) ?_
  refine lv_imul S.1 S.2.1 dSequence_form_6 ?_
  refine lv_iconst (v := 1) S.1 S.2.1 dSequence_form_7 (by decide) ?_
  refine lv_iadd S.1 S.2.1 dSequence_form_8 ?_
  refine lv_iconst (v := 2) S.1 S.2.1 dSequence_form_9 (by decide) ?_
  refine lv_iload_n S.1 S.2.1 dSequence_form_10 rfl (lv_at hl 2 rfl) ?_
  refine lv_imul S.1 S.2.1 dSequence_form_11 ?_
  refine lv_iadd S.1 S.2.1 dSequence_form_12 ?_
  obtain ⟨z13, hw⟩ := hw
  refine zr_ald S hK hP (hq).1 ((hq).2.2 _) 0 hI z13 dSequence_form_13 ?_
  exact zr_iret S hr hlk hK hP hS rfl hw dSequence_form_14
/-! Sequence.content -/
theorem dSequence_content_0 : decode bSequence_content 0 = .ok (.aload_n 0, 1) := by decide +kernel
theorem dSequence_content_1 : decode bSequence_content 1 = .ok (.getfield 9, 3) := by decide +kernel
theorem dSequence_content_4 : decode bSequence_content 4 = .ok (.iload_n 1, 1) := by decide +kernel
theorem dSequence_content_5 : decode bSequence_content 5 = .ok (.iconst 5, 1) := by decide +kernel
theorem dSequence_content_6 : decode bSequence_content 6 = .ok (.imul, 1) := by decide +kernel
theorem dSequence_content_7 : decode bSequence_content 7 = .ok (.iconst 2, 1) := by decide +kernel
theorem dSequence_content_8 : decode bSequence_content 8 = .ok (.iadd, 1) := by decide +kernel
theorem dSequence_content_9 : decode bSequence_content 9 = .ok (.iconst 2, 1) := by decide +kernel
theorem dSequence_content_10 : decode bSequence_content 10 = .ok (.iload_n 2, 1) := by decide +kernel
theorem dSequence_content_11 : decode bSequence_content 11 = .ok (.imul, 1) := by decide +kernel
theorem dSequence_content_12 : decode bSequence_content 12 = .ok (.iadd, 1) := by decide +kernel
theorem dSequence_content_13 : decode bSequence_content 13 = .ok (.iaload, 1) := by decide +kernel
theorem dSequence_content_14 : decode bSequence_content 14 = .ok (.ireturn, 1) := by decide +kernel
def wpSequence_content (o : Nat) (x1 : Int32) (x2 : Int32) (h : zM) (post : Int32 → zM → Prop) : Prop := (vp_in (((x1 * 5) + 2) + (2 * x2)) 50 ∧ post (h (o + 1) (Int32.toNatClampNeg (((x1 * 5) + 2) + (2 * x2)))) h)
abbrev rmSequence_content : Room := { frames := 0, cells := 0, slots := 0, locals := 0 }
set_option maxHeartbeats 4000000 in
set_option maxRecDepth 100000 in
theorem cSequence_content (l : Launch) (D : va_G) (tys : List (ClassId × FieldType)) (N : Nat) (ad : Nat → Nat) (F : zSh) (A : Nat → Prop) (hJ : zJ A N ad) (cI : ClassId) (hI : tys[0]? = some (cI, .int)) (o : Nat) (hq : zSeq N ad F cI o) (x1 : Int32) (x2 : Int32) (h : zM) (post : Int32 → zM → Prop) (hw : wpSequence_content o x1 x2 h post) : Met l ySequence_content (.code ySequence_content bSequence_content 3 (some .int) :: zt) rmSequence_content (va_Pc [.ref (ad o), .int x1, .int x2] (zPre D tys N ad F A h)) (va_Qi post (zPst D tys N ad F) A) 0 0 A := by
  refine Met.ofW (cc := bSequence_content) (maxL := 3) (ret := (some .int)) (by decide) rfl ?_
  intro p e s m args below meth c s₁ B hml hv
  obtain ⟨rfl, hP, hK, hT, hN⟩ := hv
  have hr := B.returns
  have hlk := B.notSynchronized
  have S : zS p m c bSequence_content 3 s _ "CallExplorer$Sequence" := ⟨B.exec, B.bytes, hml, findClass_of_methodNamed B.named, fun w hw => atoms_spec (ws := .code ySequence_content bSequence_content 3 (some .int) :: zt) B.pre w (List.mem_cons_of_mem _ hw)⟩
  have hS : va_S A s.heap s.heap [] := va_S.rf
  have hl := lv_entry ([.ref (ad o), .int x1, .int x2]) (n := 3) (Nat.le_of_ble_eq_true rfl)
  rw [lg_entry_eq]
  generalize (lg_sl ([.ref (ad o), .int x1, .int x2]) ++ List.replicate (3 - (lg_sl ([.ref (ad o), .int x1, .int x2])).length) Slot.unset).toArray = ls at hl ⊢
  have hl : lv_has ls 3 [(0, .ref (ad o)), (1, .int x1), (2, .int x2)] := hl
  show W p l e rmSequence_content s m ([.ref (ad o), .int x1, .int x2] : List Value).toArray below meth c s.heap [] 0 0 (zQi post D tys N ad F A below ([.ref (ad o), .int x1, .int x2] : List Value).toArray s) _
  unfold wpSequence_content at hw
  refine lv_aload_n S.1 S.2.1 dSequence_content_0 rfl (lv_at hl 0 rfl) ?_
  refine zr_get S hK hP (Nat.lt_of_succ_lt (hq).1) ((hq).2.1 _) fSequence_cells q185 rfl dSequence_content_1 ?_
  refine lv_iload_n S.1 S.2.1 dSequence_content_4 rfl (lv_at hl 1 rfl) ?_
  refine lv_iconst (v := 5) S.1 S.2.1 dSequence_content_5 (by decide) ?_
  refine lv_imul S.1 S.2.1 dSequence_content_6 ?_
  refine lv_iconst (v := 2) S.1 S.2.1 dSequence_content_7 (by decide) ?_
  refine lv_iadd S.1 S.2.1 dSequence_content_8 ?_
  refine lv_iconst (v := 2) S.1 S.2.1 dSequence_content_9 (by decide) ?_
  refine lv_iload_n S.1 S.2.1 dSequence_content_10 rfl (lv_at hl 2 rfl) ?_
  refine lv_imul S.1 S.2.1 dSequence_content_11 ?_
  refine lv_iadd S.1 S.2.1 dSequence_content_12 ?_
  obtain ⟨z13, hw⟩ := hw
  refine zr_ald S hK hP (hq).1 ((hq).2.2 _) 0 hI z13 dSequence_content_13 ?_
  exact zr_iret S hr hlk hK hP hS rfl hw dSequence_content_14
/-! Sequence.setArgument -/
theorem dSequence_setArgument_0 : decode bSequence_setArgument 0 = .ok (.aload_n 0, 1) := by decide +kernel
theorem dSequence_setArgument_1 : decode bSequence_setArgument 1 = .ok (.getfield 9, 3) := by decide +kernel
theorem dSequence_setArgument_4 : decode bSequence_setArgument 4 = .ok (.iload_n 1, 1) := by decide +kernel
theorem dSequence_setArgument_5 : decode bSequence_setArgument 5 = .ok (.iconst 5, 1) := by decide +kernel
theorem dSequence_setArgument_6 : decode bSequence_setArgument 6 = .ok (.imul, 1) := by decide +kernel
theorem dSequence_setArgument_7 : decode bSequence_setArgument 7 = .ok (.iconst 1, 1) := by decide +kernel
theorem dSequence_setArgument_8 : decode bSequence_setArgument 8 = .ok (.iadd, 1) := by decide +kernel
theorem dSequence_setArgument_9 : decode bSequence_setArgument 9 = .ok (.iconst 2, 1) := by decide +kernel
theorem dSequence_setArgument_10 : decode bSequence_setArgument 10 = .ok (.iload_n 2, 1) := by decide +kernel
theorem dSequence_setArgument_11 : decode bSequence_setArgument 11 = .ok (.imul, 1) := by decide +kernel
theorem dSequence_setArgument_12 : decode bSequence_setArgument 12 = .ok (.iadd, 1) := by decide +kernel
theorem dSequence_setArgument_13 : decode bSequence_setArgument 13 = .ok (.iload_n 3, 1) := by decide +kernel
theorem dSequence_setArgument_14 : decode bSequence_setArgument 14 = .ok (.iastore, 1) := by decide +kernel
theorem dSequence_setArgument_15 : decode bSequence_setArgument 15 = .ok (.aload_n 0, 1) := by decide +kernel
theorem dSequence_setArgument_16 : decode bSequence_setArgument 16 = .ok (.getfield 9, 3) := by decide +kernel
theorem dSequence_setArgument_19 : decode bSequence_setArgument 19 = .ok (.iload_n 1, 1) := by decide +kernel
theorem dSequence_setArgument_20 : decode bSequence_setArgument 20 = .ok (.iconst 5, 1) := by decide +kernel
theorem dSequence_setArgument_21 : decode bSequence_setArgument 21 = .ok (.imul, 1) := by decide +kernel
theorem dSequence_setArgument_22 : decode bSequence_setArgument 22 = .ok (.iconst 2, 1) := by decide +kernel
theorem dSequence_setArgument_23 : decode bSequence_setArgument 23 = .ok (.iadd, 1) := by decide +kernel
theorem dSequence_setArgument_24 : decode bSequence_setArgument 24 = .ok (.iconst 2, 1) := by decide +kernel
theorem dSequence_setArgument_25 : decode bSequence_setArgument 25 = .ok (.iload_n 2, 1) := by decide +kernel
theorem dSequence_setArgument_26 : decode bSequence_setArgument 26 = .ok (.imul, 1) := by decide +kernel
theorem dSequence_setArgument_27 : decode bSequence_setArgument 27 = .ok (.iadd, 1) := by decide +kernel
theorem dSequence_setArgument_28 : decode bSequence_setArgument 28 = .ok (.iload 4, 2) := by decide +kernel
theorem dSequence_setArgument_30 : decode bSequence_setArgument 30 = .ok (.iastore, 1) := by decide +kernel
theorem dSequence_setArgument_31 : decode bSequence_setArgument 31 = .ok (.return_, 1) := by decide +kernel
def wpSequence_setArgument (o : Nat) (x1 : Int32) (x2 : Int32) (x3 : Int32) (x4 : Int32) (h : zM) (post : zM → Prop) : Prop := (vp_in (((x1 * 5) + 1) + (2 * x2)) 50 ∧ ∀ h14 : zM, h14 = zu h (o + 1) (Int32.toNatClampNeg (((x1 * 5) + 1) + (2 * x2))) x3 → (vp_in (((x1 * 5) + 2) + (2 * x2)) 50 ∧ ∀ h30 : zM, h30 = zu h14 (o + 1) (Int32.toNatClampNeg (((x1 * 5) + 2) + (2 * x2))) x4 → post h30))
abbrev rmSequence_setArgument : Room := { frames := 0, cells := 0, slots := 0, locals := 0 }
set_option maxHeartbeats 4000000 in
set_option maxRecDepth 100000 in
theorem cSequence_setArgument (l : Launch) (D : va_G) (tys : List (ClassId × FieldType)) (N : Nat) (ad : Nat → Nat) (F : zSh) (A : Nat → Prop) (hJ : zJ A N ad) (cI : ClassId) (hI : tys[0]? = some (cI, .int)) (o : Nat) (hq : zSeq N ad F cI o) (x1 : Int32) (x2 : Int32) (x3 : Int32) (x4 : Int32) (h : zM) (post : zM → Prop) (hw : wpSequence_setArgument o x1 x2 x3 x4 h post) : Met l ySequence_setArgument (.code ySequence_setArgument bSequence_setArgument 5 none :: zt) rmSequence_setArgument (va_Pc [.ref (ad o), .int x1, .int x2, .int x3, .int x4] (zPre D tys N ad F A h)) (va_Qv post (zPst D tys N ad F) A) 0 0 A := by
  refine Met.ofW (cc := bSequence_setArgument) (maxL := 5) (ret := none) (by decide) rfl ?_
  intro p e s m args below meth c s₁ B hml hv
  obtain ⟨rfl, hP, hK, hT, hN⟩ := hv
  have hr := B.returns
  have hlk := B.notSynchronized
  have S : zS p m c bSequence_setArgument 5 s _ "CallExplorer$Sequence" := ⟨B.exec, B.bytes, hml, findClass_of_methodNamed B.named, fun w hw => atoms_spec (ws := .code ySequence_setArgument bSequence_setArgument 5 none :: zt) B.pre w (List.mem_cons_of_mem _ hw)⟩
  have hS : va_S A s.heap s.heap [] := va_S.rf
  have hl := lv_entry ([.ref (ad o), .int x1, .int x2, .int x3, .int x4]) (n := 5) (Nat.le_of_ble_eq_true rfl)
  rw [lg_entry_eq]
  generalize (lg_sl ([.ref (ad o), .int x1, .int x2, .int x3, .int x4]) ++ List.replicate (5 - (lg_sl ([.ref (ad o), .int x1, .int x2, .int x3, .int x4])).length) Slot.unset).toArray = ls at hl ⊢
  have hl : lv_has ls 5 [(0, .ref (ad o)), (1, .int x1), (2, .int x2), (3, .int x3), (4, .int x4)] := hl
  show W p l e rmSequence_setArgument s m ([.ref (ad o), .int x1, .int x2, .int x3, .int x4] : List Value).toArray below meth c s.heap [] 0 0 (zQv post D tys N ad F A below ([.ref (ad o), .int x1, .int x2, .int x3, .int x4] : List Value).toArray s) _
  unfold wpSequence_setArgument at hw
  refine lv_aload_n S.1 S.2.1 dSequence_setArgument_0 rfl (lv_at hl 0 rfl) ?_
  refine zr_get S hK hP (Nat.lt_of_succ_lt (hq).1) ((hq).2.1 _) fSequence_cells q185 rfl dSequence_setArgument_1 ?_
  refine lv_iload_n S.1 S.2.1 dSequence_setArgument_4 rfl (lv_at hl 1 rfl) ?_
  refine lv_iconst (v := 5) S.1 S.2.1 dSequence_setArgument_5 (by decide) ?_
  refine lv_imul S.1 S.2.1 dSequence_setArgument_6 ?_
  refine lv_iconst (v := 1) S.1 S.2.1 dSequence_setArgument_7 (by decide) ?_
  refine lv_iadd S.1 S.2.1 dSequence_setArgument_8 ?_
  refine lv_iconst (v := 2) S.1 S.2.1 dSequence_setArgument_9 (by decide) ?_
  refine lv_iload_n S.1 S.2.1 dSequence_setArgument_10 rfl (lv_at hl 2 rfl) ?_
  refine lv_imul S.1 S.2.1 dSequence_setArgument_11 ?_
  refine lv_iadd S.1 S.2.1 dSequence_setArgument_12 ?_
  refine lv_iload_n S.1 S.2.1 dSequence_setArgument_13 rfl (lv_at hl 3 rfl) ?_
  obtain ⟨z14, hw⟩ := hw
  refine zr_ast S hK hJ hP hS (hq).1 (hq).2.2 0 hI z14 dSequence_setArgument_14 (fun h14 H locs e14 hP hS => ?_)
  have hw := hw h14 e14
  refine lv_aload_n S.1 S.2.1 dSequence_setArgument_15 rfl (lv_at hl 0 rfl) ?_
  refine zr_get S hK hP (Nat.lt_of_succ_lt (hq).1) ((hq).2.1 _) fSequence_cells q185 rfl dSequence_setArgument_16 ?_
  refine lv_iload_n S.1 S.2.1 dSequence_setArgument_19 rfl (lv_at hl 1 rfl) ?_
  refine lv_iconst (v := 5) S.1 S.2.1 dSequence_setArgument_20 (by decide) ?_
  refine lv_imul S.1 S.2.1 dSequence_setArgument_21 ?_
  refine lv_iconst (v := 2) S.1 S.2.1 dSequence_setArgument_22 (by decide) ?_
  refine lv_iadd S.1 S.2.1 dSequence_setArgument_23 ?_
  refine lv_iconst (v := 2) S.1 S.2.1 dSequence_setArgument_24 (by decide) ?_
  refine lv_iload_n S.1 S.2.1 dSequence_setArgument_25 rfl (lv_at hl 2 rfl) ?_
  refine lv_imul S.1 S.2.1 dSequence_setArgument_26 ?_
  refine lv_iadd S.1 S.2.1 dSequence_setArgument_27 ?_
  refine lv_iload S.1 S.2.1 dSequence_setArgument_28 (lv_at hl 4 rfl) ?_
  obtain ⟨z30, hw⟩ := hw
  refine zr_ast S hK hJ hP hS (hq).1 (hq).2.2 0 hI z30 dSequence_setArgument_30 (fun h30 H locs e30 hP hS => ?_)
  have hw := hw h30 e30
  exact zr_vret S hr hlk hK hP hS hw dSequence_setArgument_31
/-! Sequence.isVariable -/
theorem dSequence_isVariable_0 : decode bSequence_isVariable 0 = .ok (.aload_n 0, 1) := by decide +kernel
theorem dSequence_isVariable_1 : decode bSequence_isVariable 1 = .ok (.getfield 9, 3) := by decide +kernel
theorem dSequence_isVariable_4 : decode bSequence_isVariable 4 = .ok (.iload_n 1, 1) := by decide +kernel
theorem dSequence_isVariable_5 : decode bSequence_isVariable 5 = .ok (.iconst 5, 1) := by decide +kernel
theorem dSequence_isVariable_6 : decode bSequence_isVariable 6 = .ok (.imul, 1) := by decide +kernel
theorem dSequence_isVariable_7 : decode bSequence_isVariable 7 = .ok (.iconst 1, 1) := by decide +kernel
theorem dSequence_isVariable_8 : decode bSequence_isVariable 8 = .ok (.iadd, 1) := by decide +kernel
theorem dSequence_isVariable_9 : decode bSequence_isVariable 9 = .ok (.iconst 2, 1) := by decide +kernel
theorem dSequence_isVariable_10 : decode bSequence_isVariable 10 = .ok (.iload_n 2, 1) := by decide +kernel
theorem dSequence_isVariable_11 : decode bSequence_isVariable 11 = .ok (.imul, 1) := by decide +kernel
theorem dSequence_isVariable_12 : decode bSequence_isVariable 12 = .ok (.iadd, 1) := by decide +kernel
theorem dSequence_isVariable_13 : decode bSequence_isVariable 13 = .ok (.iaload, 1) := by decide +kernel
theorem dSequence_isVariable_14 : decode bSequence_isVariable 14 = .ok (.ifCond .ne 7, 3) := by decide +kernel
theorem dSequence_isVariable_17 : decode bSequence_isVariable 17 = .ok (.iconst 1, 1) := by decide +kernel
theorem dSequence_isVariable_18 : decode bSequence_isVariable 18 = .ok (.goto 4, 3) := by decide +kernel
theorem dSequence_isVariable_21 : decode bSequence_isVariable 21 = .ok (.iconst 0, 1) := by decide +kernel
theorem dSequence_isVariable_22 : decode bSequence_isVariable 22 = .ok (.ireturn, 1) := by decide +kernel
def wpSequence_isVariable (o : Nat) (x1 : Int32) (x2 : Int32) (h : zM) (post : Int32 → zM → Prop) : Prop := (vp_in (((x1 * 5) + 1) + (2 * x2)) 50 ∧ ((¬ (h (o + 1) (Int32.toNatClampNeg (((x1 * 5) + 1) + (2 * x2)))) = 0 → post 0 h) ∧ ((h (o + 1) (Int32.toNatClampNeg (((x1 * 5) + 1) + (2 * x2)))) = 0 → post 1 h)))
abbrev rmSequence_isVariable : Room := { frames := 0, cells := 0, slots := 0, locals := 0 }
set_option maxHeartbeats 4000000 in
set_option maxRecDepth 100000 in
theorem cSequence_isVariable (l : Launch) (D : va_G) (tys : List (ClassId × FieldType)) (N : Nat) (ad : Nat → Nat) (F : zSh) (A : Nat → Prop) (hJ : zJ A N ad) (cI : ClassId) (hI : tys[0]? = some (cI, .int)) (o : Nat) (hq : zSeq N ad F cI o) (x1 : Int32) (x2 : Int32) (h : zM) (post : Int32 → zM → Prop) (hw : wpSequence_isVariable o x1 x2 h post) : Met l ySequence_isVariable (.code ySequence_isVariable bSequence_isVariable 3 (some .boolean) :: zt) rmSequence_isVariable (va_Pc [.ref (ad o), .int x1, .int x2] (zPre D tys N ad F A h)) (va_Qi post (zPst D tys N ad F) A) 0 0 A := by
  refine Met.ofW (cc := bSequence_isVariable) (maxL := 3) (ret := (some .boolean)) (by decide) rfl ?_
  intro p e s m args below meth c s₁ B hml hv
  obtain ⟨rfl, hP, hK, hT, hN⟩ := hv
  have hr := B.returns
  have hlk := B.notSynchronized
  have S : zS p m c bSequence_isVariable 3 s _ "CallExplorer$Sequence" := ⟨B.exec, B.bytes, hml, findClass_of_methodNamed B.named, fun w hw => atoms_spec (ws := .code ySequence_isVariable bSequence_isVariable 3 (some .boolean) :: zt) B.pre w (List.mem_cons_of_mem _ hw)⟩
  have hS : va_S A s.heap s.heap [] := va_S.rf
  have hl := lv_entry ([.ref (ad o), .int x1, .int x2]) (n := 3) (Nat.le_of_ble_eq_true rfl)
  rw [lg_entry_eq]
  generalize (lg_sl ([.ref (ad o), .int x1, .int x2]) ++ List.replicate (3 - (lg_sl ([.ref (ad o), .int x1, .int x2])).length) Slot.unset).toArray = ls at hl ⊢
  have hl : lv_has ls 3 [(0, .ref (ad o)), (1, .int x1), (2, .int x2)] := hl
  show W p l e rmSequence_isVariable s m ([.ref (ad o), .int x1, .int x2] : List Value).toArray below meth c s.heap [] 0 0 (zQi post D tys N ad F A below ([.ref (ad o), .int x1, .int x2] : List Value).toArray s) _
  unfold wpSequence_isVariable at hw
  refine lv_aload_n S.1 S.2.1 dSequence_isVariable_0 rfl (lv_at hl 0 rfl) ?_
  refine zr_get S hK hP (Nat.lt_of_succ_lt (hq).1) ((hq).2.1 _) fSequence_cells q185 rfl dSequence_isVariable_1 ?_
  refine lv_iload_n S.1 S.2.1 dSequence_isVariable_4 rfl (lv_at hl 1 rfl) ?_
  refine lv_iconst (v := 5) S.1 S.2.1 dSequence_isVariable_5 (by decide) ?_
  refine lv_imul S.1 S.2.1 dSequence_isVariable_6 ?_
  refine lv_iconst (v := 1) S.1 S.2.1 dSequence_isVariable_7 (by decide) ?_
  refine lv_iadd S.1 S.2.1 dSequence_isVariable_8 ?_
  refine lv_iconst (v := 2) S.1 S.2.1 dSequence_isVariable_9 (by decide) ?_
  refine lv_iload_n S.1 S.2.1 dSequence_isVariable_10 rfl (lv_at hl 2 rfl) ?_
  refine lv_imul S.1 S.2.1 dSequence_isVariable_11 ?_
  refine lv_iadd S.1 S.2.1 dSequence_isVariable_12 ?_
  obtain ⟨z13, hw⟩ := hw
  refine zr_ald S hK hP (hq).1 ((hq).2.2 _) 0 hI z13 dSequence_isVariable_13 ?_
  refine lv_if_ne S.1 S.2.1 dSequence_isVariable_14 rfl (fun hc => ?_) (fun hc => ?_)
  · have hw := hw.1 hc
    refine lv_iconst (v := 0) S.1 S.2.1 dSequence_isVariable_21 (by decide) ?_
    exact zr_iret S hr hlk hK hP hS rfl hw dSequence_isVariable_22
  · have hw := hw.2 hc
    refine lv_iconst (v := 1) S.1 S.2.1 dSequence_isVariable_17 (by decide) ?_
    refine lv_goto S.1 S.2.1 dSequence_isVariable_18 rfl ?_
    exact zr_iret S hr hlk hK hP hS rfl hw dSequence_isVariable_22
/-! Sequence.clear -/
theorem dSequence_clear_0 : decode bSequence_clear 0 = .ok (.aload_n 0, 1) := by decide +kernel
theorem dSequence_clear_1 : decode bSequence_clear 1 = .ok (.iconst 0, 1) := by decide +kernel
theorem dSequence_clear_2 : decode bSequence_clear 2 = .ok (.putfield 15, 3) := by decide +kernel
theorem dSequence_clear_5 : decode bSequence_clear 5 = .ok (.return_, 1) := by decide +kernel
def wpSequence_clear (o : Nat) (h : zM) (post : zM → Prop) : Prop := ∀ h2 : zM, h2 = zu h o 0 0 → post h2
abbrev rmSequence_clear : Room := { frames := 0, cells := 0, slots := 0, locals := 0 }
set_option maxHeartbeats 4000000 in
set_option maxRecDepth 100000 in
theorem cSequence_clear (l : Launch) (D : va_G) (tys : List (ClassId × FieldType)) (N : Nat) (ad : Nat → Nat) (F : zSh) (A : Nat → Prop) (hJ : zJ A N ad) (cI : ClassId) (hI : tys[0]? = some (cI, .int)) (o : Nat) (hq : zSeq N ad F cI o) (h : zM) (post : zM → Prop) (hw : wpSequence_clear o h post) : Met l ySequence_clear (.code ySequence_clear bSequence_clear 1 none :: zt) rmSequence_clear (va_Pc [.ref (ad o)] (zPre D tys N ad F A h)) (va_Qv post (zPst D tys N ad F) A) 0 0 A := by
  refine Met.ofW (cc := bSequence_clear) (maxL := 1) (ret := none) (by decide) rfl ?_
  intro p e s m args below meth c s₁ B hml hv
  obtain ⟨rfl, hP, hK, hT, hN⟩ := hv
  have hr := B.returns
  have hlk := B.notSynchronized
  have S : zS p m c bSequence_clear 1 s _ "CallExplorer$Sequence" := ⟨B.exec, B.bytes, hml, findClass_of_methodNamed B.named, fun w hw => atoms_spec (ws := .code ySequence_clear bSequence_clear 1 none :: zt) B.pre w (List.mem_cons_of_mem _ hw)⟩
  have hS : va_S A s.heap s.heap [] := va_S.rf
  have hl := lv_entry ([.ref (ad o)]) (n := 1) (Nat.le_of_ble_eq_true rfl)
  rw [lg_entry_eq]
  generalize (lg_sl ([.ref (ad o)]) ++ List.replicate (1 - (lg_sl ([.ref (ad o)])).length) Slot.unset).toArray = ls at hl ⊢
  have hl : lv_has ls 1 [(0, .ref (ad o))] := hl
  show W p l e rmSequence_clear s m ([.ref (ad o)] : List Value).toArray below meth c s.heap [] 0 0 (zQv post D tys N ad F A below ([.ref (ad o)] : List Value).toArray s) _
  unfold wpSequence_clear at hw
  refine lv_aload_n S.1 S.2.1 dSequence_clear_0 rfl (lv_at hl 0 rfl) ?_
  refine lv_iconst (v := 0) S.1 S.2.1 dSequence_clear_1 (by decide) ?_
  refine zr_put S hK hJ hP hS (Nat.lt_of_succ_lt (hq).1) ((hq).2.1 _) fSequence_size q182 rfl rfl (Nat.le_of_ble_eq_true rfl) ((hq).2.1 _) dSequence_clear_2 (fun h2 H locs e2 hP hS => ?_)
  have hw := hw h2 e2
  exact zr_vret S hr hlk hK hP hS hw dSequence_clear_5
/-! Sequence.push -/
theorem dSequence_push_0 : decode bSequence_push 0 = .ok (.aload_n 0, 1) := by decide +kernel
theorem dSequence_push_1 : decode bSequence_push 1 = .ok (.getfield 15, 3) := by decide +kernel
theorem dSequence_push_4 : decode bSequence_push 4 = .ok (.istore_n 2, 1) := by decide +kernel
theorem dSequence_push_5 : decode bSequence_push 5 = .ok (.aload_n 0, 1) := by decide +kernel
theorem dSequence_push_6 : decode bSequence_push 6 = .ok (.getfield 9, 3) := by decide +kernel
theorem dSequence_push_9 : decode bSequence_push 9 = .ok (.iload_n 2, 1) := by decide +kernel
theorem dSequence_push_10 : decode bSequence_push 10 = .ok (.iconst 5, 1) := by decide +kernel
theorem dSequence_push_11 : decode bSequence_push 11 = .ok (.imul, 1) := by decide +kernel
theorem dSequence_push_12 : decode bSequence_push 12 = .ok (.iload_n 1, 1) := by decide +kernel
theorem dSequence_push_13 : decode bSequence_push 13 = .ok (.iastore, 1) := by decide +kernel
theorem dSequence_push_14 : decode bSequence_push 14 = .ok (.aload_n 0, 1) := by decide +kernel
theorem dSequence_push_15 : decode bSequence_push 15 = .ok (.iload_n 2, 1) := by decide +kernel
theorem dSequence_push_16 : decode bSequence_push 16 = .ok (.iconst 0, 1) := by decide +kernel
theorem dSequence_push_17 : decode bSequence_push 17 = .ok (.iconst (-1), 1) := by decide +kernel
theorem dSequence_push_18 : decode bSequence_push 18 = .ok (.iconst 0, 1) := by decide +kernel
theorem dSequence_push_19 : decode bSequence_push 19 = .ok (.invokevirtual 19, 3) := by decide +kernel
theorem dSequence_push_22 : decode bSequence_push 22 = .ok (.aload_n 0, 1) := by decide +kernel
theorem dSequence_push_23 : decode bSequence_push 23 = .ok (.iload_n 2, 1) := by decide +kernel
theorem dSequence_push_24 : decode bSequence_push 24 = .ok (.iconst 1, 1) := by decide +kernel
theorem dSequence_push_25 : decode bSequence_push 25 = .ok (.iconst (-1), 1) := by decide +kernel
theorem dSequence_push_26 : decode bSequence_push 26 = .ok (.iconst 0, 1) := by decide +kernel
theorem dSequence_push_27 : decode bSequence_push 27 = .ok (.invokevirtual 19, 3) := by decide +kernel
theorem dSequence_push_30 : decode bSequence_push 30 = .ok (.aload_n 0, 1) := by decide +kernel
theorem dSequence_push_31 : decode bSequence_push 31 = .ok (.dup, 1) := by decide +kernel
theorem dSequence_push_32 : decode bSequence_push 32 = .ok (.getfield 15, 3) := by decide +kernel
theorem dSequence_push_35 : decode bSequence_push 35 = .ok (.iconst 1, 1) := by decide +kernel
theorem dSequence_push_36 : decode bSequence_push 36 = .ok (.iadd, 1) := by decide +kernel
theorem dSequence_push_37 : decode bSequence_push 37 = .ok (.putfield 15, 3) := by decide +kernel
theorem dSequence_push_40 : decode bSequence_push 40 = .ok (.iload_n 2, 1) := by decide +kernel
theorem dSequence_push_41 : decode bSequence_push 41 = .ok (.ireturn, 1) := by decide +kernel
def wpSequence_push (o : Nat) (x1 : Int32) (h : zM) (post : Int32 → zM → Prop) : Prop := ∀ y4 : Int32, y4 = (h o 0) → (vp_in (y4 * 5) 50 ∧ ∀ h13 : zM, h13 = zu h (o + 1) (Int32.toNatClampNeg (y4 * 5)) x1 → wpSequence_setArgument o y4 0 (-1) 0 h13 (fun h19 => wpSequence_setArgument o y4 1 (-1) 0 h19 (fun h27 => ∀ h37 : zM, h37 = zu h27 o 0 ((h27 o 0) + 1) → post y4 h37)))
abbrev rmSequence_push : Room := { frames := 1, cells := 0, slots := 0, locals := 24 }
set_option maxHeartbeats 4000000 in
set_option maxRecDepth 100000 in
theorem cSequence_push (l : Launch) (D : va_G) (tys : List (ClassId × FieldType)) (N : Nat) (ad : Nat → Nat) (F : zSh) (A : Nat → Prop) (hJ : zJ A N ad) (cI : ClassId) (hI : tys[0]? = some (cI, .int)) (o : Nat) (hq : zSeq N ad F cI o) (x1 : Int32) (h : zM) (post : Int32 → zM → Prop) (hw : wpSequence_push o x1 h post) : Met l ySequence_push (.code ySequence_push bSequence_push 3 (some .int) :: zt) rmSequence_push (va_Pc [.ref (ad o), .int x1] (zPre D tys N ad F A h)) (va_Qi post (zPst D tys N ad F) A) 0 0 A := by
  refine Met.ofW (cc := bSequence_push) (maxL := 3) (ret := (some .int)) (by decide) rfl ?_
  intro p e s m args below meth c s₁ B hml hv
  obtain ⟨rfl, hP, hK, hT, hN⟩ := hv
  have hr := B.returns
  have hlk := B.notSynchronized
  have S : zS p m c bSequence_push 3 s _ "CallExplorer$Sequence" := ⟨B.exec, B.bytes, hml, findClass_of_methodNamed B.named, fun w hw => atoms_spec (ws := .code ySequence_push bSequence_push 3 (some .int) :: zt) B.pre w (List.mem_cons_of_mem _ hw)⟩
  have hS : va_S A s.heap s.heap [] := va_S.rf
  have hl := lv_entry ([.ref (ad o), .int x1]) (n := 3) (Nat.le_of_ble_eq_true rfl)
  rw [lg_entry_eq]
  generalize (lg_sl ([.ref (ad o), .int x1]) ++ List.replicate (3 - (lg_sl ([.ref (ad o), .int x1])).length) Slot.unset).toArray = ls at hl ⊢
  have hl : lv_has ls 3 [(0, .ref (ad o)), (1, .int x1)] := hl
  show W p l e rmSequence_push s m ([.ref (ad o), .int x1] : List Value).toArray below meth c s.heap [] 0 0 (zQi post D tys N ad F A below ([.ref (ad o), .int x1] : List Value).toArray s) _
  unfold wpSequence_push at hw
  refine lv_aload_n S.1 S.2.1 dSequence_push_0 rfl (lv_at hl 0 rfl) ?_
  refine zr_get S hK hP (Nat.lt_of_succ_lt (hq).1) ((hq).2.1 _) fSequence_size q182 rfl dSequence_push_1 ?_
  refine lv_topi (fun y4 e4 => ?_)
  have hw := hw y4 e4
  refine lv_istore_n (lv' := [(2, .int y4), (0, .ref (ad o)), (1, .int x1)]) S.1 S.2.1 dSequence_push_4 rfl hl (by decide) rfl (fun ls hl => ?_)
  refine lv_aload_n S.1 S.2.1 dSequence_push_5 rfl (lv_at hl 1 rfl) ?_
  refine zr_get S hK hP (Nat.lt_of_succ_lt (hq).1) ((hq).2.1 _) fSequence_cells q185 rfl dSequence_push_6 ?_
  refine lv_iload_n S.1 S.2.1 dSequence_push_9 rfl (lv_at hl 0 rfl) ?_
  refine lv_iconst (v := 5) S.1 S.2.1 dSequence_push_10 (by decide) ?_
  refine lv_imul S.1 S.2.1 dSequence_push_11 ?_
  refine lv_iload_n S.1 S.2.1 dSequence_push_12 rfl (lv_at hl 2 rfl) ?_
  obtain ⟨z13, hw⟩ := hw
  refine zr_ast S hK hJ hP hS (hq).1 (hq).2.2 0 hI z13 dSequence_push_13 (fun h13 H locs e13 hP hS => ?_)
  have hw := hw h13 e13
  refine lv_aload_n S.1 S.2.1 dSequence_push_14 rfl (lv_at hl 1 rfl) ?_
  refine lv_iload_n S.1 S.2.1 dSequence_push_15 rfl (lv_at hl 0 rfl) ?_
  refine lv_iconst (v := 0) S.1 S.2.1 dSequence_push_16 (by decide) ?_
  refine lv_iconst (v := (-1)) S.1 S.2.1 dSequence_push_17 (by decide) ?_
  refine lv_iconst (v := 0) S.1 S.2.1 dSequence_push_18 (by decide) ?_
  refine zr_v (zr_V (As := [.int y4, .int 0, .int (-1), .int 0]) (rest := []) S hK hT hN hP hS (Nat.lt_of_succ_lt (hq).1) ((hq).2.1 _) rfl (cSequence_setArgument l D tys N ad F A hJ cI hI o hq _ _ _ _ _ _ hw) caSequence_19 ⟨Nat.le_of_ble_eq_true rfl, Nat.le_of_ble_eq_true rfl⟩ ⟨rfl, rfl⟩ rfl hl.1 rfl (Nat.le_of_ble_eq_true rfl) dSequence_push_19) hS (fun h19 H locs hw hP hS => ?_)
  refine lv_aload_n S.1 S.2.1 dSequence_push_22 rfl (lv_at hl 1 rfl) ?_
  refine lv_iload_n S.1 S.2.1 dSequence_push_23 rfl (lv_at hl 0 rfl) ?_
  refine lv_iconst (v := 1) S.1 S.2.1 dSequence_push_24 (by decide) ?_
  refine lv_iconst (v := (-1)) S.1 S.2.1 dSequence_push_25 (by decide) ?_
  refine lv_iconst (v := 0) S.1 S.2.1 dSequence_push_26 (by decide) ?_
  refine zr_v (zr_V (As := [.int y4, .int 1, .int (-1), .int 0]) (rest := []) S hK hT hN hP hS (Nat.lt_of_succ_lt (hq).1) ((hq).2.1 _) rfl (cSequence_setArgument l D tys N ad F A hJ cI hI o hq _ _ _ _ _ _ hw) caSequence_19 ⟨Nat.le_of_ble_eq_true rfl, Nat.le_of_ble_eq_true rfl⟩ ⟨rfl, rfl⟩ rfl hl.1 rfl (Nat.le_of_ble_eq_true rfl) dSequence_push_27) hS (fun h27 H locs hw hP hS => ?_)
  refine lv_aload_n S.1 S.2.1 dSequence_push_30 rfl (lv_at hl 1 rfl) ?_
  refine lv_dup S.1 S.2.1 dSequence_push_31 rfl ?_
  refine zr_get S hK hP (Nat.lt_of_succ_lt (hq).1) ((hq).2.1 _) fSequence_size q182 rfl dSequence_push_32 ?_
  refine lv_iconst (v := 1) S.1 S.2.1 dSequence_push_35 (by decide) ?_
  refine lv_iadd S.1 S.2.1 dSequence_push_36 ?_
  refine zr_put S hK hJ hP hS (Nat.lt_of_succ_lt (hq).1) ((hq).2.1 _) fSequence_size q182 rfl rfl (Nat.le_of_ble_eq_true rfl) ((hq).2.1 _) dSequence_push_37 (fun h37 H locs e37 hP hS => ?_)
  have hw := hw h37 e37
  refine lv_iload_n S.1 S.2.1 dSequence_push_40 rfl (lv_at hl 0 rfl) ?_
  exact zr_iret S hr hlk hK hP hS rfl hw dSequence_push_41
/-! Sequence.moveVariables -/
theorem dSequence_moveVariables_0 : decode bSequence_moveVariables 0 = .ok (.iload_n 1, 1) := by decide +kernel
theorem dSequence_moveVariables_1 : decode bSequence_moveVariables 1 = .ok (.istore 4, 2) := by decide +kernel
theorem dSequence_moveVariables_3 : decode bSequence_moveVariables 3 = .ok (.iload 4, 2) := by decide +kernel
theorem dSequence_moveVariables_5 : decode bSequence_moveVariables 5 = .ok (.aload_n 0, 1) := by decide +kernel
theorem dSequence_moveVariables_6 : decode bSequence_moveVariables 6 = .ok (.getfield 15, 3) := by decide +kernel
theorem dSequence_moveVariables_9 : decode bSequence_moveVariables 9 = .ok (.if_icmp .ge 66, 3) := by decide +kernel
theorem dSequence_moveVariables_12 : decode bSequence_moveVariables 12 = .ok (.iconst 0, 1) := by decide +kernel
theorem dSequence_moveVariables_13 : decode bSequence_moveVariables 13 = .ok (.istore 5, 2) := by decide +kernel
theorem dSequence_moveVariables_15 : decode bSequence_moveVariables 15 = .ok (.iload 5, 2) := by decide +kernel
theorem dSequence_moveVariables_17 : decode bSequence_moveVariables 17 = .ok (.iconst 2, 1) := by decide +kernel
theorem dSequence_moveVariables_18 : decode bSequence_moveVariables 18 = .ok (.if_icmp .ge 51, 3) := by decide +kernel
theorem dSequence_moveVariables_21 : decode bSequence_moveVariables 21 = .ok (.aload_n 0, 1) := by decide +kernel
theorem dSequence_moveVariables_22 : decode bSequence_moveVariables 22 = .ok (.iload 4, 2) := by decide +kernel
theorem dSequence_moveVariables_24 : decode bSequence_moveVariables 24 = .ok (.iload 5, 2) := by decide +kernel
theorem dSequence_moveVariables_26 : decode bSequence_moveVariables 26 = .ok (.invokevirtual 33, 3) := by decide +kernel
theorem dSequence_moveVariables_29 : decode bSequence_moveVariables 29 = .ok (.ifCond .eq 34, 3) := by decide +kernel
theorem dSequence_moveVariables_32 : decode bSequence_moveVariables 32 = .ok (.aload_n 0, 1) := by decide +kernel
theorem dSequence_moveVariables_33 : decode bSequence_moveVariables 33 = .ok (.iload 4, 2) := by decide +kernel
theorem dSequence_moveVariables_35 : decode bSequence_moveVariables 35 = .ok (.iload 5, 2) := by decide +kernel
theorem dSequence_moveVariables_37 : decode bSequence_moveVariables 37 = .ok (.invokevirtual 37, 3) := by decide +kernel
theorem dSequence_moveVariables_40 : decode bSequence_moveVariables 40 = .ok (.iload_n 2, 1) := by decide +kernel
theorem dSequence_moveVariables_41 : decode bSequence_moveVariables 41 = .ok (.if_icmp .lt 22, 3) := by decide +kernel
theorem dSequence_moveVariables_44 : decode bSequence_moveVariables 44 = .ok (.aload_n 0, 1) := by decide +kernel
theorem dSequence_moveVariables_45 : decode bSequence_moveVariables 45 = .ok (.iload 4, 2) := by decide +kernel
theorem dSequence_moveVariables_47 : decode bSequence_moveVariables 47 = .ok (.iload 5, 2) := by decide +kernel
theorem dSequence_moveVariables_49 : decode bSequence_moveVariables 49 = .ok (.iconst 0, 1) := by decide +kernel
theorem dSequence_moveVariables_50 : decode bSequence_moveVariables 50 = .ok (.aload_n 0, 1) := by decide +kernel
theorem dSequence_moveVariables_51 : decode bSequence_moveVariables 51 = .ok (.iload 4, 2) := by decide +kernel
theorem dSequence_moveVariables_53 : decode bSequence_moveVariables 53 = .ok (.iload 5, 2) := by decide +kernel
theorem dSequence_moveVariables_55 : decode bSequence_moveVariables 55 = .ok (.invokevirtual 37, 3) := by decide +kernel
theorem dSequence_moveVariables_58 : decode bSequence_moveVariables 58 = .ok (.iload_n 3, 1) := by decide +kernel
theorem dSequence_moveVariables_59 : decode bSequence_moveVariables 59 = .ok (.iadd, 1) := by decide +kernel
theorem dSequence_moveVariables_60 : decode bSequence_moveVariables 60 = .ok (.invokevirtual 19, 3) := by decide +kernel
theorem dSequence_moveVariables_63 : decode bSequence_moveVariables 63 = .ok (.iinc 5 1, 3) := by decide +kernel
theorem dSequence_moveVariables_66 : decode bSequence_moveVariables 66 = .ok (.goto (-51), 3) := by decide +kernel
theorem dSequence_moveVariables_69 : decode bSequence_moveVariables 69 = .ok (.iinc 4 1, 3) := by decide +kernel
theorem dSequence_moveVariables_72 : decode bSequence_moveVariables 72 = .ok (.goto (-69), 3) := by decide +kernel
theorem dSequence_moveVariables_75 : decode bSequence_moveVariables 75 = .ok (.return_, 1) := by decide +kernel
def wbSequence_moveVariables_63 (o : Nat) (post : zM → Prop) (L3 : (Int32 × Int32 × Int32 × zM) → Prop) (L15 : (Int32 × Int32 × Int32 × Int32 × zM) → Prop) (v2 : Int32) (v3 : Int32) (v4 : Int32) (v5 : Int32) (h : zM) : Prop := L15 (v2, v3, v4, (v5 + 1), h)
def stSequence_moveVariables_15 (o : Nat) (post : zM → Prop) (L3 : (Int32 × Int32 × Int32 × zM) → Prop) (L15 : (Int32 × Int32 × Int32 × Int32 × zM) → Prop) : (Int32 × Int32 × Int32 × Int32 × zM) → Prop := fun s => match s with
  | (v2, v3, v4, v5, h) => (((2 ≤ v5) → L3 (v2, v3, (v4 + 1), h)) ∧ (¬ (2 ≤ v5) → wpSequence_isVariable o v4 v5 h (fun r26 h26 => ((r26 = 0 → wbSequence_moveVariables_63 o post L3 L15 v2 v3 v4 v5 h26) ∧ (¬ r26 = 0 → wpSequence_content o v4 v5 h26 (fun r37 h37 => (((r37 < v2) → wbSequence_moveVariables_63 o post L3 L15 v2 v3 v4 v5 h37) ∧ (¬ (r37 < v2) → wpSequence_content o v4 v5 h37 (fun r55 h55 => wpSequence_setArgument o v4 v5 0 (r55 + v3) h55 (fun h60 => wbSequence_moveVariables_63 o post L3 L15 v2 v3 v4 v5 h60))))))))))
def stSequence_moveVariables_3 (o : Nat) (post : zM → Prop) (L3 : (Int32 × Int32 × Int32 × zM) → Prop) : (Int32 × Int32 × Int32 × zM) → Prop := fun s => match s with
  | (v2, v3, v4, h) => ((((h o 0) ≤ v4) → post h) ∧ (¬ ((h o 0) ≤ v4) → zL (stSequence_moveVariables_15 o post L3) (v2, v3, v4, 0, h)))
def wpSequence_moveVariables (o : Nat) (x1 : Int32) (x2 : Int32) (x3 : Int32) (h : zM) (post : zM → Prop) : Prop := zL (stSequence_moveVariables_3 o post) (x2, x3, x1, h)
abbrev rmSequence_moveVariables : Room := { frames := 1, cells := 0, slots := 0, locals := 24 }
set_option maxHeartbeats 4000000 in
set_option maxRecDepth 100000 in
theorem cSequence_moveVariables (l : Launch) (D : va_G) (tys : List (ClassId × FieldType)) (N : Nat) (ad : Nat → Nat) (F : zSh) (A : Nat → Prop) (hJ : zJ A N ad) (cI : ClassId) (hI : tys[0]? = some (cI, .int)) (o : Nat) (hq : zSeq N ad F cI o) (x1 : Int32) (x2 : Int32) (x3 : Int32) (h : zM) (post : zM → Prop) (hw : wpSequence_moveVariables o x1 x2 x3 h post) : Met l ySequence_moveVariables (.code ySequence_moveVariables bSequence_moveVariables 6 none :: zt) rmSequence_moveVariables (va_Pc [.ref (ad o), .int x1, .int x2, .int x3] (zPre D tys N ad F A h)) (va_Qv post (zPst D tys N ad F) A) 0 0 A := by
  refine Met.ofW (cc := bSequence_moveVariables) (maxL := 6) (ret := none) (by decide) rfl ?_
  intro p e s m args below meth c s₁ B hml hv
  obtain ⟨rfl, hP, hK, hT, hN⟩ := hv
  have hr := B.returns
  have hlk := B.notSynchronized
  have S : zS p m c bSequence_moveVariables 6 s _ "CallExplorer$Sequence" := ⟨B.exec, B.bytes, hml, findClass_of_methodNamed B.named, fun w hw => atoms_spec (ws := .code ySequence_moveVariables bSequence_moveVariables 6 none :: zt) B.pre w (List.mem_cons_of_mem _ hw)⟩
  have hS : va_S A s.heap s.heap [] := va_S.rf
  have hl := lv_entry ([.ref (ad o), .int x1, .int x2, .int x3]) (n := 6) (Nat.le_of_ble_eq_true rfl)
  rw [lg_entry_eq]
  generalize (lg_sl ([.ref (ad o), .int x1, .int x2, .int x3]) ++ List.replicate (6 - (lg_sl ([.ref (ad o), .int x1, .int x2, .int x3])).length) Slot.unset).toArray = ls at hl ⊢
  have hl : lv_has ls 6 [(0, .ref (ad o)), (1, .int x1), (2, .int x2), (3, .int x3)] := hl
  show W p l e rmSequence_moveVariables s m ([.ref (ad o), .int x1, .int x2, .int x3] : List Value).toArray below meth c s.heap [] 0 0 (zQv post D tys N ad F A below ([.ref (ad o), .int x1, .int x2, .int x3] : List Value).toArray s) _
  have J3 : ∀ (fu : Nat) (v2 : Int32) (v3 : Int32) (v4 : Int32) (h : zM) (H : Heap) (locs : List Loc) (ls : Array Slot), zl (stSequence_moveVariables_3 o post) fu (v2, v3, v4, h) → lv_has ls 6 [(0, .ref (ad o)), (2, .int v2), (3, .int v3), (4, .int v4)] → va_P D zcl (zW N ad F h) H → va_S A s.heap H locs → W p l e rmSequence_moveVariables s m ([.ref (ad o), .int x1, .int x2, .int x3] : List Value).toArray below meth c H locs 0 0 (zQv post D tys N ad F A below ([.ref (ad o), .int x1, .int x2, .int x3] : List Value).toArray s) (F0 m 3 ls []) := by
    intro fu3
    induction fu3 with
    | zero =>
      intro v2 v3 v4 h H locs ls hw
      exact (zl_0 hw).elim
    | succ fu3 ih3 =>
      intro v2 v3 v4 h H locs ls hw hl hP hS
      have hw := zl_s hw
      generalize zl (stSequence_moveVariables_3 o post) fu3 = L3 at hw ih3
      have J15 : ∀ (fu : Nat) (v2 : Int32) (v3 : Int32) (v4 : Int32) (v5 : Int32) (h : zM) (H : Heap) (locs : List Loc) (ls : Array Slot), zl (stSequence_moveVariables_15 o post L3) fu (v2, v3, v4, v5, h) → lv_has ls 6 [(0, .ref (ad o)), (2, .int v2), (3, .int v3), (4, .int v4), (5, .int v5)] → va_P D zcl (zW N ad F h) H → va_S A s.heap H locs → W p l e rmSequence_moveVariables s m ([.ref (ad o), .int x1, .int x2, .int x3] : List Value).toArray below meth c H locs 0 0 (zQv post D tys N ad F A below ([.ref (ad o), .int x1, .int x2, .int x3] : List Value).toArray s) (F0 m 15 ls []) := by
        intro fu15
        induction fu15 with
        | zero =>
          intro v2 v3 v4 v5 h H locs ls hw
          exact (zl_0 hw).elim
        | succ fu15 ih15 =>
          intro v2 v3 v4 v5 h H locs ls hw hl hP hS
          have hw := zl_s hw
          generalize zl (stSequence_moveVariables_15 o post L3) fu15 = L15 at hw ih15
          have J63 : ∀ (v2 : Int32) (v3 : Int32) (v4 : Int32) (v5 : Int32) (h : zM) (H : Heap) (locs : List Loc) (ls : Array Slot), wbSequence_moveVariables_63 o post L3 L15 v2 v3 v4 v5 h → lv_has ls 6 [(0, .ref (ad o)), (2, .int v2), (3, .int v3), (4, .int v4), (5, .int v5)] → va_P D zcl (zW N ad F h) H → va_S A s.heap H locs → W p l e rmSequence_moveVariables s m ([.ref (ad o), .int x1, .int x2, .int x3] : List Value).toArray below meth c H locs 0 0 (zQv post D tys N ad F A below ([.ref (ad o), .int x1, .int x2, .int x3] : List Value).toArray s) (F0 m 63 ls []) := by
            intro v2 v3 v4 v5 h H locs ls hw hl hP hS
            unfold wbSequence_moveVariables_63 at hw
            refine lv_iinc (v := (v5 + 1)) (lv' := [(5, .int (v5 + 1)), (0, .ref (ad o)), (2, .int v2), (3, .int v3), (4, .int v4)]) (k := 4) S.1 S.2.1 dSequence_moveVariables_63 hl rfl rfl (by decide) rfl (fun ls hl => ?_)
            refine lv_goto S.1 S.2.1 dSequence_moveVariables_66 rfl ?_
            exact ih15 _ _ _ _ _ _ _ _ hw (lv_sub hl [1, 2, 3, 4, 0] rfl) hP hS
          unfold stSequence_moveVariables_15 at hw
          dsimp only at hw
          refine lv_iload S.1 S.2.1 dSequence_moveVariables_15 (lv_at hl 4 rfl) ?_
          refine lv_iconst (v := 2) S.1 S.2.1 dSequence_moveVariables_17 (by decide) ?_
          refine lv_icmp_ge S.1 S.2.1 dSequence_moveVariables_18 rfl (fun hc => ?_) (fun hc => ?_)
          · have hw := hw.1 hc
            refine lv_iinc (v := (v4 + 1)) (lv' := [(4, .int (v4 + 1)), (0, .ref (ad o)), (2, .int v2), (3, .int v3), (5, .int v5)]) (k := 3) S.1 S.2.1 dSequence_moveVariables_69 hl rfl rfl (by decide) rfl (fun ls hl => ?_)
            refine lv_goto S.1 S.2.1 dSequence_moveVariables_72 rfl ?_
            exact ih3 _ _ _ _ _ _ _ hw (lv_sub hl [1, 2, 3, 0] rfl) hP hS
          · have hw := hw.2 hc
            refine lv_aload_n S.1 S.2.1 dSequence_moveVariables_21 rfl (lv_at hl 0 rfl) ?_
            refine lv_iload S.1 S.2.1 dSequence_moveVariables_22 (lv_at hl 3 rfl) ?_
            refine lv_iload S.1 S.2.1 dSequence_moveVariables_24 (lv_at hl 4 rfl) ?_
            refine zr_i (zr_V (As := [.int v4, .int v5]) (rest := []) S hK hT hN hP hS (Nat.lt_of_succ_lt (hq).1) ((hq).2.1 _) rfl (cSequence_isVariable l D tys N ad F A hJ cI hI o hq _ _ _ _ hw) caSequence_33 ⟨Nat.le_of_ble_eq_true rfl, Nat.le_of_ble_eq_true rfl⟩ ⟨rfl, rfl⟩ rfl hl.1 rfl (Nat.le_of_ble_eq_true rfl) dSequence_moveVariables_26) hS (fun r26 h26 H locs hw hP hS => ?_)
            refine lv_if_eq S.1 S.2.1 dSequence_moveVariables_29 rfl (fun hc => ?_) (fun hc => ?_)
            · have hw := hw.1 hc
              exact J63 _ _ _ _ _ _ _ _ hw (lv_sub hl [0, 1, 2, 3, 4] rfl) hP hS
            · have hw := hw.2 hc
              refine lv_aload_n S.1 S.2.1 dSequence_moveVariables_32 rfl (lv_at hl 0 rfl) ?_
              refine lv_iload S.1 S.2.1 dSequence_moveVariables_33 (lv_at hl 3 rfl) ?_
              refine lv_iload S.1 S.2.1 dSequence_moveVariables_35 (lv_at hl 4 rfl) ?_
              refine zr_i (zr_V (As := [.int v4, .int v5]) (rest := []) S hK hT hN hP hS (Nat.lt_of_succ_lt (hq).1) ((hq).2.1 _) rfl (cSequence_content l D tys N ad F A hJ cI hI o hq _ _ _ _ hw) caSequence_37 ⟨Nat.le_of_ble_eq_true rfl, Nat.le_of_ble_eq_true rfl⟩ ⟨rfl, rfl⟩ rfl hl.1 rfl (Nat.le_of_ble_eq_true rfl) dSequence_moveVariables_37) hS (fun r37 h37 H locs hw hP hS => ?_)
              refine lv_iload_n S.1 S.2.1 dSequence_moveVariables_40 rfl (lv_at hl 1 rfl) ?_
              refine lv_icmp_lt S.1 S.2.1 dSequence_moveVariables_41 rfl (fun hc => ?_) (fun hc => ?_)
              · have hw := hw.1 hc
                exact J63 _ _ _ _ _ _ _ _ hw (lv_sub hl [0, 1, 2, 3, 4] rfl) hP hS
              · have hw := hw.2 hc
                refine lv_aload_n S.1 S.2.1 dSequence_moveVariables_44 rfl (lv_at hl 0 rfl) ?_
                refine lv_iload S.1 S.2.1 dSequence_moveVariables_45 (lv_at hl 3 rfl) ?_
                refine lv_iload S.1 S.2.1 dSequence_moveVariables_47 (lv_at hl 4 rfl) ?_
                refine lv_iconst (v := 0) S.1 S.2.1 dSequence_moveVariables_49 (by decide) ?_
                refine lv_aload_n S.1 S.2.1 dSequence_moveVariables_50 rfl (lv_at hl 0 rfl) ?_
                refine lv_iload S.1 S.2.1 dSequence_moveVariables_51 (lv_at hl 3 rfl) ?_
                refine lv_iload S.1 S.2.1 dSequence_moveVariables_53 (lv_at hl 4 rfl) ?_
                refine zr_i (zr_V (As := [.int v4, .int v5]) (rest := [.int 0, .int v5, .int v4, .ref (ad o)]) S hK hT hN hP hS (Nat.lt_of_succ_lt (hq).1) ((hq).2.1 _) rfl (cSequence_content l D tys N ad F A hJ cI hI o hq _ _ _ _ hw) caSequence_37 ⟨Nat.le_of_ble_eq_true rfl, Nat.le_of_ble_eq_true rfl⟩ ⟨rfl, rfl⟩ rfl hl.1 rfl (Nat.le_of_ble_eq_true rfl) dSequence_moveVariables_55) hS (fun r55 h55 H locs hw hP hS => ?_)
                refine lv_iload_n S.1 S.2.1 dSequence_moveVariables_58 rfl (lv_at hl 2 rfl) ?_
                refine lv_iadd S.1 S.2.1 dSequence_moveVariables_59 ?_
                refine zr_v (zr_V (As := [.int v4, .int v5, .int 0, .int (r55 + v3)]) (rest := []) S hK hT hN hP hS (Nat.lt_of_succ_lt (hq).1) ((hq).2.1 _) rfl (cSequence_setArgument l D tys N ad F A hJ cI hI o hq _ _ _ _ _ _ hw) caSequence_19 ⟨Nat.le_of_ble_eq_true rfl, Nat.le_of_ble_eq_true rfl⟩ ⟨rfl, rfl⟩ rfl hl.1 rfl (Nat.le_of_ble_eq_true rfl) dSequence_moveVariables_60) hS (fun h60 H locs hw hP hS => ?_)
                exact J63 _ _ _ _ _ _ _ _ hw (lv_sub hl [0, 1, 2, 3, 4] rfl) hP hS
      unfold stSequence_moveVariables_3 at hw
      dsimp only at hw
      refine lv_iload S.1 S.2.1 dSequence_moveVariables_3 (lv_at hl 3 rfl) ?_
      refine lv_aload_n S.1 S.2.1 dSequence_moveVariables_5 rfl (lv_at hl 0 rfl) ?_
      refine zr_get S hK hP (Nat.lt_of_succ_lt (hq).1) ((hq).2.1 _) fSequence_size q182 rfl dSequence_moveVariables_6 ?_
      refine lv_icmp_ge S.1 S.2.1 dSequence_moveVariables_9 rfl (fun hc => ?_) (fun hc => ?_)
      · have hw := hw.1 hc
        exact zr_vret S hr hlk hK hP hS hw dSequence_moveVariables_75
      · have hw := hw.2 hc
        refine lv_iconst (v := 0) S.1 S.2.1 dSequence_moveVariables_12 (by decide) ?_
        refine lv_istore (lv' := [(5, .int 0), (0, .ref (ad o)), (2, .int v2), (3, .int v3), (4, .int v4)]) S.1 S.2.1 dSequence_moveVariables_13 hl (by decide) rfl (fun ls hl => ?_)
        obtain ⟨fu, hw⟩ := hw
        exact J15 fu _ _ _ _ _ _ _ _ hw (lv_sub hl [1, 2, 3, 4, 0] rfl) hP hS
  unfold wpSequence_moveVariables at hw
  refine lv_iload_n S.1 S.2.1 dSequence_moveVariables_0 rfl (lv_at hl 1 rfl) ?_
  refine lv_istore (lv' := [(4, .int x1), (0, .ref (ad o)), (1, .int x1), (2, .int x2), (3, .int x3)]) S.1 S.2.1 dSequence_moveVariables_1 hl (by decide) rfl (fun ls hl => ?_)
  obtain ⟨fu, hw⟩ := hw
  exact J3 fu _ _ _ _ _ _ _ hw (lv_sub hl [1, 3, 4, 0] rfl) hP hS
/-! Sequence.append -/
theorem dSequence_append_0 : decode bSequence_append 0 = .ok (.aload_n 0, 1) := by decide +kernel
theorem dSequence_append_1 : decode bSequence_append 1 = .ok (.getfield 15, 3) := by decide +kernel
theorem dSequence_append_4 : decode bSequence_append 4 = .ok (.istore_n 2, 1) := by decide +kernel
theorem dSequence_append_5 : decode bSequence_append 5 = .ok (.aload_n 1, 1) := by decide +kernel
theorem dSequence_append_6 : decode bSequence_append 6 = .ok (.getfield 9, 3) := by decide +kernel
theorem dSequence_append_9 : decode bSequence_append 9 = .ok (.iconst 0, 1) := by decide +kernel
theorem dSequence_append_10 : decode bSequence_append 10 = .ok (.aload_n 0, 1) := by decide +kernel
theorem dSequence_append_11 : decode bSequence_append 11 = .ok (.getfield 9, 3) := by decide +kernel
theorem dSequence_append_14 : decode bSequence_append 14 = .ok (.iload_n 2, 1) := by decide +kernel
theorem dSequence_append_15 : decode bSequence_append 15 = .ok (.iconst 5, 1) := by decide +kernel
theorem dSequence_append_16 : decode bSequence_append 16 = .ok (.imul, 1) := by decide +kernel
theorem dSequence_append_17 : decode bSequence_append 17 = .ok (.aload_n 1, 1) := by decide +kernel
theorem dSequence_append_18 : decode bSequence_append 18 = .ok (.getfield 15, 3) := by decide +kernel
theorem dSequence_append_21 : decode bSequence_append 21 = .ok (.iconst 5, 1) := by decide +kernel
theorem dSequence_append_22 : decode bSequence_append 22 = .ok (.imul, 1) := by decide +kernel
theorem dSequence_append_23 : decode bSequence_append 23 = .ok (.invokestatic 23, 3) := by decide +kernel
theorem dSequence_append_26 : decode bSequence_append 26 = .ok (.aload_n 0, 1) := by decide +kernel
theorem dSequence_append_27 : decode bSequence_append 27 = .ok (.dup, 1) := by decide +kernel
theorem dSequence_append_28 : decode bSequence_append 28 = .ok (.getfield 15, 3) := by decide +kernel
theorem dSequence_append_31 : decode bSequence_append 31 = .ok (.aload_n 1, 1) := by decide +kernel
theorem dSequence_append_32 : decode bSequence_append 32 = .ok (.getfield 15, 3) := by decide +kernel
theorem dSequence_append_35 : decode bSequence_append 35 = .ok (.iadd, 1) := by decide +kernel
theorem dSequence_append_36 : decode bSequence_append 36 = .ok (.putfield 15, 3) := by decide +kernel
theorem dSequence_append_39 : decode bSequence_append 39 = .ok (.aload_n 0, 1) := by decide +kernel
theorem dSequence_append_40 : decode bSequence_append 40 = .ok (.iload_n 2, 1) := by decide +kernel
theorem dSequence_append_41 : decode bSequence_append 41 = .ok (.iconst 0, 1) := by decide +kernel
theorem dSequence_append_42 : decode bSequence_append 42 = .ok (.iload_n 2, 1) := by decide +kernel
theorem dSequence_append_43 : decode bSequence_append 43 = .ok (.invokevirtual 29, 3) := by decide +kernel
theorem dSequence_append_46 : decode bSequence_append 46 = .ok (.return_, 1) := by decide +kernel
def wpSequence_append (o : Nat) (o1 : Nat) (h : zM) (post : zM → Prop) : Prop := ∀ y4 : Int32, y4 = (h o 0) → (¬ (0 : Int32) < 0 ∧ ¬ (y4 * 5) < 0 ∧ ¬ ((h o1 0) * 5) < 0 ∧ Int32.toNatClampNeg 0 + Int32.toNatClampNeg ((h o1 0) * 5) ≤ 50 ∧ Int32.toNatClampNeg (y4 * 5) + Int32.toNatClampNeg ((h o1 0) * 5) ≤ 50 ∧ ∀ h23 : zM, h23 = va_up h (o + 1) (va_cpy (h (o1 + 1)) (h (o + 1)) (Int32.toNatClampNeg 0) (Int32.toNatClampNeg (y4 * 5)) (Int32.toNatClampNeg ((h o1 0) * 5))) → ∀ h36 : zM, h36 = zu h23 o 0 ((h23 o 0) + (h23 o1 0)) → wpSequence_moveVariables o y4 0 y4 h36 (fun h43 => post h43))
abbrev rmSequence_append : Room := { frames := 2, cells := 0, slots := 0, locals := 49 }
set_option maxHeartbeats 4000000 in
set_option maxRecDepth 100000 in
theorem cSequence_append (l : Launch) (D : va_G) (tys : List (ClassId × FieldType)) (N : Nat) (ad : Nat → Nat) (F : zSh) (A : Nat → Prop) (hJ : zJ A N ad) (cI : ClassId) (hI : tys[0]? = some (cI, .int)) (o : Nat) (hq : zSeq N ad F cI o) (o1 : Nat) (hq1 : zSeq N ad F cI o1) (h : zM) (post : zM → Prop) (hw : wpSequence_append o o1 h post) : Met l ySequence_append (.code ySequence_append bSequence_append 3 none :: zt) rmSequence_append (va_Pc [.ref (ad o), .ref (ad o1)] (zPre D tys N ad F A h)) (va_Qv post (zPst D tys N ad F) A) 0 0 A := by
  refine Met.ofW (cc := bSequence_append) (maxL := 3) (ret := none) (by decide) rfl ?_
  intro p e s m args below meth c s₁ B hml hv
  obtain ⟨rfl, hP, hK, hT, hN⟩ := hv
  have hr := B.returns
  have hlk := B.notSynchronized
  have S : zS p m c bSequence_append 3 s _ "CallExplorer$Sequence" := ⟨B.exec, B.bytes, hml, findClass_of_methodNamed B.named, fun w hw => atoms_spec (ws := .code ySequence_append bSequence_append 3 none :: zt) B.pre w (List.mem_cons_of_mem _ hw)⟩
  have hS : va_S A s.heap s.heap [] := va_S.rf
  have hl := lv_entry ([.ref (ad o), .ref (ad o1)]) (n := 3) (Nat.le_of_ble_eq_true rfl)
  rw [lg_entry_eq]
  generalize (lg_sl ([.ref (ad o), .ref (ad o1)]) ++ List.replicate (3 - (lg_sl ([.ref (ad o), .ref (ad o1)])).length) Slot.unset).toArray = ls at hl ⊢
  have hl : lv_has ls 3 [(0, .ref (ad o)), (1, .ref (ad o1))] := hl
  show W p l e rmSequence_append s m ([.ref (ad o), .ref (ad o1)] : List Value).toArray below meth c s.heap [] 0 0 (zQv post D tys N ad F A below ([.ref (ad o), .ref (ad o1)] : List Value).toArray s) _
  unfold wpSequence_append at hw
  refine lv_aload_n S.1 S.2.1 dSequence_append_0 rfl (lv_at hl 0 rfl) ?_
  refine zr_get S hK hP (Nat.lt_of_succ_lt (hq).1) ((hq).2.1 _) fSequence_size q182 rfl dSequence_append_1 ?_
  refine lv_topi (fun y4 e4 => ?_)
  have hw := hw y4 e4
  refine lv_istore_n (lv' := [(2, .int y4), (0, .ref (ad o)), (1, .ref (ad o1))]) S.1 S.2.1 dSequence_append_4 rfl hl (by decide) rfl (fun ls hl => ?_)
  refine lv_aload_n S.1 S.2.1 dSequence_append_5 rfl (lv_at hl 2 rfl) ?_
  refine zr_get S hK hP (Nat.lt_of_succ_lt (hq1).1) ((hq1).2.1 _) fSequence_cells q185 rfl dSequence_append_6 ?_
  refine lv_iconst (v := 0) S.1 S.2.1 dSequence_append_9 (by decide) ?_
  refine lv_aload_n S.1 S.2.1 dSequence_append_10 rfl (lv_at hl 1 rfl) ?_
  refine zr_get S hK hP (Nat.lt_of_succ_lt (hq).1) ((hq).2.1 _) fSequence_cells q185 rfl dSequence_append_11 ?_
  refine lv_iload_n S.1 S.2.1 dSequence_append_14 rfl (lv_at hl 0 rfl) ?_
  refine lv_iconst (v := 5) S.1 S.2.1 dSequence_append_15 (by decide) ?_
  refine lv_imul S.1 S.2.1 dSequence_append_16 ?_
  refine lv_aload_n S.1 S.2.1 dSequence_append_17 rfl (lv_at hl 2 rfl) ?_
  refine zr_get S hK hP (Nat.lt_of_succ_lt (hq1).1) ((hq1).2.1 _) fSequence_size q182 rfl dSequence_append_18 ?_
  refine lv_iconst (v := 5) S.1 S.2.1 dSequence_append_21 (by decide) ?_
  refine lv_imul S.1 S.2.1 dSequence_append_22 ?_
  obtain ⟨a1, a2, a3, a4, a5, hw⟩ := hw
  refine zr_copy S hl.1 hK hJ hP hS (hq1).1 ((hq1).2.2 _) (hq).1 (hq).2.2 0 hI q416 q418 q417 q12 a1 a2 a3 a4 a5 (Nat.le_of_ble_eq_true rfl) (Nat.le_of_ble_eq_true rfl) dSequence_append_23 (fun h23 H locs e23 hP hS => ?_)
  have hw := hw h23 e23
  refine lv_aload_n S.1 S.2.1 dSequence_append_26 rfl (lv_at hl 1 rfl) ?_
  refine lv_dup S.1 S.2.1 dSequence_append_27 rfl ?_
  refine zr_get S hK hP (Nat.lt_of_succ_lt (hq).1) ((hq).2.1 _) fSequence_size q182 rfl dSequence_append_28 ?_
  refine lv_aload_n S.1 S.2.1 dSequence_append_31 rfl (lv_at hl 2 rfl) ?_
  refine zr_get S hK hP (Nat.lt_of_succ_lt (hq1).1) ((hq1).2.1 _) fSequence_size q182 rfl dSequence_append_32 ?_
  refine lv_iadd S.1 S.2.1 dSequence_append_35 ?_
  refine zr_put S hK hJ hP hS (Nat.lt_of_succ_lt (hq).1) ((hq).2.1 _) fSequence_size q182 rfl rfl (Nat.le_of_ble_eq_true rfl) ((hq).2.1 _) dSequence_append_36 (fun h36 H locs e36 hP hS => ?_)
  have hw := hw h36 e36
  refine lv_aload_n S.1 S.2.1 dSequence_append_39 rfl (lv_at hl 1 rfl) ?_
  refine lv_iload_n S.1 S.2.1 dSequence_append_40 rfl (lv_at hl 0 rfl) ?_
  refine lv_iconst (v := 0) S.1 S.2.1 dSequence_append_41 (by decide) ?_
  refine lv_iload_n S.1 S.2.1 dSequence_append_42 rfl (lv_at hl 0 rfl) ?_
  refine zr_v (zr_V (As := [.int y4, .int 0, .int y4]) (rest := []) S hK hT hN hP hS (Nat.lt_of_succ_lt (hq).1) ((hq).2.1 _) rfl (cSequence_moveVariables l D tys N ad F A hJ cI hI o hq _ _ _ _ _ hw) caSequence_29 ⟨Nat.le_of_ble_eq_true rfl, Nat.le_of_ble_eq_true rfl⟩ ⟨rfl, rfl⟩ rfl hl.1 rfl (Nat.le_of_ble_eq_true rfl) dSequence_append_43) hS (fun h43 H locs hw hP hS => ?_)
  exact zr_vret S hr hlk hK hP hS hw dSequence_append_46
/-! Sequence.copy -/
theorem dSequence_copy_0 : decode bSequence_copy 0 = .ok (.aload_n 1, 1) := by decide +kernel
theorem dSequence_copy_1 : decode bSequence_copy 1 = .ok (.getfield 9, 3) := by decide +kernel
theorem dSequence_copy_4 : decode bSequence_copy 4 = .ok (.iconst 0, 1) := by decide +kernel
theorem dSequence_copy_5 : decode bSequence_copy 5 = .ok (.aload_n 0, 1) := by decide +kernel
theorem dSequence_copy_6 : decode bSequence_copy 6 = .ok (.getfield 9, 3) := by decide +kernel
theorem dSequence_copy_9 : decode bSequence_copy 9 = .ok (.iconst 0, 1) := by decide +kernel
theorem dSequence_copy_10 : decode bSequence_copy 10 = .ok (.aload_n 1, 1) := by decide +kernel
theorem dSequence_copy_11 : decode bSequence_copy 11 = .ok (.getfield 15, 3) := by decide +kernel
theorem dSequence_copy_14 : decode bSequence_copy 14 = .ok (.iconst 5, 1) := by decide +kernel
theorem dSequence_copy_15 : decode bSequence_copy 15 = .ok (.imul, 1) := by decide +kernel
theorem dSequence_copy_16 : decode bSequence_copy 16 = .ok (.invokestatic 23, 3) := by decide +kernel
theorem dSequence_copy_19 : decode bSequence_copy 19 = .ok (.aload_n 0, 1) := by decide +kernel
theorem dSequence_copy_20 : decode bSequence_copy 20 = .ok (.aload_n 1, 1) := by decide +kernel
theorem dSequence_copy_21 : decode bSequence_copy 21 = .ok (.getfield 15, 3) := by decide +kernel
theorem dSequence_copy_24 : decode bSequence_copy 24 = .ok (.putfield 15, 3) := by decide +kernel
theorem dSequence_copy_27 : decode bSequence_copy 27 = .ok (.return_, 1) := by decide +kernel
def wpSequence_copy (o : Nat) (o1 : Nat) (h : zM) (post : zM → Prop) : Prop := (¬ (0 : Int32) < 0 ∧ ¬ (0 : Int32) < 0 ∧ ¬ ((h o1 0) * 5) < 0 ∧ Int32.toNatClampNeg 0 + Int32.toNatClampNeg ((h o1 0) * 5) ≤ 50 ∧ Int32.toNatClampNeg 0 + Int32.toNatClampNeg ((h o1 0) * 5) ≤ 50 ∧ ∀ h16 : zM, h16 = va_up h (o + 1) (va_cpy (h (o1 + 1)) (h (o + 1)) (Int32.toNatClampNeg 0) (Int32.toNatClampNeg 0) (Int32.toNatClampNeg ((h o1 0) * 5))) → ∀ h24 : zM, h24 = zu h16 o 0 (h16 o1 0) → post h24)
abbrev rmSequence_copy : Room := { frames := 1, cells := 0, slots := 0, locals := 18 }
set_option maxHeartbeats 4000000 in
set_option maxRecDepth 100000 in
theorem cSequence_copy (l : Launch) (D : va_G) (tys : List (ClassId × FieldType)) (N : Nat) (ad : Nat → Nat) (F : zSh) (A : Nat → Prop) (hJ : zJ A N ad) (cI : ClassId) (hI : tys[0]? = some (cI, .int)) (o : Nat) (hq : zSeq N ad F cI o) (o1 : Nat) (hq1 : zSeq N ad F cI o1) (h : zM) (post : zM → Prop) (hw : wpSequence_copy o o1 h post) : Met l ySequence_copy (.code ySequence_copy bSequence_copy 2 none :: zt) rmSequence_copy (va_Pc [.ref (ad o), .ref (ad o1)] (zPre D tys N ad F A h)) (va_Qv post (zPst D tys N ad F) A) 0 0 A := by
  refine Met.ofW (cc := bSequence_copy) (maxL := 2) (ret := none) (by decide) rfl ?_
  intro p e s m args below meth c s₁ B hml hv
  obtain ⟨rfl, hP, hK, hT, hN⟩ := hv
  have hr := B.returns
  have hlk := B.notSynchronized
  have S : zS p m c bSequence_copy 2 s _ "CallExplorer$Sequence" := ⟨B.exec, B.bytes, hml, findClass_of_methodNamed B.named, fun w hw => atoms_spec (ws := .code ySequence_copy bSequence_copy 2 none :: zt) B.pre w (List.mem_cons_of_mem _ hw)⟩
  have hS : va_S A s.heap s.heap [] := va_S.rf
  have hl := lv_entry ([.ref (ad o), .ref (ad o1)]) (n := 2) (Nat.le_of_ble_eq_true rfl)
  rw [lg_entry_eq]
  generalize (lg_sl ([.ref (ad o), .ref (ad o1)]) ++ List.replicate (2 - (lg_sl ([.ref (ad o), .ref (ad o1)])).length) Slot.unset).toArray = ls at hl ⊢
  have hl : lv_has ls 2 [(0, .ref (ad o)), (1, .ref (ad o1))] := hl
  show W p l e rmSequence_copy s m ([.ref (ad o), .ref (ad o1)] : List Value).toArray below meth c s.heap [] 0 0 (zQv post D tys N ad F A below ([.ref (ad o), .ref (ad o1)] : List Value).toArray s) _
  unfold wpSequence_copy at hw
  refine lv_aload_n S.1 S.2.1 dSequence_copy_0 rfl (lv_at hl 1 rfl) ?_
  refine zr_get S hK hP (Nat.lt_of_succ_lt (hq1).1) ((hq1).2.1 _) fSequence_cells q185 rfl dSequence_copy_1 ?_
  refine lv_iconst (v := 0) S.1 S.2.1 dSequence_copy_4 (by decide) ?_
  refine lv_aload_n S.1 S.2.1 dSequence_copy_5 rfl (lv_at hl 0 rfl) ?_
  refine zr_get S hK hP (Nat.lt_of_succ_lt (hq).1) ((hq).2.1 _) fSequence_cells q185 rfl dSequence_copy_6 ?_
  refine lv_iconst (v := 0) S.1 S.2.1 dSequence_copy_9 (by decide) ?_
  refine lv_aload_n S.1 S.2.1 dSequence_copy_10 rfl (lv_at hl 1 rfl) ?_
  refine zr_get S hK hP (Nat.lt_of_succ_lt (hq1).1) ((hq1).2.1 _) fSequence_size q182 rfl dSequence_copy_11 ?_
  refine lv_iconst (v := 5) S.1 S.2.1 dSequence_copy_14 (by decide) ?_
  refine lv_imul S.1 S.2.1 dSequence_copy_15 ?_
  obtain ⟨a1, a2, a3, a4, a5, hw⟩ := hw
  refine zr_copy S hl.1 hK hJ hP hS (hq1).1 ((hq1).2.2 _) (hq).1 (hq).2.2 0 hI q416 q418 q417 q12 a1 a2 a3 a4 a5 (Nat.le_of_ble_eq_true rfl) (Nat.le_of_ble_eq_true rfl) dSequence_copy_16 (fun h16 H locs e16 hP hS => ?_)
  have hw := hw h16 e16
  refine lv_aload_n S.1 S.2.1 dSequence_copy_19 rfl (lv_at hl 0 rfl) ?_
  refine lv_aload_n S.1 S.2.1 dSequence_copy_20 rfl (lv_at hl 1 rfl) ?_
  refine zr_get S hK hP (Nat.lt_of_succ_lt (hq1).1) ((hq1).2.1 _) fSequence_size q182 rfl dSequence_copy_21 ?_
  refine zr_put S hK hJ hP hS (Nat.lt_of_succ_lt (hq).1) ((hq).2.1 _) fSequence_size q182 rfl rfl (Nat.le_of_ble_eq_true rfl) ((hq).2.1 _) dSequence_copy_24 (fun h24 H locs e24 hP hS => ?_)
  have hw := hw h24 e24
  exact zr_vret S hr hlk hK hP hS hw dSequence_copy_27
/-! Sequence.same -/
theorem dSequence_same_0 : decode bSequence_same 0 = .ok (.aload_n 0, 1) := by decide +kernel
theorem dSequence_same_1 : decode bSequence_same 1 = .ok (.getfield 15, 3) := by decide +kernel
theorem dSequence_same_4 : decode bSequence_same 4 = .ok (.aload_n 1, 1) := by decide +kernel
theorem dSequence_same_5 : decode bSequence_same 5 = .ok (.getfield 15, 3) := by decide +kernel
theorem dSequence_same_8 : decode bSequence_same 8 = .ok (.if_icmp .eq 5, 3) := by decide +kernel
theorem dSequence_same_11 : decode bSequence_same 11 = .ok (.iconst 0, 1) := by decide +kernel
theorem dSequence_same_12 : decode bSequence_same 12 = .ok (.ireturn, 1) := by decide +kernel
theorem dSequence_same_13 : decode bSequence_same 13 = .ok (.iconst 0, 1) := by decide +kernel
theorem dSequence_same_14 : decode bSequence_same 14 = .ok (.istore_n 2, 1) := by decide +kernel
theorem dSequence_same_15 : decode bSequence_same 15 = .ok (.iload_n 2, 1) := by decide +kernel
theorem dSequence_same_16 : decode bSequence_same 16 = .ok (.aload_n 0, 1) := by decide +kernel
theorem dSequence_same_17 : decode bSequence_same 17 = .ok (.getfield 15, 3) := by decide +kernel
theorem dSequence_same_20 : decode bSequence_same 20 = .ok (.iconst 5, 1) := by decide +kernel
theorem dSequence_same_21 : decode bSequence_same 21 = .ok (.imul, 1) := by decide +kernel
theorem dSequence_same_22 : decode bSequence_same 22 = .ok (.if_icmp .ge 26, 3) := by decide +kernel
theorem dSequence_same_25 : decode bSequence_same 25 = .ok (.aload_n 0, 1) := by decide +kernel
theorem dSequence_same_26 : decode bSequence_same 26 = .ok (.getfield 9, 3) := by decide +kernel
theorem dSequence_same_29 : decode bSequence_same 29 = .ok (.iload_n 2, 1) := by decide +kernel
theorem dSequence_same_30 : decode bSequence_same 30 = .ok (.iaload, 1) := by decide +kernel
theorem dSequence_same_31 : decode bSequence_same 31 = .ok (.aload_n 1, 1) := by decide +kernel
theorem dSequence_same_32 : decode bSequence_same 32 = .ok (.getfield 9, 3) := by decide +kernel
theorem dSequence_same_35 : decode bSequence_same 35 = .ok (.iload_n 2, 1) := by decide +kernel
theorem dSequence_same_36 : decode bSequence_same 36 = .ok (.iaload, 1) := by decide +kernel
theorem dSequence_same_37 : decode bSequence_same 37 = .ok (.if_icmp .eq 5, 3) := by decide +kernel
theorem dSequence_same_40 : decode bSequence_same 40 = .ok (.iconst 0, 1) := by decide +kernel
theorem dSequence_same_41 : decode bSequence_same 41 = .ok (.ireturn, 1) := by decide +kernel
theorem dSequence_same_42 : decode bSequence_same 42 = .ok (.iinc 2 1, 3) := by decide +kernel
theorem dSequence_same_45 : decode bSequence_same 45 = .ok (.goto (-30), 3) := by decide +kernel
theorem dSequence_same_48 : decode bSequence_same 48 = .ok (.iconst 1, 1) := by decide +kernel
theorem dSequence_same_49 : decode bSequence_same 49 = .ok (.ireturn, 1) := by decide +kernel
def stSequence_same_15 (o : Nat) (o1 : Nat) (post : Int32 → zM → Prop) (L15 : (Int32 × zM) → Prop) : (Int32 × zM) → Prop := fun s => match s with
  | (v2, h) => (((((h o 0) * 5) ≤ v2) → post 1 h) ∧ (¬ (((h o 0) * 5) ≤ v2) → (vp_in v2 50 ∧ (vp_in v2 50 ∧ (((h (o + 1) (Int32.toNatClampNeg v2)) = (h (o1 + 1) (Int32.toNatClampNeg v2)) → L15 ((v2 + 1), h)) ∧ (¬ (h (o + 1) (Int32.toNatClampNeg v2)) = (h (o1 + 1) (Int32.toNatClampNeg v2)) → post 0 h))))))
def wpSequence_same (o : Nat) (o1 : Nat) (h : zM) (post : Int32 → zM → Prop) : Prop := (((h o 0) = (h o1 0) → zL (stSequence_same_15 o o1 post) (0, h)) ∧ (¬ (h o 0) = (h o1 0) → post 0 h))
abbrev rmSequence_same : Room := { frames := 0, cells := 0, slots := 0, locals := 0 }
set_option maxHeartbeats 4000000 in
set_option maxRecDepth 100000 in
theorem cSequence_same (l : Launch) (D : va_G) (tys : List (ClassId × FieldType)) (N : Nat) (ad : Nat → Nat) (F : zSh) (A : Nat → Prop) (hJ : zJ A N ad) (cI : ClassId) (hI : tys[0]? = some (cI, .int)) (o : Nat) (hq : zSeq N ad F cI o) (o1 : Nat) (hq1 : zSeq N ad F cI o1) (h : zM) (post : Int32 → zM → Prop) (hw : wpSequence_same o o1 h post) : Met l ySequence_same (.code ySequence_same bSequence_same 3 (some .boolean) :: zt) rmSequence_same (va_Pc [.ref (ad o), .ref (ad o1)] (zPre D tys N ad F A h)) (va_Qi post (zPst D tys N ad F) A) 0 0 A := by
  refine Met.ofW (cc := bSequence_same) (maxL := 3) (ret := (some .boolean)) (by decide) rfl ?_
  intro p e s m args below meth c s₁ B hml hv
  obtain ⟨rfl, hP, hK, hT, hN⟩ := hv
  have hr := B.returns
  have hlk := B.notSynchronized
  have S : zS p m c bSequence_same 3 s _ "CallExplorer$Sequence" := ⟨B.exec, B.bytes, hml, findClass_of_methodNamed B.named, fun w hw => atoms_spec (ws := .code ySequence_same bSequence_same 3 (some .boolean) :: zt) B.pre w (List.mem_cons_of_mem _ hw)⟩
  have hS : va_S A s.heap s.heap [] := va_S.rf
  have hl := lv_entry ([.ref (ad o), .ref (ad o1)]) (n := 3) (Nat.le_of_ble_eq_true rfl)
  rw [lg_entry_eq]
  generalize (lg_sl ([.ref (ad o), .ref (ad o1)]) ++ List.replicate (3 - (lg_sl ([.ref (ad o), .ref (ad o1)])).length) Slot.unset).toArray = ls at hl ⊢
  have hl : lv_has ls 3 [(0, .ref (ad o)), (1, .ref (ad o1))] := hl
  show W p l e rmSequence_same s m ([.ref (ad o), .ref (ad o1)] : List Value).toArray below meth c s.heap [] 0 0 (zQi post D tys N ad F A below ([.ref (ad o), .ref (ad o1)] : List Value).toArray s) _
  have J15 : ∀ (fu : Nat) (v2 : Int32) (h : zM) (H : Heap) (locs : List Loc) (ls : Array Slot), zl (stSequence_same_15 o o1 post) fu (v2, h) → lv_has ls 3 [(0, .ref (ad o)), (1, .ref (ad o1)), (2, .int v2)] → va_P D zcl (zW N ad F h) H → va_S A s.heap H locs → W p l e rmSequence_same s m ([.ref (ad o), .ref (ad o1)] : List Value).toArray below meth c H locs 0 0 (zQi post D tys N ad F A below ([.ref (ad o), .ref (ad o1)] : List Value).toArray s) (F0 m 15 ls []) := by
    intro fu15
    induction fu15 with
    | zero =>
      intro v2 h H locs ls hw
      exact (zl_0 hw).elim
    | succ fu15 ih15 =>
      intro v2 h H locs ls hw hl hP hS
      have hw := zl_s hw
      generalize zl (stSequence_same_15 o o1 post) fu15 = L15 at hw ih15
      unfold stSequence_same_15 at hw
      dsimp only at hw
      refine lv_iload_n S.1 S.2.1 dSequence_same_15 rfl (lv_at hl 2 rfl) ?_
      refine lv_aload_n S.1 S.2.1 dSequence_same_16 rfl (lv_at hl 0 rfl) ?_
      refine zr_get S hK hP (Nat.lt_of_succ_lt (hq).1) ((hq).2.1 _) fSequence_size q182 rfl dSequence_same_17 ?_
      refine lv_iconst (v := 5) S.1 S.2.1 dSequence_same_20 (by decide) ?_
      refine lv_imul S.1 S.2.1 dSequence_same_21 ?_
      refine lv_icmp_ge S.1 S.2.1 dSequence_same_22 rfl (fun hc => ?_) (fun hc => ?_)
      · have hw := hw.1 hc
        refine lv_iconst (v := 1) S.1 S.2.1 dSequence_same_48 (by decide) ?_
        exact zr_iret S hr hlk hK hP hS rfl hw dSequence_same_49
      · have hw := hw.2 hc
        refine lv_aload_n S.1 S.2.1 dSequence_same_25 rfl (lv_at hl 0 rfl) ?_
        refine zr_get S hK hP (Nat.lt_of_succ_lt (hq).1) ((hq).2.1 _) fSequence_cells q185 rfl dSequence_same_26 ?_
        refine lv_iload_n S.1 S.2.1 dSequence_same_29 rfl (lv_at hl 2 rfl) ?_
        obtain ⟨z30, hw⟩ := hw
        refine zr_ald S hK hP (hq).1 ((hq).2.2 _) 0 hI z30 dSequence_same_30 ?_
        refine lv_aload_n S.1 S.2.1 dSequence_same_31 rfl (lv_at hl 1 rfl) ?_
        refine zr_get S hK hP (Nat.lt_of_succ_lt (hq1).1) ((hq1).2.1 _) fSequence_cells q185 rfl dSequence_same_32 ?_
        refine lv_iload_n S.1 S.2.1 dSequence_same_35 rfl (lv_at hl 2 rfl) ?_
        obtain ⟨z36, hw⟩ := hw
        refine zr_ald S hK hP (hq1).1 ((hq1).2.2 _) 0 hI z36 dSequence_same_36 ?_
        refine lv_icmp_eq S.1 S.2.1 dSequence_same_37 rfl (fun hc => ?_) (fun hc => ?_)
        · have hw := hw.1 hc
          refine lv_iinc (v := (v2 + 1)) (lv' := [(2, .int (v2 + 1)), (0, .ref (ad o)), (1, .ref (ad o1))]) (k := 2) S.1 S.2.1 dSequence_same_42 hl rfl rfl (by decide) rfl (fun ls hl => ?_)
          refine lv_goto S.1 S.2.1 dSequence_same_45 rfl ?_
          exact ih15 _ _ _ _ _ hw (lv_sub hl [1, 2, 0] rfl) hP hS
        · have hw := hw.2 hc
          refine lv_iconst (v := 0) S.1 S.2.1 dSequence_same_40 (by decide) ?_
          exact zr_iret S hr hlk hK hP hS rfl hw dSequence_same_41
  unfold wpSequence_same at hw
  refine lv_aload_n S.1 S.2.1 dSequence_same_0 rfl (lv_at hl 0 rfl) ?_
  refine zr_get S hK hP (Nat.lt_of_succ_lt (hq).1) ((hq).2.1 _) fSequence_size q182 rfl dSequence_same_1 ?_
  refine lv_aload_n S.1 S.2.1 dSequence_same_4 rfl (lv_at hl 1 rfl) ?_
  refine zr_get S hK hP (Nat.lt_of_succ_lt (hq1).1) ((hq1).2.1 _) fSequence_size q182 rfl dSequence_same_5 ?_
  refine lv_icmp_eq S.1 S.2.1 dSequence_same_8 rfl (fun hc => ?_) (fun hc => ?_)
  · have hw := hw.1 hc
    refine lv_iconst (v := 0) S.1 S.2.1 dSequence_same_13 (by decide) ?_
    refine lv_istore_n (lv' := [(2, .int 0), (0, .ref (ad o)), (1, .ref (ad o1))]) S.1 S.2.1 dSequence_same_14 rfl hl (by decide) rfl (fun ls hl => ?_)
    obtain ⟨fu, hw⟩ := hw
    exact J15 fu _ _ _ _ _ hw (lv_sub hl [1, 2, 0] rfl) hP hS
  · have hw := hw.2 hc
    refine lv_iconst (v := 0) S.1 S.2.1 dSequence_same_11 (by decide) ?_
    exact zr_iret S hr hlk hK hP hS rfl hw dSequence_same_12
/-! Sequence.usesLater -/
theorem dSequence_usesLater_0 : decode bSequence_usesLater 0 = .ok (.iload_n 1, 1) := by decide +kernel
theorem dSequence_usesLater_1 : decode bSequence_usesLater 1 = .ok (.iconst 1, 1) := by decide +kernel
theorem dSequence_usesLater_2 : decode bSequence_usesLater 2 = .ok (.iadd, 1) := by decide +kernel
theorem dSequence_usesLater_3 : decode bSequence_usesLater 3 = .ok (.istore_n 2, 1) := by decide +kernel
theorem dSequence_usesLater_4 : decode bSequence_usesLater 4 = .ok (.iload_n 2, 1) := by decide +kernel
theorem dSequence_usesLater_5 : decode bSequence_usesLater 5 = .ok (.aload_n 0, 1) := by decide +kernel
theorem dSequence_usesLater_6 : decode bSequence_usesLater 6 = .ok (.getfield 15, 3) := by decide +kernel
theorem dSequence_usesLater_9 : decode bSequence_usesLater 9 = .ok (.if_icmp .ge 43, 3) := by decide +kernel
theorem dSequence_usesLater_12 : decode bSequence_usesLater 12 = .ok (.iconst 0, 1) := by decide +kernel
theorem dSequence_usesLater_13 : decode bSequence_usesLater 13 = .ok (.istore_n 3, 1) := by decide +kernel
theorem dSequence_usesLater_14 : decode bSequence_usesLater 14 = .ok (.iload_n 3, 1) := by decide +kernel
theorem dSequence_usesLater_15 : decode bSequence_usesLater 15 = .ok (.iconst 2, 1) := by decide +kernel
theorem dSequence_usesLater_16 : decode bSequence_usesLater 16 = .ok (.if_icmp .ge 30, 3) := by decide +kernel
theorem dSequence_usesLater_19 : decode bSequence_usesLater 19 = .ok (.aload_n 0, 1) := by decide +kernel
theorem dSequence_usesLater_20 : decode bSequence_usesLater 20 = .ok (.iload_n 2, 1) := by decide +kernel
theorem dSequence_usesLater_21 : decode bSequence_usesLater 21 = .ok (.iload_n 3, 1) := by decide +kernel
theorem dSequence_usesLater_22 : decode bSequence_usesLater 22 = .ok (.invokevirtual 33, 3) := by decide +kernel
theorem dSequence_usesLater_25 : decode bSequence_usesLater 25 = .ok (.ifCond .eq 15, 3) := by decide +kernel
theorem dSequence_usesLater_28 : decode bSequence_usesLater 28 = .ok (.aload_n 0, 1) := by decide +kernel
theorem dSequence_usesLater_29 : decode bSequence_usesLater 29 = .ok (.iload_n 2, 1) := by decide +kernel
theorem dSequence_usesLater_30 : decode bSequence_usesLater 30 = .ok (.iload_n 3, 1) := by decide +kernel
theorem dSequence_usesLater_31 : decode bSequence_usesLater 31 = .ok (.invokevirtual 37, 3) := by decide +kernel
theorem dSequence_usesLater_34 : decode bSequence_usesLater 34 = .ok (.iload_n 1, 1) := by decide +kernel
theorem dSequence_usesLater_35 : decode bSequence_usesLater 35 = .ok (.if_icmp .ne 5, 3) := by decide +kernel
theorem dSequence_usesLater_38 : decode bSequence_usesLater 38 = .ok (.iconst 1, 1) := by decide +kernel
theorem dSequence_usesLater_39 : decode bSequence_usesLater 39 = .ok (.ireturn, 1) := by decide +kernel
theorem dSequence_usesLater_40 : decode bSequence_usesLater 40 = .ok (.iinc 3 1, 3) := by decide +kernel
theorem dSequence_usesLater_43 : decode bSequence_usesLater 43 = .ok (.goto (-29), 3) := by decide +kernel
theorem dSequence_usesLater_46 : decode bSequence_usesLater 46 = .ok (.iinc 2 1, 3) := by decide +kernel
theorem dSequence_usesLater_49 : decode bSequence_usesLater 49 = .ok (.goto (-45), 3) := by decide +kernel
theorem dSequence_usesLater_52 : decode bSequence_usesLater 52 = .ok (.iconst 0, 1) := by decide +kernel
theorem dSequence_usesLater_53 : decode bSequence_usesLater 53 = .ok (.ireturn, 1) := by decide +kernel
def wbSequence_usesLater_40 (o : Nat) (post : Int32 → zM → Prop) (L4 : (Int32 × Int32 × zM) → Prop) (L14 : (Int32 × Int32 × Int32 × zM) → Prop) (v1 : Int32) (v2 : Int32) (v3 : Int32) (h : zM) : Prop := L14 (v1, v2, (v3 + 1), h)
def stSequence_usesLater_14 (o : Nat) (post : Int32 → zM → Prop) (L4 : (Int32 × Int32 × zM) → Prop) (L14 : (Int32 × Int32 × Int32 × zM) → Prop) : (Int32 × Int32 × Int32 × zM) → Prop := fun s => match s with
  | (v1, v2, v3, h) => (((2 ≤ v3) → L4 (v1, (v2 + 1), h)) ∧ (¬ (2 ≤ v3) → wpSequence_isVariable o v2 v3 h (fun r22 h22 => ((r22 = 0 → wbSequence_usesLater_40 o post L4 L14 v1 v2 v3 h22) ∧ (¬ r22 = 0 → wpSequence_content o v2 v3 h22 (fun r31 h31 => ((¬ r31 = v1 → wbSequence_usesLater_40 o post L4 L14 v1 v2 v3 h31) ∧ (r31 = v1 → post 1 h31))))))))
def stSequence_usesLater_4 (o : Nat) (post : Int32 → zM → Prop) (L4 : (Int32 × Int32 × zM) → Prop) : (Int32 × Int32 × zM) → Prop := fun s => match s with
  | (v1, v2, h) => ((((h o 0) ≤ v2) → post 0 h) ∧ (¬ ((h o 0) ≤ v2) → zL (stSequence_usesLater_14 o post L4) (v1, v2, 0, h)))
def wpSequence_usesLater (o : Nat) (x1 : Int32) (h : zM) (post : Int32 → zM → Prop) : Prop := ∀ y3 : Int32, y3 = (x1 + 1) → zL (stSequence_usesLater_4 o post) (x1, y3, h)
abbrev rmSequence_usesLater : Room := { frames := 1, cells := 0, slots := 0, locals := 22 }
set_option maxHeartbeats 4000000 in
set_option maxRecDepth 100000 in
theorem cSequence_usesLater (l : Launch) (D : va_G) (tys : List (ClassId × FieldType)) (N : Nat) (ad : Nat → Nat) (F : zSh) (A : Nat → Prop) (hJ : zJ A N ad) (cI : ClassId) (hI : tys[0]? = some (cI, .int)) (o : Nat) (hq : zSeq N ad F cI o) (x1 : Int32) (h : zM) (post : Int32 → zM → Prop) (hw : wpSequence_usesLater o x1 h post) : Met l ySequence_usesLater (.code ySequence_usesLater bSequence_usesLater 4 (some .boolean) :: zt) rmSequence_usesLater (va_Pc [.ref (ad o), .int x1] (zPre D tys N ad F A h)) (va_Qi post (zPst D tys N ad F) A) 0 0 A := by
  refine Met.ofW (cc := bSequence_usesLater) (maxL := 4) (ret := (some .boolean)) (by decide) rfl ?_
  intro p e s m args below meth c s₁ B hml hv
  obtain ⟨rfl, hP, hK, hT, hN⟩ := hv
  have hr := B.returns
  have hlk := B.notSynchronized
  have S : zS p m c bSequence_usesLater 4 s _ "CallExplorer$Sequence" := ⟨B.exec, B.bytes, hml, findClass_of_methodNamed B.named, fun w hw => atoms_spec (ws := .code ySequence_usesLater bSequence_usesLater 4 (some .boolean) :: zt) B.pre w (List.mem_cons_of_mem _ hw)⟩
  have hS : va_S A s.heap s.heap [] := va_S.rf
  have hl := lv_entry ([.ref (ad o), .int x1]) (n := 4) (Nat.le_of_ble_eq_true rfl)
  rw [lg_entry_eq]
  generalize (lg_sl ([.ref (ad o), .int x1]) ++ List.replicate (4 - (lg_sl ([.ref (ad o), .int x1])).length) Slot.unset).toArray = ls at hl ⊢
  have hl : lv_has ls 4 [(0, .ref (ad o)), (1, .int x1)] := hl
  show W p l e rmSequence_usesLater s m ([.ref (ad o), .int x1] : List Value).toArray below meth c s.heap [] 0 0 (zQi post D tys N ad F A below ([.ref (ad o), .int x1] : List Value).toArray s) _
  have J4 : ∀ (fu : Nat) (v1 : Int32) (v2 : Int32) (h : zM) (H : Heap) (locs : List Loc) (ls : Array Slot), zl (stSequence_usesLater_4 o post) fu (v1, v2, h) → lv_has ls 4 [(0, .ref (ad o)), (1, .int v1), (2, .int v2)] → va_P D zcl (zW N ad F h) H → va_S A s.heap H locs → W p l e rmSequence_usesLater s m ([.ref (ad o), .int x1] : List Value).toArray below meth c H locs 0 0 (zQi post D tys N ad F A below ([.ref (ad o), .int x1] : List Value).toArray s) (F0 m 4 ls []) := by
    intro fu4
    induction fu4 with
    | zero =>
      intro v1 v2 h H locs ls hw
      exact (zl_0 hw).elim
    | succ fu4 ih4 =>
      intro v1 v2 h H locs ls hw hl hP hS
      have hw := zl_s hw
      generalize zl (stSequence_usesLater_4 o post) fu4 = L4 at hw ih4
      have J14 : ∀ (fu : Nat) (v1 : Int32) (v2 : Int32) (v3 : Int32) (h : zM) (H : Heap) (locs : List Loc) (ls : Array Slot), zl (stSequence_usesLater_14 o post L4) fu (v1, v2, v3, h) → lv_has ls 4 [(0, .ref (ad o)), (1, .int v1), (2, .int v2), (3, .int v3)] → va_P D zcl (zW N ad F h) H → va_S A s.heap H locs → W p l e rmSequence_usesLater s m ([.ref (ad o), .int x1] : List Value).toArray below meth c H locs 0 0 (zQi post D tys N ad F A below ([.ref (ad o), .int x1] : List Value).toArray s) (F0 m 14 ls []) := by
        intro fu14
        induction fu14 with
        | zero =>
          intro v1 v2 v3 h H locs ls hw
          exact (zl_0 hw).elim
        | succ fu14 ih14 =>
          intro v1 v2 v3 h H locs ls hw hl hP hS
          have hw := zl_s hw
          generalize zl (stSequence_usesLater_14 o post L4) fu14 = L14 at hw ih14
          have J40 : ∀ (v1 : Int32) (v2 : Int32) (v3 : Int32) (h : zM) (H : Heap) (locs : List Loc) (ls : Array Slot), wbSequence_usesLater_40 o post L4 L14 v1 v2 v3 h → lv_has ls 4 [(0, .ref (ad o)), (1, .int v1), (2, .int v2), (3, .int v3)] → va_P D zcl (zW N ad F h) H → va_S A s.heap H locs → W p l e rmSequence_usesLater s m ([.ref (ad o), .int x1] : List Value).toArray below meth c H locs 0 0 (zQi post D tys N ad F A below ([.ref (ad o), .int x1] : List Value).toArray s) (F0 m 40 ls []) := by
            intro v1 v2 v3 h H locs ls hw hl hP hS
            unfold wbSequence_usesLater_40 at hw
            refine lv_iinc (v := (v3 + 1)) (lv' := [(3, .int (v3 + 1)), (0, .ref (ad o)), (1, .int v1), (2, .int v2)]) (k := 3) S.1 S.2.1 dSequence_usesLater_40 hl rfl rfl (by decide) rfl (fun ls hl => ?_)
            refine lv_goto S.1 S.2.1 dSequence_usesLater_43 rfl ?_
            exact ih14 _ _ _ _ _ _ _ hw (lv_sub hl [1, 2, 3, 0] rfl) hP hS
          unfold stSequence_usesLater_14 at hw
          dsimp only at hw
          refine lv_iload_n S.1 S.2.1 dSequence_usesLater_14 rfl (lv_at hl 3 rfl) ?_
          refine lv_iconst (v := 2) S.1 S.2.1 dSequence_usesLater_15 (by decide) ?_
          refine lv_icmp_ge S.1 S.2.1 dSequence_usesLater_16 rfl (fun hc => ?_) (fun hc => ?_)
          · have hw := hw.1 hc
            refine lv_iinc (v := (v2 + 1)) (lv' := [(2, .int (v2 + 1)), (0, .ref (ad o)), (1, .int v1), (3, .int v3)]) (k := 2) S.1 S.2.1 dSequence_usesLater_46 hl rfl rfl (by decide) rfl (fun ls hl => ?_)
            refine lv_goto S.1 S.2.1 dSequence_usesLater_49 rfl ?_
            exact ih4 _ _ _ _ _ _ hw (lv_sub hl [1, 2, 0] rfl) hP hS
          · have hw := hw.2 hc
            refine lv_aload_n S.1 S.2.1 dSequence_usesLater_19 rfl (lv_at hl 0 rfl) ?_
            refine lv_iload_n S.1 S.2.1 dSequence_usesLater_20 rfl (lv_at hl 2 rfl) ?_
            refine lv_iload_n S.1 S.2.1 dSequence_usesLater_21 rfl (lv_at hl 3 rfl) ?_
            refine zr_i (zr_V (As := [.int v2, .int v3]) (rest := []) S hK hT hN hP hS (Nat.lt_of_succ_lt (hq).1) ((hq).2.1 _) rfl (cSequence_isVariable l D tys N ad F A hJ cI hI o hq _ _ _ _ hw) caSequence_33 ⟨Nat.le_of_ble_eq_true rfl, Nat.le_of_ble_eq_true rfl⟩ ⟨rfl, rfl⟩ rfl hl.1 rfl (Nat.le_of_ble_eq_true rfl) dSequence_usesLater_22) hS (fun r22 h22 H locs hw hP hS => ?_)
            refine lv_if_eq S.1 S.2.1 dSequence_usesLater_25 rfl (fun hc => ?_) (fun hc => ?_)
            · have hw := hw.1 hc
              exact J40 _ _ _ _ _ _ _ hw (lv_sub hl [0, 1, 2, 3] rfl) hP hS
            · have hw := hw.2 hc
              refine lv_aload_n S.1 S.2.1 dSequence_usesLater_28 rfl (lv_at hl 0 rfl) ?_
              refine lv_iload_n S.1 S.2.1 dSequence_usesLater_29 rfl (lv_at hl 2 rfl) ?_
              refine lv_iload_n S.1 S.2.1 dSequence_usesLater_30 rfl (lv_at hl 3 rfl) ?_
              refine zr_i (zr_V (As := [.int v2, .int v3]) (rest := []) S hK hT hN hP hS (Nat.lt_of_succ_lt (hq).1) ((hq).2.1 _) rfl (cSequence_content l D tys N ad F A hJ cI hI o hq _ _ _ _ hw) caSequence_37 ⟨Nat.le_of_ble_eq_true rfl, Nat.le_of_ble_eq_true rfl⟩ ⟨rfl, rfl⟩ rfl hl.1 rfl (Nat.le_of_ble_eq_true rfl) dSequence_usesLater_31) hS (fun r31 h31 H locs hw hP hS => ?_)
              refine lv_iload_n S.1 S.2.1 dSequence_usesLater_34 rfl (lv_at hl 1 rfl) ?_
              refine lv_icmp_ne S.1 S.2.1 dSequence_usesLater_35 rfl (fun hc => ?_) (fun hc => ?_)
              · have hw := hw.1 hc
                exact J40 _ _ _ _ _ _ _ hw (lv_sub hl [0, 1, 2, 3] rfl) hP hS
              · have hw := hw.2 hc
                refine lv_iconst (v := 1) S.1 S.2.1 dSequence_usesLater_38 (by decide) ?_
                exact zr_iret S hr hlk hK hP hS rfl hw dSequence_usesLater_39
      unfold stSequence_usesLater_4 at hw
      dsimp only at hw
      refine lv_iload_n S.1 S.2.1 dSequence_usesLater_4 rfl (lv_at hl 2 rfl) ?_
      refine lv_aload_n S.1 S.2.1 dSequence_usesLater_5 rfl (lv_at hl 0 rfl) ?_
      refine zr_get S hK hP (Nat.lt_of_succ_lt (hq).1) ((hq).2.1 _) fSequence_size q182 rfl dSequence_usesLater_6 ?_
      refine lv_icmp_ge S.1 S.2.1 dSequence_usesLater_9 rfl (fun hc => ?_) (fun hc => ?_)
      · have hw := hw.1 hc
        refine lv_iconst (v := 0) S.1 S.2.1 dSequence_usesLater_52 (by decide) ?_
        exact zr_iret S hr hlk hK hP hS rfl hw dSequence_usesLater_53
      · have hw := hw.2 hc
        refine lv_iconst (v := 0) S.1 S.2.1 dSequence_usesLater_12 (by decide) ?_
        refine lv_istore_n (lv' := [(3, .int 0), (0, .ref (ad o)), (1, .int v1), (2, .int v2)]) S.1 S.2.1 dSequence_usesLater_13 rfl hl (by decide) rfl (fun ls hl => ?_)
        obtain ⟨fu, hw⟩ := hw
        exact J14 fu _ _ _ _ _ _ _ hw (lv_sub hl [1, 2, 3, 0] rfl) hP hS
  unfold wpSequence_usesLater at hw
  refine lv_iload_n S.1 S.2.1 dSequence_usesLater_0 rfl (lv_at hl 1 rfl) ?_
  refine lv_iconst (v := 1) S.1 S.2.1 dSequence_usesLater_1 (by decide) ?_
  refine lv_iadd S.1 S.2.1 dSequence_usesLater_2 ?_
  refine lv_topi (fun y3 e3 => ?_)
  have hw := hw y3 e3
  refine lv_istore_n (lv' := [(2, .int y3), (0, .ref (ad o)), (1, .int x1)]) S.1 S.2.1 dSequence_usesLater_3 rfl hl (by decide) rfl (fun ls hl => ?_)
  obtain ⟨fu, hw⟩ := hw
  exact J4 fu _ _ _ _ _ _ hw (lv_sub hl [1, 2, 0] rfl) hP hS
/-! Sequence.remove -/
theorem dSequence_remove_0 : decode bSequence_remove 0 = .ok (.iload_n 1, 1) := by decide +kernel
theorem dSequence_remove_1 : decode bSequence_remove 1 = .ok (.iconst 1, 1) := by decide +kernel
theorem dSequence_remove_2 : decode bSequence_remove 2 = .ok (.iadd, 1) := by decide +kernel
theorem dSequence_remove_3 : decode bSequence_remove 3 = .ok (.iconst 5, 1) := by decide +kernel
theorem dSequence_remove_4 : decode bSequence_remove 4 = .ok (.imul, 1) := by decide +kernel
theorem dSequence_remove_5 : decode bSequence_remove 5 = .ok (.istore_n 2, 1) := by decide +kernel
theorem dSequence_remove_6 : decode bSequence_remove 6 = .ok (.aload_n 0, 1) := by decide +kernel
theorem dSequence_remove_7 : decode bSequence_remove 7 = .ok (.getfield 9, 3) := by decide +kernel
theorem dSequence_remove_10 : decode bSequence_remove 10 = .ok (.iload_n 2, 1) := by decide +kernel
theorem dSequence_remove_11 : decode bSequence_remove 11 = .ok (.aload_n 0, 1) := by decide +kernel
theorem dSequence_remove_12 : decode bSequence_remove 12 = .ok (.getfield 9, 3) := by decide +kernel
theorem dSequence_remove_15 : decode bSequence_remove 15 = .ok (.iload_n 1, 1) := by decide +kernel
theorem dSequence_remove_16 : decode bSequence_remove 16 = .ok (.iconst 5, 1) := by decide +kernel
theorem dSequence_remove_17 : decode bSequence_remove 17 = .ok (.imul, 1) := by decide +kernel
theorem dSequence_remove_18 : decode bSequence_remove 18 = .ok (.aload_n 0, 1) := by decide +kernel
theorem dSequence_remove_19 : decode bSequence_remove 19 = .ok (.getfield 15, 3) := by decide +kernel
theorem dSequence_remove_22 : decode bSequence_remove 22 = .ok (.iconst 5, 1) := by decide +kernel
theorem dSequence_remove_23 : decode bSequence_remove 23 = .ok (.imul, 1) := by decide +kernel
theorem dSequence_remove_24 : decode bSequence_remove 24 = .ok (.iload_n 2, 1) := by decide +kernel
theorem dSequence_remove_25 : decode bSequence_remove 25 = .ok (.isub, 1) := by decide +kernel
theorem dSequence_remove_26 : decode bSequence_remove 26 = .ok (.invokestatic 23, 3) := by decide +kernel
theorem dSequence_remove_29 : decode bSequence_remove 29 = .ok (.aload_n 0, 1) := by decide +kernel
theorem dSequence_remove_30 : decode bSequence_remove 30 = .ok (.dup, 1) := by decide +kernel
theorem dSequence_remove_31 : decode bSequence_remove 31 = .ok (.getfield 15, 3) := by decide +kernel
theorem dSequence_remove_34 : decode bSequence_remove 34 = .ok (.iconst 1, 1) := by decide +kernel
theorem dSequence_remove_35 : decode bSequence_remove 35 = .ok (.isub, 1) := by decide +kernel
theorem dSequence_remove_36 : decode bSequence_remove 36 = .ok (.putfield 15, 3) := by decide +kernel
theorem dSequence_remove_39 : decode bSequence_remove 39 = .ok (.aload_n 0, 1) := by decide +kernel
theorem dSequence_remove_40 : decode bSequence_remove 40 = .ok (.iload_n 1, 1) := by decide +kernel
theorem dSequence_remove_41 : decode bSequence_remove 41 = .ok (.iload_n 1, 1) := by decide +kernel
theorem dSequence_remove_42 : decode bSequence_remove 42 = .ok (.iconst (-1), 1) := by decide +kernel
theorem dSequence_remove_43 : decode bSequence_remove 43 = .ok (.invokevirtual 29, 3) := by decide +kernel
theorem dSequence_remove_46 : decode bSequence_remove 46 = .ok (.return_, 1) := by decide +kernel
def wpSequence_remove (o : Nat) (x1 : Int32) (h : zM) (post : zM → Prop) : Prop := ∀ y5 : Int32, y5 = ((x1 + 1) * 5) → (¬ y5 < 0 ∧ ¬ (x1 * 5) < 0 ∧ ¬ (((h o 0) * 5) - y5) < 0 ∧ Int32.toNatClampNeg y5 + Int32.toNatClampNeg (((h o 0) * 5) - y5) ≤ 50 ∧ Int32.toNatClampNeg (x1 * 5) + Int32.toNatClampNeg (((h o 0) * 5) - y5) ≤ 50 ∧ ∀ h26 : zM, h26 = va_up h (o + 1) (va_cpy (h (o + 1)) (h (o + 1)) (Int32.toNatClampNeg y5) (Int32.toNatClampNeg (x1 * 5)) (Int32.toNatClampNeg (((h o 0) * 5) - y5))) → ∀ h36 : zM, h36 = zu h26 o 0 ((h26 o 0) - 1) → wpSequence_moveVariables o x1 x1 (-1) h36 (fun h43 => post h43))
abbrev rmSequence_remove : Room := { frames := 2, cells := 0, slots := 0, locals := 49 }
set_option maxHeartbeats 4000000 in
set_option maxRecDepth 100000 in
theorem cSequence_remove (l : Launch) (D : va_G) (tys : List (ClassId × FieldType)) (N : Nat) (ad : Nat → Nat) (F : zSh) (A : Nat → Prop) (hJ : zJ A N ad) (cI : ClassId) (hI : tys[0]? = some (cI, .int)) (o : Nat) (hq : zSeq N ad F cI o) (x1 : Int32) (h : zM) (post : zM → Prop) (hw : wpSequence_remove o x1 h post) : Met l ySequence_remove (.code ySequence_remove bSequence_remove 3 none :: zt) rmSequence_remove (va_Pc [.ref (ad o), .int x1] (zPre D tys N ad F A h)) (va_Qv post (zPst D tys N ad F) A) 0 0 A := by
  refine Met.ofW (cc := bSequence_remove) (maxL := 3) (ret := none) (by decide) rfl ?_
  intro p e s m args below meth c s₁ B hml hv
  obtain ⟨rfl, hP, hK, hT, hN⟩ := hv
  have hr := B.returns
  have hlk := B.notSynchronized
  have S : zS p m c bSequence_remove 3 s _ "CallExplorer$Sequence" := ⟨B.exec, B.bytes, hml, findClass_of_methodNamed B.named, fun w hw => atoms_spec (ws := .code ySequence_remove bSequence_remove 3 none :: zt) B.pre w (List.mem_cons_of_mem _ hw)⟩
  have hS : va_S A s.heap s.heap [] := va_S.rf
  have hl := lv_entry ([.ref (ad o), .int x1]) (n := 3) (Nat.le_of_ble_eq_true rfl)
  rw [lg_entry_eq]
  generalize (lg_sl ([.ref (ad o), .int x1]) ++ List.replicate (3 - (lg_sl ([.ref (ad o), .int x1])).length) Slot.unset).toArray = ls at hl ⊢
  have hl : lv_has ls 3 [(0, .ref (ad o)), (1, .int x1)] := hl
  show W p l e rmSequence_remove s m ([.ref (ad o), .int x1] : List Value).toArray below meth c s.heap [] 0 0 (zQv post D tys N ad F A below ([.ref (ad o), .int x1] : List Value).toArray s) _
  unfold wpSequence_remove at hw
  refine lv_iload_n S.1 S.2.1 dSequence_remove_0 rfl (lv_at hl 1 rfl) ?_
  refine lv_iconst (v := 1) S.1 S.2.1 dSequence_remove_1 (by decide) ?_
  refine lv_iadd S.1 S.2.1 dSequence_remove_2 ?_
  refine lv_iconst (v := 5) S.1 S.2.1 dSequence_remove_3 (by decide) ?_
  refine lv_imul S.1 S.2.1 dSequence_remove_4 ?_
  refine lv_topi (fun y5 e5 => ?_)
  have hw := hw y5 e5
  refine lv_istore_n (lv' := [(2, .int y5), (0, .ref (ad o)), (1, .int x1)]) S.1 S.2.1 dSequence_remove_5 rfl hl (by decide) rfl (fun ls hl => ?_)
  refine lv_aload_n S.1 S.2.1 dSequence_remove_6 rfl (lv_at hl 1 rfl) ?_
  refine zr_get S hK hP (Nat.lt_of_succ_lt (hq).1) ((hq).2.1 _) fSequence_cells q185 rfl dSequence_remove_7 ?_
  refine lv_iload_n S.1 S.2.1 dSequence_remove_10 rfl (lv_at hl 0 rfl) ?_
  refine lv_aload_n S.1 S.2.1 dSequence_remove_11 rfl (lv_at hl 1 rfl) ?_
  refine zr_get S hK hP (Nat.lt_of_succ_lt (hq).1) ((hq).2.1 _) fSequence_cells q185 rfl dSequence_remove_12 ?_
  refine lv_iload_n S.1 S.2.1 dSequence_remove_15 rfl (lv_at hl 2 rfl) ?_
  refine lv_iconst (v := 5) S.1 S.2.1 dSequence_remove_16 (by decide) ?_
  refine lv_imul S.1 S.2.1 dSequence_remove_17 ?_
  refine lv_aload_n S.1 S.2.1 dSequence_remove_18 rfl (lv_at hl 1 rfl) ?_
  refine zr_get S hK hP (Nat.lt_of_succ_lt (hq).1) ((hq).2.1 _) fSequence_size q182 rfl dSequence_remove_19 ?_
  refine lv_iconst (v := 5) S.1 S.2.1 dSequence_remove_22 (by decide) ?_
  refine lv_imul S.1 S.2.1 dSequence_remove_23 ?_
  refine lv_iload_n S.1 S.2.1 dSequence_remove_24 rfl (lv_at hl 0 rfl) ?_
  refine lv_isub S.1 S.2.1 dSequence_remove_25 ?_
  obtain ⟨a1, a2, a3, a4, a5, hw⟩ := hw
  refine zr_copy S hl.1 hK hJ hP hS (hq).1 ((hq).2.2 _) (hq).1 (hq).2.2 0 hI q416 q418 q417 q12 a1 a2 a3 a4 a5 (Nat.le_of_ble_eq_true rfl) (Nat.le_of_ble_eq_true rfl) dSequence_remove_26 (fun h26 H locs e26 hP hS => ?_)
  have hw := hw h26 e26
  refine lv_aload_n S.1 S.2.1 dSequence_remove_29 rfl (lv_at hl 1 rfl) ?_
  refine lv_dup S.1 S.2.1 dSequence_remove_30 rfl ?_
  refine zr_get S hK hP (Nat.lt_of_succ_lt (hq).1) ((hq).2.1 _) fSequence_size q182 rfl dSequence_remove_31 ?_
  refine lv_iconst (v := 1) S.1 S.2.1 dSequence_remove_34 (by decide) ?_
  refine lv_isub S.1 S.2.1 dSequence_remove_35 ?_
  refine zr_put S hK hJ hP hS (Nat.lt_of_succ_lt (hq).1) ((hq).2.1 _) fSequence_size q182 rfl rfl (Nat.le_of_ble_eq_true rfl) ((hq).2.1 _) dSequence_remove_36 (fun h36 H locs e36 hP hS => ?_)
  have hw := hw h36 e36
  refine lv_aload_n S.1 S.2.1 dSequence_remove_39 rfl (lv_at hl 1 rfl) ?_
  refine lv_iload_n S.1 S.2.1 dSequence_remove_40 rfl (lv_at hl 2 rfl) ?_
  refine lv_iload_n S.1 S.2.1 dSequence_remove_41 rfl (lv_at hl 2 rfl) ?_
  refine lv_iconst (v := (-1)) S.1 S.2.1 dSequence_remove_42 (by decide) ?_
  refine zr_v (zr_V (As := [.int x1, .int x1, .int (-1)]) (rest := []) S hK hT hN hP hS (Nat.lt_of_succ_lt (hq).1) ((hq).2.1 _) rfl (cSequence_moveVariables l D tys N ad F A hJ cI hI o hq _ _ _ _ _ hw) caSequence_29 ⟨Nat.le_of_ble_eq_true rfl, Nat.le_of_ble_eq_true rfl⟩ ⟨rfl, rfl⟩ rfl hl.1 rfl (Nat.le_of_ble_eq_true rfl) dSequence_remove_43) hS (fun h43 H locs hw hP hS => ?_)
  exact zr_vret S hr hlk hK hP hS hw dSequence_remove_46
