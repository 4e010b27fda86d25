/-! predicates and contracts, printed by wip/whole/gen -/
/-! Top.type -/
theorem dTop_type_0 : decode bTop_type 0 = .ok (.aload_n 0, 1) := by decide +kernel
theorem dTop_type_1 : decode bTop_type 1 = .ok (.getfield 10, 3) := by decide +kernel
theorem dTop_type_4 : decode bTop_type 4 = .ok (.iload_n 1, 1) := by decide +kernel
theorem dTop_type_5 : decode bTop_type 5 = .ok (.iload_n 2, 1) := by decide +kernel
theorem dTop_type_6 : decode bTop_type 6 = .ok (.iload_n 3, 1) := by decide +kernel
theorem dTop_type_7 : decode bTop_type 7 = .ok (.invokevirtual 64, 3) := by decide +kernel
theorem dTop_type_10 : decode bTop_type 10 = .ok (.ireturn, 1) := by decide +kernel
def wpTop_type (n : Nat) (ln : Nat → Nat) (x1 : Int32) (x2 : Int32) (x3 : Int32) (h : zM) (post : Int32 → zM → Prop) : Prop := wpCatalog_addClass n ln x1 x2 x3 h (fun r7 h7 => post r7 h7)
abbrev rmTop_type : Room := { frames := 2, cells := 0, slots := 0, locals := 45 }
set_option maxHeartbeats 4000000 in
set_option maxRecDepth 100000 in
theorem cTop_type (l : Launch) (D : va_G) (cI cC cE : ClassId) (ad : Nat → Nat) (n : Nat) (ln : Nat → Nat) (A : Nat → Prop) (hJ : zJ A (34 + 4 * n) ad) (x1 : Int32) (x2 : Int32) (x3 : Int32) (h : zM) (post : Int32 → zM → Prop) (hw : wpTop_type n ln x1 x2 x3 h post) : Met l yTop_type (.code yTop_type bTop_type 4 (some .int) :: zt) rmTop_type (va_Pc [.ref (ad 0), .int x1, .int x2, .int x3] (zPre D (zty cI cC cE) (34 + 4 * n) ad (zF ad cI cC cE n ln) A h)) (va_Qi post (zPst D (zty cI cC cE) (34 + 4 * n) ad (zF ad cI cC cE n ln)) A) 0 0 A := by
  refine Met.ofW (cc := bTop_type) (maxL := 4) (ret := (some .int)) (by decide) rfl ?_
  intro p e s m args below meth c s₁ B hml hv
  obtain ⟨rfl, hP, hK, hT, hN⟩ := hv
  have hr := B.returns
  have hlk := B.notSynchronized
  have S : zS p m c bTop_type 4 s _ "CallExplorer" := ⟨B.exec, B.bytes, hml, findClass_of_methodNamed B.named, fun w hw => atoms_spec (ws := .code yTop_type bTop_type 4 (some .int) :: zt) B.pre w (List.mem_cons_of_mem _ hw)⟩
  have hS : va_S A s.heap s.heap [] := va_S.rf
  have hl := lv_entry ([.ref (ad 0), .int x1, .int x2, .int x3]) (n := 4) (Nat.le_of_ble_eq_true rfl)
  rw [lg_entry_eq]
  generalize (lg_sl ([.ref (ad 0), .int x1, .int x2, .int x3]) ++ List.replicate (4 - (lg_sl ([.ref (ad 0), .int x1, .int x2, .int x3])).length) Slot.unset).toArray = ls at hl ⊢
  have hl : lv_has ls 4 [(0, .ref (ad 0)), (1, .int x1), (2, .int x2), (3, .int x3)] := hl
  show W p l e rmTop_type s m ([.ref (ad 0), .int x1, .int x2, .int x3] : List Value).toArray below meth c s.heap [] 0 0 (zQi post D (zty cI cC cE) (34 + 4 * n) ad (zF ad cI cC cE n ln) A below ([.ref (ad 0), .int x1, .int x2, .int x3] : List Value).toArray s) _
  unfold wpTop_type at hw
  refine lv_aload_n S.1 S.2.1 dTop_type_0 rfl (lv_at hl 0 rfl) ?_
  refine zr_get S hK hP (zk (by decide)) (zF_0 _) fTop_catalog q295 rfl dTop_type_1 ?_
  refine lv_iload_n S.1 S.2.1 dTop_type_4 rfl (lv_at hl 1 rfl) ?_
  refine lv_iload_n S.1 S.2.1 dTop_type_5 rfl (lv_at hl 2 rfl) ?_
  refine lv_iload_n S.1 S.2.1 dTop_type_6 rfl (lv_at hl 3 rfl) ?_
  refine zr_i (zr_V (As := [.int x1, .int x2, .int x3]) (rest := []) S hK hT hN hP hS (zk (by decide)) (zF_1 _) rfl (cCatalog_addClass l D cI cC cE ad n ln A hJ _ _ _ _ _ hw) caTop_64 ⟨Nat.le_of_ble_eq_true rfl, Nat.le_of_ble_eq_true rfl⟩ ⟨rfl, rfl⟩ rfl hl.1 rfl (Nat.le_of_ble_eq_true rfl) dTop_type_7) hS (fun r7 h7 H locs hw hP hS => ?_)
  exact zr_iret S hr hlk hK hP hS rfl hw dTop_type_10
/-! Top.operation -/
theorem dTop_operation_0 : decode bTop_operation 0 = .ok (.aload_n 0, 1) := by decide +kernel
theorem dTop_operation_1 : decode bTop_operation 1 = .ok (.getfield 10, 3) := by decide +kernel
theorem dTop_operation_4 : decode bTop_operation 4 = .ok (.iload_n 1, 1) := by decide +kernel
theorem dTop_operation_5 : decode bTop_operation 5 = .ok (.iload_n 2, 1) := by decide +kernel
theorem dTop_operation_6 : decode bTop_operation 6 = .ok (.iload_n 3, 1) := by decide +kernel
theorem dTop_operation_7 : decode bTop_operation 7 = .ok (.invokevirtual 68, 3) := by decide +kernel
theorem dTop_operation_10 : decode bTop_operation 10 = .ok (.ireturn, 1) := by decide +kernel
def wpTop_operation (n : Nat) (ln : Nat → Nat) (x1 : Int32) (x2 : Int32) (x3 : Int32) (h : zM) (post : Int32 → zM → Prop) : Prop := wpCatalog_addOperation n ln x1 x2 x3 h (fun r7 h7 => post r7 h7)
abbrev rmTop_operation : Room := { frames := 2, cells := 0, slots := 0, locals := 46 }
set_option maxHeartbeats 4000000 in
set_option maxRecDepth 100000 in
theorem cTop_operation (l : Launch) (D : va_G) (cI cC cE : ClassId) (ad : Nat → Nat) (n : Nat) (ln : Nat → Nat) (A : Nat → Prop) (hJ : zJ A (34 + 4 * n) ad) (x1 : Int32) (x2 : Int32) (x3 : Int32) (h : zM) (post : Int32 → zM → Prop) (hw : wpTop_operation n ln x1 x2 x3 h post) : Met l yTop_operation (.code yTop_operation bTop_operation 4 (some .int) :: zt) rmTop_operation (va_Pc [.ref (ad 0), .int x1, .int x2, .int x3] (zPre D (zty cI cC cE) (34 + 4 * n) ad (zF ad cI cC cE n ln) A h)) (va_Qi post (zPst D (zty cI cC cE) (34 + 4 * n) ad (zF ad cI cC cE n ln)) A) 0 0 A := by
  refine Met.ofW (cc := bTop_operation) (maxL := 4) (ret := (some .int)) (by decide) rfl ?_
  intro p e s m args below meth c s₁ B hml hv
  obtain ⟨rfl, hP, hK, hT, hN⟩ := hv
  have hr := B.returns
  have hlk := B.notSynchronized
  have S : zS p m c bTop_operation 4 s _ "CallExplorer" := ⟨B.exec, B.bytes, hml, findClass_of_methodNamed B.named, fun w hw => atoms_spec (ws := .code yTop_operation bTop_operation 4 (some .int) :: zt) B.pre w (List.mem_cons_of_mem _ hw)⟩
  have hS : va_S A s.heap s.heap [] := va_S.rf
  have hl := lv_entry ([.ref (ad 0), .int x1, .int x2, .int x3]) (n := 4) (Nat.le_of_ble_eq_true rfl)
  rw [lg_entry_eq]
  generalize (lg_sl ([.ref (ad 0), .int x1, .int x2, .int x3]) ++ List.replicate (4 - (lg_sl ([.ref (ad 0), .int x1, .int x2, .int x3])).length) Slot.unset).toArray = ls at hl ⊢
  have hl : lv_has ls 4 [(0, .ref (ad 0)), (1, .int x1), (2, .int x2), (3, .int x3)] := hl
  show W p l e rmTop_operation s m ([.ref (ad 0), .int x1, .int x2, .int x3] : List Value).toArray below meth c s.heap [] 0 0 (zQi post D (zty cI cC cE) (34 + 4 * n) ad (zF ad cI cC cE n ln) A below ([.ref (ad 0), .int x1, .int x2, .int x3] : List Value).toArray s) _
  unfold wpTop_operation at hw
  refine lv_aload_n S.1 S.2.1 dTop_operation_0 rfl (lv_at hl 0 rfl) ?_
  refine zr_get S hK hP (zk (by decide)) (zF_0 _) fTop_catalog q295 rfl dTop_operation_1 ?_
  refine lv_iload_n S.1 S.2.1 dTop_operation_4 rfl (lv_at hl 1 rfl) ?_
  refine lv_iload_n S.1 S.2.1 dTop_operation_5 rfl (lv_at hl 2 rfl) ?_
  refine lv_iload_n S.1 S.2.1 dTop_operation_6 rfl (lv_at hl 3 rfl) ?_
  refine zr_i (zr_V (As := [.int x1, .int x2, .int x3]) (rest := []) S hK hT hN hP hS (zk (by decide)) (zF_1 _) rfl (cCatalog_addOperation l D cI cC cE ad n ln A hJ _ _ _ _ _ hw) caTop_68 ⟨Nat.le_of_ble_eq_true rfl, Nat.le_of_ble_eq_true rfl⟩ ⟨rfl, rfl⟩ rfl hl.1 rfl (Nat.le_of_ble_eq_true rfl) dTop_operation_7) hS (fun r7 h7 H locs hw hP hS => ?_)
  exact zr_iret S hr hlk hK hP hS rfl hw dTop_operation_10
/-! Top.literal -/
theorem dTop_literal_0 : decode bTop_literal 0 = .ok (.aload_n 0, 1) := by decide +kernel
theorem dTop_literal_1 : decode bTop_literal 1 = .ok (.getfield 37, 3) := by decide +kernel
theorem dTop_literal_4 : decode bTop_literal 4 = .ok (.iload_n 1, 1) := by decide +kernel
theorem dTop_literal_5 : decode bTop_literal 5 = .ok (.invokevirtual 71, 3) := by decide +kernel
theorem dTop_literal_8 : decode bTop_literal 8 = .ok (.ireturn, 1) := by decide +kernel
def wpTop_literal (n : Nat) (ln : Nat → Nat) (x1 : Int32) (h : zM) (post : Int32 → zM → Prop) : Prop := wpGrower_addLiteral n ln x1 h (fun r5 h5 => post r5 h5)
abbrev rmTop_literal : Room := { frames := 1, cells := 0, slots := 0, locals := 22 }
set_option maxHeartbeats 4000000 in
set_option maxRecDepth 100000 in
theorem cTop_literal (l : Launch) (D : va_G) (cI cC cE : ClassId) (ad : Nat → Nat) (n : Nat) (ln : Nat → Nat) (A : Nat → Prop) (hJ : zJ A (34 + 4 * n) ad) (x1 : Int32) (h : zM) (post : Int32 → zM → Prop) (hw : wpTop_literal n ln x1 h post) : Met l yTop_literal (.code yTop_literal bTop_literal 2 (some .int) :: zt) rmTop_literal (va_Pc [.ref (ad 0), .int x1] (zPre D (zty cI cC cE) (34 + 4 * n) ad (zF ad cI cC cE n ln) A h)) (va_Qi post (zPst D (zty cI cC cE) (34 + 4 * n) ad (zF ad cI cC cE n ln)) A) 0 0 A := by
  refine Met.ofW (cc := bTop_literal) (maxL := 2) (ret := (some .int)) (by decide) rfl ?_
  intro p e s m args below meth c s₁ B hml hv
  obtain ⟨rfl, hP, hK, hT, hN⟩ := hv
  have hr := B.returns
  have hlk := B.notSynchronized
  have S : zS p m c bTop_literal 2 s _ "CallExplorer" := ⟨B.exec, B.bytes, hml, findClass_of_methodNamed B.named, fun w hw => atoms_spec (ws := .code yTop_literal bTop_literal 2 (some .int) :: zt) B.pre w (List.mem_cons_of_mem _ hw)⟩
  have hS : va_S A s.heap s.heap [] := va_S.rf
  have hl := lv_entry ([.ref (ad 0), .int x1]) (n := 2) (Nat.le_of_ble_eq_true rfl)
  rw [lg_entry_eq]
  generalize (lg_sl ([.ref (ad 0), .int x1]) ++ List.replicate (2 - (lg_sl ([.ref (ad 0), .int x1])).length) Slot.unset).toArray = ls at hl ⊢
  have hl : lv_has ls 2 [(0, .ref (ad 0)), (1, .int x1)] := hl
  show W p l e rmTop_literal s m ([.ref (ad 0), .int x1] : List Value).toArray below meth c s.heap [] 0 0 (zQi post D (zty cI cC cE) (34 + 4 * n) ad (zF ad cI cC cE n ln) A below ([.ref (ad 0), .int x1] : List Value).toArray s) _
  unfold wpTop_literal at hw
  refine lv_aload_n S.1 S.2.1 dTop_literal_0 rfl (lv_at hl 0 rfl) ?_
  refine zr_get S hK hP (zk (by decide)) (zF_0 _) fTop_grower q298 rfl dTop_literal_1 ?_
  refine lv_iload_n S.1 S.2.1 dTop_literal_4 rfl (lv_at hl 1 rfl) ?_
  refine zr_i (zr_V (As := [.int x1]) (rest := []) S hK hT hN hP hS (zk (by decide)) (zF_19 _) rfl (cGrower_addLiteral l D cI cC cE ad n ln A hJ _ _ _ hw) caTop_71 ⟨Nat.le_of_ble_eq_true rfl, Nat.le_of_ble_eq_true rfl⟩ ⟨rfl, rfl⟩ rfl hl.1 rfl (Nat.le_of_ble_eq_true rfl) dTop_literal_5) hS (fun r5 h5 H locs hw hP hS => ?_)
  exact zr_iret S hr hlk hK hP hS rfl hw dTop_literal_8
/-! Top.entries -/
theorem dTop_entries_0 : decode bTop_entries 0 = .ok (.aload_n 0, 1) := by decide +kernel
theorem dTop_entries_1 : decode bTop_entries 1 = .ok (.getfield 21, 3) := by decide +kernel
theorem dTop_entries_4 : decode bTop_entries 4 = .ok (.getfield 89, 3) := by decide +kernel
theorem dTop_entries_7 : decode bTop_entries 7 = .ok (.ireturn, 1) := by decide +kernel
def wpTop_entries (n : Nat) (ln : Nat → Nat) (h : zM) (post : Int32 → zM → Prop) : Prop := post (h 9 1) h
abbrev rmTop_entries : Room := { frames := 0, cells := 0, slots := 0, locals := 0 }
set_option maxHeartbeats 4000000 in
set_option maxRecDepth 100000 in
theorem cTop_entries (l : Launch) (D : va_G) (cI cC cE : ClassId) (ad : Nat → Nat) (n : Nat) (ln : Nat → Nat) (A : Nat → Prop) (hJ : zJ A (34 + 4 * n) ad) (h : zM) (post : Int32 → zM → Prop) (hw : wpTop_entries n ln h post) : Met l yTop_entries (.code yTop_entries bTop_entries 1 (some .int) :: zt) rmTop_entries (va_Pc [.ref (ad 0)] (zPre D (zty cI cC cE) (34 + 4 * n) ad (zF ad cI cC cE n ln) A h)) (va_Qi post (zPst D (zty cI cC cE) (34 + 4 * n) ad (zF ad cI cC cE n ln)) A) 0 0 A := by
  refine Met.ofW (cc := bTop_entries) (maxL := 1) (ret := (some .int)) (by decide) rfl ?_
  intro p e s m args below meth c s₁ B hml hv
  obtain ⟨rfl, hP, hK, hT, hN⟩ := hv
  have hr := B.returns
  have hlk := B.notSynchronized
  have S : zS p m c bTop_entries 1 s _ "CallExplorer" := ⟨B.exec, B.bytes, hml, findClass_of_methodNamed B.named, fun w hw => atoms_spec (ws := .code yTop_entries bTop_entries 1 (some .int) :: zt) B.pre w (List.mem_cons_of_mem _ hw)⟩
  have hS : va_S A s.heap s.heap [] := va_S.rf
  have hl := lv_entry ([.ref (ad 0)]) (n := 1) (Nat.le_of_ble_eq_true rfl)
  rw [lg_entry_eq]
  generalize (lg_sl ([.ref (ad 0)]) ++ List.replicate (1 - (lg_sl ([.ref (ad 0)])).length) Slot.unset).toArray = ls at hl ⊢
  have hl : lv_has ls 1 [(0, .ref (ad 0))] := hl
  show W p l e rmTop_entries s m ([.ref (ad 0)] : List Value).toArray below meth c s.heap [] 0 0 (zQi post D (zty cI cC cE) (34 + 4 * n) ad (zF ad cI cC cE n ln) A below ([.ref (ad 0)] : List Value).toArray s) _
  unfold wpTop_entries at hw
  refine lv_aload_n S.1 S.2.1 dTop_entries_0 rfl (lv_at hl 0 rfl) ?_
  refine zr_get S hK hP (zk (by decide)) (zF_0 _) fTop_book q296 rfl dTop_entries_1 ?_
  refine zr_get S hK hP (zk (by decide)) (zF_9 _) fBook_size q79 rfl dTop_entries_4 ?_
  exact zr_iret S hr hlk hK hP hS rfl hw dTop_entries_7
/-! Top.entry -/
theorem dTop_entry_0 : decode bTop_entry 0 = .ok (.aload_n 0, 1) := by decide +kernel
theorem dTop_entry_1 : decode bTop_entry 1 = .ok (.getfield 21, 3) := by decide +kernel
theorem dTop_entry_4 : decode bTop_entry 4 = .ok (.iload_n 1, 1) := by decide +kernel
theorem dTop_entry_5 : decode bTop_entry 5 = .ok (.invokevirtual 79, 3) := by decide +kernel
theorem dTop_entry_8 : decode bTop_entry 8 = .ok (.astore_n 3, 1) := by decide +kernel
theorem dTop_entry_9 : decode bTop_entry 9 = .ok (.aload_n 3, 1) := by decide +kernel
theorem dTop_entry_10 : decode bTop_entry 10 = .ok (.ifnonnull 5, 3) := by decide +kernel
theorem dTop_entry_13 : decode bTop_entry 13 = .ok (.iconst (-1), 1) := by decide +kernel
theorem dTop_entry_14 : decode bTop_entry 14 = .ok (.ireturn, 1) := by decide +kernel
theorem dTop_entry_15 : decode bTop_entry 15 = .ok (.iload_n 2, 1) := by decide +kernel
theorem dTop_entry_16 : decode bTop_entry 16 = .ok (.tableswitch 64 0 4 #[36, 41, 46, 54, 59], 36) := by decide +kernel
theorem dTop_entry_52 : decode bTop_entry 52 = .ok (.aload_n 3, 1) := by decide +kernel
theorem dTop_entry_53 : decode bTop_entry 53 = .ok (.getfield 83, 3) := by decide +kernel
theorem dTop_entry_56 : decode bTop_entry 56 = .ok (.ireturn, 1) := by decide +kernel
theorem dTop_entry_57 : decode bTop_entry 57 = .ok (.aload_n 3, 1) := by decide +kernel
theorem dTop_entry_58 : decode bTop_entry 58 = .ok (.getfield 109, 3) := by decide +kernel
theorem dTop_entry_61 : decode bTop_entry 61 = .ok (.ireturn, 1) := by decide +kernel
theorem dTop_entry_62 : decode bTop_entry 62 = .ok (.aload_n 3, 1) := by decide +kernel
theorem dTop_entry_63 : decode bTop_entry 63 = .ok (.getfield 102, 3) := by decide +kernel
theorem dTop_entry_66 : decode bTop_entry 66 = .ok (.getfield 106, 3) := by decide +kernel
theorem dTop_entry_69 : decode bTop_entry 69 = .ok (.ireturn, 1) := by decide +kernel
theorem dTop_entry_70 : decode bTop_entry 70 = .ok (.aload_n 3, 1) := by decide +kernel
theorem dTop_entry_71 : decode bTop_entry 71 = .ok (.getfield 112, 3) := by decide +kernel
theorem dTop_entry_74 : decode bTop_entry 74 = .ok (.ireturn, 1) := by decide +kernel
theorem dTop_entry_75 : decode bTop_entry 75 = .ok (.aload_n 3, 1) := by decide +kernel
theorem dTop_entry_76 : decode bTop_entry 76 = .ok (.getfield 115, 3) := by decide +kernel
theorem dTop_entry_79 : decode bTop_entry 79 = .ok (.ireturn, 1) := by decide +kernel
theorem dTop_entry_80 : decode bTop_entry 80 = .ok (.iconst (-1), 1) := by decide +kernel
theorem dTop_entry_81 : decode bTop_entry 81 = .ok (.ireturn, 1) := by decide +kernel
def wpTop_entry (n : Nat) (ln : Nat → Nat) (x1 : Int32) (x2 : Int32) (h : zM) (post : Int32 → zM → Prop) : Prop := wpBook_get n ln x1 h (fun r h5 => (r = none → post (-1) h5) ∧ ∀ jr5 : Nat, r = some jr5 → jr5 < n ∧ ((x2 = 0 → post (h5 (34 + 4 * jr5) 1) h5) ∧ (¬ x2 = 0 → ((x2 = 1 → post (h5 (34 + 4 * jr5) 2) h5) ∧ (¬ x2 = 1 → ((x2 = 2 → post (h5 (34 + 4 * jr5 + 1) 0) h5) ∧ (¬ x2 = 2 → ((x2 = 3 → post (h5 (34 + 4 * jr5) 3) h5) ∧ (¬ x2 = 3 → ((x2 = 4 → post (h5 (34 + 4 * jr5) 5) h5) ∧ (¬ x2 = 4 → post (-1) h5)))))))))))
abbrev rmTop_entry : Room := { frames := 1, cells := 0, slots := 0, locals := 21 }
set_option maxHeartbeats 4000000 in
set_option maxRecDepth 100000 in
theorem cTop_entry (l : Launch) (D : va_G) (cI cC cE : ClassId) (ad : Nat → Nat) (n : Nat) (ln : Nat → Nat) (A : Nat → Prop) (hJ : zJ A (34 + 4 * n) ad) (x1 : Int32) (x2 : Int32) (h : zM) (post : Int32 → zM → Prop) (hw : wpTop_entry n ln x1 x2 h post) : Met l yTop_entry (.code yTop_entry bTop_entry 4 (some .int) :: zt) rmTop_entry (va_Pc [.ref (ad 0), .int x1, .int x2] (zPre D (zty cI cC cE) (34 + 4 * n) ad (zF ad cI cC cE n ln) A h)) (va_Qi post (zPst D (zty cI cC cE) (34 + 4 * n) ad (zF ad cI cC cE n ln)) A) 0 0 A := by
  refine Met.ofW (cc := bTop_entry) (maxL := 4) (ret := (some .int)) (by decide) rfl ?_
  intro p e s m args below meth c s₁ B hml hv
  obtain ⟨rfl, hP, hK, hT, hN⟩ := hv
  have hr := B.returns
  have hlk := B.notSynchronized
  have S : zS p m c bTop_entry 4 s _ "CallExplorer" := ⟨B.exec, B.bytes, hml, findClass_of_methodNamed B.named, fun w hw => atoms_spec (ws := .code yTop_entry bTop_entry 4 (some .int) :: zt) B.pre w (List.mem_cons_of_mem _ hw)⟩
  have hS : va_S A s.heap s.heap [] := va_S.rf
  have hl := lv_entry ([.ref (ad 0), .int x1, .int x2]) (n := 4) (Nat.le_of_ble_eq_true rfl)
  rw [lg_entry_eq]
  generalize (lg_sl ([.ref (ad 0), .int x1, .int x2]) ++ List.replicate (4 - (lg_sl ([.ref (ad 0), .int x1, .int x2])).length) Slot.unset).toArray = ls at hl ⊢
  have hl : lv_has ls 4 [(0, .ref (ad 0)), (1, .int x1), (2, .int x2)] := hl
  show W p l e rmTop_entry s m ([.ref (ad 0), .int x1, .int x2] : List Value).toArray below meth c s.heap [] 0 0 (zQi post D (zty cI cC cE) (34 + 4 * n) ad (zF ad cI cC cE n ln) A below ([.ref (ad 0), .int x1, .int x2] : List Value).toArray s) _
  unfold wpTop_entry at hw
  refine lv_aload_n S.1 S.2.1 dTop_entry_0 rfl (lv_at hl 0 rfl) ?_
  refine zr_get S hK hP (zk (by decide)) (zF_0 _) fTop_book q296 rfl dTop_entry_1 ?_
  refine lv_iload_n S.1 S.2.1 dTop_entry_4 rfl (lv_at hl 1 rfl) ?_
  refine zr_e (zr_V (As := [.int x1]) (rest := []) S hK hT hN hP hS (zk (by decide)) (zF_9 _) rfl (cBook_get l D cI cC cE ad n ln A hJ _ _ _ hw) caTop_79 ⟨Nat.le_of_ble_eq_true rfl, Nat.le_of_ble_eq_true rfl⟩ ⟨rfl, rfl⟩ rfl hl.1 rfl (Nat.le_of_ble_eq_true rfl) dTop_entry_5) hS (fun h5 H locs hw hP hS => ?_) (fun jr5 h5 H locs hw hP hS => ?_)
  · have hw := hw.1 rfl
    refine lv_astore_nN (lv' := [(3, .null), (0, .ref (ad 0)), (1, .int x1), (2, .int x2)]) S.1 S.2.1 dTop_entry_8 rfl hl (by decide) rfl (fun ls hl => ?_)
    refine lv_aload_nN S.1 S.2.1 dTop_entry_9 rfl (lv_at hl 0 rfl) ?_
    refine lv_ifnonnullN S.1 S.2.1 dTop_entry_10 ?_
    refine lv_iconst (v := (-1)) S.1 S.2.1 dTop_entry_13 (by decide) ?_
    exact zr_iret S hr hlk hK hP hS rfl hw dTop_entry_14
  · obtain ⟨hjr5, hw⟩ := hw.2 jr5 rfl
    refine lv_astore_n (lv' := [(3, .ref (ad (34 + 4 * jr5))), (0, .ref (ad 0)), (1, .int x1), (2, .int x2)]) S.1 S.2.1 dTop_entry_8 rfl hl (by decide) rfl (fun ls hl => ?_)
    refine lv_aload_n S.1 S.2.1 dTop_entry_9 rfl (lv_at hl 0 rfl) ?_
    refine lv_ifnonnull S.1 S.2.1 dTop_entry_10 rfl ?_
    refine lv_iload_n S.1 S.2.1 dTop_entry_15 rfl (lv_at hl 3 rfl) ?_
    by_cases c0 : x2 = 0
    · have hw := hw.1 c0
      refine lv_tableIn (off := 36) S.1 S.2.1 dTop_entry_16 (by rw [c0]; decide) (by rw [c0]; decide) (by rw [c0]; rfl) rfl ?_
      refine lv_aload_n S.1 S.2.1 dTop_entry_52 rfl (lv_at hl 0 rfl) ?_
      refine zr_get S hK hP (zke0 hjr5) ((zFe_0 jr5) _) fEntry_outcome q609 rfl dTop_entry_53 ?_
      exact zr_iret S hr hlk hK hP hS rfl hw dTop_entry_56
    · have hw := hw.2 c0
      by_cases c1 : x2 = 1
      · have hw := hw.1 c1
        refine lv_tableIn (off := 41) S.1 S.2.1 dTop_entry_16 (by rw [c1]; decide) (by rw [c1]; decide) (by rw [c1]; rfl) rfl ?_
        refine lv_aload_n S.1 S.2.1 dTop_entry_57 rfl (lv_at hl 0 rfl) ?_
        refine zr_get S hK hP (zke0 hjr5) ((zFe_0 jr5) _) fEntry_detail q613 rfl dTop_entry_58 ?_
        exact zr_iret S hr hlk hK hP hS rfl hw dTop_entry_61
      · have hw := hw.2 c1
        by_cases c2 : x2 = 2
        · have hw := hw.1 c2
          refine lv_tableIn (off := 46) S.1 S.2.1 dTop_entry_16 (by rw [c2]; decide) (by rw [c2]; decide) (by rw [c2]; rfl) rfl ?_
          refine lv_aload_n S.1 S.2.1 dTop_entry_62 rfl (lv_at hl 0 rfl) ?_
          refine zr_get S hK hP (zke0 hjr5) ((zFe_0 jr5) _) fEntry_sequence q603 rfl dTop_entry_63 ?_
          refine zr_get S hK hP (zke 1 hjr5) ((zFe_1 jr5) _) fSequence_size q183 rfl dTop_entry_66 ?_
          exact zr_iret S hr hlk hK hP hS rfl hw dTop_entry_69
        · have hw := hw.2 c2
          by_cases c3 : x2 = 3
          · have hw := hw.1 c3
            refine lv_tableIn (off := 54) S.1 S.2.1 dTop_entry_16 (by rw [c3]; decide) (by rw [c3]; decide) (by rw [c3]; rfl) rfl ?_
            refine lv_aload_n S.1 S.2.1 dTop_entry_70 rfl (lv_at hl 0 rfl) ?_
            refine zr_get S hK hP (zke0 hjr5) ((zFe_0 jr5) _) fEntry_type q616 rfl dTop_entry_71 ?_
            exact zr_iret S hr hlk hK hP hS rfl hw dTop_entry_74
          · have hw := hw.2 c3
            by_cases c4 : x2 = 4
            · have hw := hw.1 c4
              refine lv_tableIn (off := 59) S.1 S.2.1 dTop_entry_16 (by rw [c4]; decide) (by rw [c4]; decide) (by rw [c4]; rfl) rfl ?_
              refine lv_aload_n S.1 S.2.1 dTop_entry_75 rfl (lv_at hl 0 rfl) ?_
              refine zr_get S hK hP (zke0 hjr5) ((zFe_0 jr5) _) fEntry_number q621 rfl dTop_entry_76 ?_
              exact zr_iret S hr hlk hK hP hS rfl hw dTop_entry_79
            · have hw := hw.2 c4
              refine lv_tableOut S.1 S.2.1 dTop_entry_16 (by have n0 := lv_neT c0 (show (0 : Int32).toInt = 0 from by decide); have n1 := lv_neT c1 (show (1 : Int32).toInt = 1 from by decide); have n2 := lv_neT c2 (show (2 : Int32).toInt = 2 from by decide); have n3 := lv_neT c3 (show (3 : Int32).toInt = 3 from by decide); have n4 := lv_neT c4 (show (4 : Int32).toInt = 4 from by decide); omega) rfl ?_
              refine lv_iconst (v := (-1)) S.1 S.2.1 dTop_entry_80 (by decide) ?_
              exact zr_iret S hr hlk hK hP hS rfl hw dTop_entry_81
/-! Top.statement -/
theorem dTop_statement_0 : decode bTop_statement 0 = .ok (.aload_n 0, 1) := by decide +kernel
theorem dTop_statement_1 : decode bTop_statement 1 = .ok (.getfield 21, 3) := by decide +kernel
theorem dTop_statement_4 : decode bTop_statement 4 = .ok (.iload_n 1, 1) := by decide +kernel
theorem dTop_statement_5 : decode bTop_statement 5 = .ok (.invokevirtual 79, 3) := by decide +kernel
theorem dTop_statement_8 : decode bTop_statement 8 = .ok (.astore 4, 2) := by decide +kernel
theorem dTop_statement_10 : decode bTop_statement 10 = .ok (.aload 4, 2) := by decide +kernel
theorem dTop_statement_12 : decode bTop_statement 12 = .ok (.ifnull 28, 3) := by decide +kernel
theorem dTop_statement_15 : decode bTop_statement 15 = .ok (.iload_n 2, 1) := by decide +kernel
theorem dTop_statement_16 : decode bTop_statement 16 = .ok (.ifCond .lt 24, 3) := by decide +kernel
theorem dTop_statement_19 : decode bTop_statement 19 = .ok (.iload_n 2, 1) := by decide +kernel
theorem dTop_statement_20 : decode bTop_statement 20 = .ok (.aload 4, 2) := by decide +kernel
theorem dTop_statement_22 : decode bTop_statement 22 = .ok (.getfield 102, 3) := by decide +kernel
theorem dTop_statement_25 : decode bTop_statement 25 = .ok (.getfield 106, 3) := by decide +kernel
theorem dTop_statement_28 : decode bTop_statement 28 = .ok (.if_icmp .ge 12, 3) := by decide +kernel
theorem dTop_statement_31 : decode bTop_statement 31 = .ok (.iload_n 3, 1) := by decide +kernel
theorem dTop_statement_32 : decode bTop_statement 32 = .ok (.ifCond .lt 8, 3) := by decide +kernel
theorem dTop_statement_35 : decode bTop_statement 35 = .ok (.iload_n 3, 1) := by decide +kernel
theorem dTop_statement_36 : decode bTop_statement 36 = .ok (.iconst 5, 1) := by decide +kernel
theorem dTop_statement_37 : decode bTop_statement 37 = .ok (.if_icmp .lt 6, 3) := by decide +kernel
theorem dTop_statement_40 : decode bTop_statement 40 = .ok (.bipush (-2), 2) := by decide +kernel
theorem dTop_statement_42 : decode bTop_statement 42 = .ok (.ireturn, 1) := by decide +kernel
theorem dTop_statement_43 : decode bTop_statement 43 = .ok (.aload 4, 2) := by decide +kernel
theorem dTop_statement_45 : decode bTop_statement 45 = .ok (.getfield 102, 3) := by decide +kernel
theorem dTop_statement_48 : decode bTop_statement 48 = .ok (.getfield 118, 3) := by decide +kernel
theorem dTop_statement_51 : decode bTop_statement 51 = .ok (.iload_n 2, 1) := by decide +kernel
theorem dTop_statement_52 : decode bTop_statement 52 = .ok (.iconst 5, 1) := by decide +kernel
theorem dTop_statement_53 : decode bTop_statement 53 = .ok (.imul, 1) := by decide +kernel
theorem dTop_statement_54 : decode bTop_statement 54 = .ok (.iload_n 3, 1) := by decide +kernel
theorem dTop_statement_55 : decode bTop_statement 55 = .ok (.iadd, 1) := by decide +kernel
theorem dTop_statement_56 : decode bTop_statement 56 = .ok (.iaload, 1) := by decide +kernel
theorem dTop_statement_57 : decode bTop_statement 57 = .ok (.ireturn, 1) := by decide +kernel
def wpTop_statement (n : Nat) (ln : Nat → Nat) (x1 : Int32) (x2 : Int32) (x3 : Int32) (h : zM) (post : Int32 → zM → Prop) : Prop := wpBook_get n ln x1 h (fun r h5 => (r = none → post (-2) h5) ∧ ∀ jr5 : Nat, r = some jr5 → jr5 < n ∧ (((x2 < 0) → post (-2) h5) ∧ (¬ (x2 < 0) → ((((h5 (34 + 4 * jr5 + 1) 0) ≤ x2) → post (-2) h5) ∧ (¬ ((h5 (34 + 4 * jr5 + 1) 0) ≤ x2) → (((x3 < 0) → post (-2) h5) ∧ (¬ (x3 < 0) → (((x3 < 5) → (vp_in ((x2 * 5) + x3) 50 ∧ post (h5 ((34 + 4 * jr5 + 1) + 1) (Int32.toNatClampNeg ((x2 * 5) + x3))) h5)) ∧ (¬ (x3 < 5) → post (-2) h5)))))))))
abbrev rmTop_statement : Room := { frames := 1, cells := 0, slots := 0, locals := 21 }
set_option maxHeartbeats 4000000 in
set_option maxRecDepth 100000 in
theorem cTop_statement (l : Launch) (D : va_G) (cI cC cE : ClassId) (ad : Nat → Nat) (n : Nat) (ln : Nat → Nat) (A : Nat → Prop) (hJ : zJ A (34 + 4 * n) ad) (x1 : Int32) (x2 : Int32) (x3 : Int32) (h : zM) (post : Int32 → zM → Prop) (hw : wpTop_statement n ln x1 x2 x3 h post) : Met l yTop_statement (.code yTop_statement bTop_statement 5 (some .int) :: zt) rmTop_statement (va_Pc [.ref (ad 0), .int x1, .int x2, .int x3] (zPre D (zty cI cC cE) (34 + 4 * n) ad (zF ad cI cC cE n ln) A h)) (va_Qi post (zPst D (zty cI cC cE) (34 + 4 * n) ad (zF ad cI cC cE n ln)) A) 0 0 A := by
  refine Met.ofW (cc := bTop_statement) (maxL := 5) (ret := (some .int)) (by decide) rfl ?_
  intro p e s m args below meth c s₁ B hml hv
  obtain ⟨rfl, hP, hK, hT, hN⟩ := hv
  have hr := B.returns
  have hlk := B.notSynchronized
  have S : zS p m c bTop_statement 5 s _ "CallExplorer" := ⟨B.exec, B.bytes, hml, findClass_of_methodNamed B.named, fun w hw => atoms_spec (ws := .code yTop_statement bTop_statement 5 (some .int) :: zt) B.pre w (List.mem_cons_of_mem _ hw)⟩
  have hS : va_S A s.heap s.heap [] := va_S.rf
  have hl := lv_entry ([.ref (ad 0), .int x1, .int x2, .int x3]) (n := 5) (Nat.le_of_ble_eq_true rfl)
  rw [lg_entry_eq]
  generalize (lg_sl ([.ref (ad 0), .int x1, .int x2, .int x3]) ++ List.replicate (5 - (lg_sl ([.ref (ad 0), .int x1, .int x2, .int x3])).length) Slot.unset).toArray = ls at hl ⊢
  have hl : lv_has ls 5 [(0, .ref (ad 0)), (1, .int x1), (2, .int x2), (3, .int x3)] := hl
  show W p l e rmTop_statement s m ([.ref (ad 0), .int x1, .int x2, .int x3] : List Value).toArray below meth c s.heap [] 0 0 (zQi post D (zty cI cC cE) (34 + 4 * n) ad (zF ad cI cC cE n ln) A below ([.ref (ad 0), .int x1, .int x2, .int x3] : List Value).toArray s) _
  unfold wpTop_statement at hw
  refine lv_aload_n S.1 S.2.1 dTop_statement_0 rfl (lv_at hl 0 rfl) ?_
  refine zr_get S hK hP (zk (by decide)) (zF_0 _) fTop_book q296 rfl dTop_statement_1 ?_
  refine lv_iload_n S.1 S.2.1 dTop_statement_4 rfl (lv_at hl 1 rfl) ?_
  refine zr_e (zr_V (As := [.int x1]) (rest := []) S hK hT hN hP hS (zk (by decide)) (zF_9 _) rfl (cBook_get l D cI cC cE ad n ln A hJ _ _ _ hw) caTop_79 ⟨Nat.le_of_ble_eq_true rfl, Nat.le_of_ble_eq_true rfl⟩ ⟨rfl, rfl⟩ rfl hl.1 rfl (Nat.le_of_ble_eq_true rfl) dTop_statement_5) hS (fun h5 H locs hw hP hS => ?_) (fun jr5 h5 H locs hw hP hS => ?_)
  · have hw := hw.1 rfl
    refine lv_astoreN (lv' := [(4, .null), (0, .ref (ad 0)), (1, .int x1), (2, .int x2), (3, .int x3)]) S.1 S.2.1 dTop_statement_8 hl (by decide) rfl (fun ls hl => ?_)
    refine lv_aloadN S.1 S.2.1 dTop_statement_10 (lv_at hl 0 rfl) ?_
    refine lv_ifnullN S.1 S.2.1 dTop_statement_12 rfl ?_
    refine lv_bipush (v := (-2)) S.1 S.2.1 dTop_statement_40 (by decide) ?_
    exact zr_iret S hr hlk hK hP hS rfl hw dTop_statement_42
  · obtain ⟨hjr5, hw⟩ := hw.2 jr5 rfl
    refine lv_astore (lv' := [(4, .ref (ad (34 + 4 * jr5))), (0, .ref (ad 0)), (1, .int x1), (2, .int x2), (3, .int x3)]) S.1 S.2.1 dTop_statement_8 hl (by decide) rfl (fun ls hl => ?_)
    refine lv_aload S.1 S.2.1 dTop_statement_10 (lv_at hl 0 rfl) ?_
    refine lv_ifnull S.1 S.2.1 dTop_statement_12 ?_
    refine lv_iload_n S.1 S.2.1 dTop_statement_15 rfl (lv_at hl 3 rfl) ?_
    refine lv_if_lt S.1 S.2.1 dTop_statement_16 rfl (fun hc => ?_) (fun hc => ?_)
    · have hw := hw.1 hc
      refine lv_bipush (v := (-2)) S.1 S.2.1 dTop_statement_40 (by decide) ?_
      exact zr_iret S hr hlk hK hP hS rfl hw dTop_statement_42
    · have hw := hw.2 hc
      refine lv_iload_n S.1 S.2.1 dTop_statement_19 rfl (lv_at hl 3 rfl) ?_
      refine lv_aload S.1 S.2.1 dTop_statement_20 (lv_at hl 0 rfl) ?_
      refine zr_get S hK hP (zke0 hjr5) ((zFe_0 jr5) _) fEntry_sequence q603 rfl dTop_statement_22 ?_
      refine zr_get S hK hP (zke 1 hjr5) ((zFe_1 jr5) _) fSequence_size q183 rfl dTop_statement_25 ?_
      refine lv_icmp_ge S.1 S.2.1 dTop_statement_28 rfl (fun hc => ?_) (fun hc => ?_)
      · have hw := hw.1 hc
        refine lv_bipush (v := (-2)) S.1 S.2.1 dTop_statement_40 (by decide) ?_
        exact zr_iret S hr hlk hK hP hS rfl hw dTop_statement_42
      · have hw := hw.2 hc
        refine lv_iload_n S.1 S.2.1 dTop_statement_31 rfl (lv_at hl 4 rfl) ?_
        refine lv_if_lt S.1 S.2.1 dTop_statement_32 rfl (fun hc => ?_) (fun hc => ?_)
        · have hw := hw.1 hc
          refine lv_bipush (v := (-2)) S.1 S.2.1 dTop_statement_40 (by decide) ?_
          exact zr_iret S hr hlk hK hP hS rfl hw dTop_statement_42
        · have hw := hw.2 hc
          refine lv_iload_n S.1 S.2.1 dTop_statement_35 rfl (lv_at hl 4 rfl) ?_
          refine lv_iconst (v := 5) S.1 S.2.1 dTop_statement_36 (by decide) ?_
          refine lv_icmp_lt S.1 S.2.1 dTop_statement_37 rfl (fun hc => ?_) (fun hc => ?_)
          · have hw := hw.1 hc
            refine lv_aload S.1 S.2.1 dTop_statement_43 (lv_at hl 0 rfl) ?_
            refine zr_get S hK hP (zke0 hjr5) ((zFe_0 jr5) _) fEntry_sequence q603 rfl dTop_statement_45 ?_
            refine zr_get S hK hP (zke 1 hjr5) ((zFe_1 jr5) _) fSequence_cells q186 rfl dTop_statement_48 ?_
            refine lv_iload_n S.1 S.2.1 dTop_statement_51 rfl (lv_at hl 3 rfl) ?_
            refine lv_iconst (v := 5) S.1 S.2.1 dTop_statement_52 (by decide) ?_
            refine lv_imul S.1 S.2.1 dTop_statement_53 ?_
            refine lv_iload_n S.1 S.2.1 dTop_statement_54 rfl (lv_at hl 4 rfl) ?_
            refine lv_iadd S.1 S.2.1 dTop_statement_55 ?_
            obtain ⟨z56, hw⟩ := hw
            refine zr_ald S hK hP (zke 2 hjr5) ((zFe_2 jr5) _) 0 rfl z56 dTop_statement_56 ?_
            exact zr_iret S hr hlk hK hP hS rfl hw dTop_statement_57
          · have hw := hw.2 hc
            refine lv_bipush (v := (-2)) S.1 S.2.1 dTop_statement_40 (by decide) ?_
            exact zr_iret S hr hlk hK hP hS rfl hw dTop_statement_42
/-! Top.shorten -/
theorem dTop_shorten_0 : decode bTop_shorten 0 = .ok (.aload_n 0, 1) := by decide +kernel
theorem dTop_shorten_1 : decode bTop_shorten 1 = .ok (.getfield 21, 3) := by decide +kernel
theorem dTop_shorten_4 : decode bTop_shorten 4 = .ok (.iload_n 1, 1) := by decide +kernel
theorem dTop_shorten_5 : decode bTop_shorten 5 = .ok (.invokevirtual 79, 3) := by decide +kernel
theorem dTop_shorten_8 : decode bTop_shorten 8 = .ok (.astore_n 2, 1) := by decide +kernel
theorem dTop_shorten_9 : decode bTop_shorten 9 = .ok (.aload_n 2, 1) := by decide +kernel
theorem dTop_shorten_10 : decode bTop_shorten 10 = .ok (.ifnull 19, 3) := by decide +kernel
theorem dTop_shorten_13 : decode bTop_shorten 13 = .ok (.aload_n 2, 1) := by decide +kernel
theorem dTop_shorten_14 : decode bTop_shorten 14 = .ok (.getfield 83, 3) := by decide +kernel
theorem dTop_shorten_17 : decode bTop_shorten 17 = .ok (.iconst 2, 1) := by decide +kernel
theorem dTop_shorten_18 : decode bTop_shorten 18 = .ok (.if_icmp .eq 13, 3) := by decide +kernel
theorem dTop_shorten_21 : decode bTop_shorten 21 = .ok (.aload_n 2, 1) := by decide +kernel
theorem dTop_shorten_22 : decode bTop_shorten 22 = .ok (.getfield 83, 3) := by decide +kernel
theorem dTop_shorten_25 : decode bTop_shorten 25 = .ok (.iconst 3, 1) := by decide +kernel
theorem dTop_shorten_26 : decode bTop_shorten 26 = .ok (.if_icmp .eq 5, 3) := by decide +kernel
theorem dTop_shorten_29 : decode bTop_shorten 29 = .ok (.iconst (-1), 1) := by decide +kernel
theorem dTop_shorten_30 : decode bTop_shorten 30 = .ok (.ireturn, 1) := by decide +kernel
theorem dTop_shorten_31 : decode bTop_shorten 31 = .ok (.aload_n 0, 1) := by decide +kernel
theorem dTop_shorten_32 : decode bTop_shorten 32 = .ok (.getfield 46, 3) := by decide +kernel
theorem dTop_shorten_35 : decode bTop_shorten 35 = .ok (.aload_n 2, 1) := by decide +kernel
theorem dTop_shorten_36 : decode bTop_shorten 36 = .ok (.invokevirtual 92, 3) := by decide +kernel
theorem dTop_shorten_39 : decode bTop_shorten 39 = .ok (.aload_n 0, 1) := by decide +kernel
theorem dTop_shorten_40 : decode bTop_shorten 40 = .ok (.getfield 46, 3) := by decide +kernel
theorem dTop_shorten_43 : decode bTop_shorten 43 = .ok (.aload_n 2, 1) := by decide +kernel
theorem dTop_shorten_44 : decode bTop_shorten 44 = .ok (.invokevirtual 96, 3) := by decide +kernel
theorem dTop_shorten_47 : decode bTop_shorten 47 = .ok (.aload_n 0, 1) := by decide +kernel
theorem dTop_shorten_48 : decode bTop_shorten 48 = .ok (.getfield 46, 3) := by decide +kernel
theorem dTop_shorten_51 : decode bTop_shorten 51 = .ok (.aload_n 2, 1) := by decide +kernel
theorem dTop_shorten_52 : decode bTop_shorten 52 = .ok (.invokevirtual 99, 3) := by decide +kernel
theorem dTop_shorten_55 : decode bTop_shorten 55 = .ok (.aload_n 2, 1) := by decide +kernel
theorem dTop_shorten_56 : decode bTop_shorten 56 = .ok (.getfield 102, 3) := by decide +kernel
theorem dTop_shorten_59 : decode bTop_shorten 59 = .ok (.getfield 106, 3) := by decide +kernel
theorem dTop_shorten_62 : decode bTop_shorten 62 = .ok (.ireturn, 1) := by decide +kernel
def wbTop_shorten_31 (n : Nat) (ln : Nat → Nat) (jr5 : Nat) (post : Int32 → zM → Prop) (h : zM) : Prop := wpShortener_lowerVariables n ln jr5 h (fun h36 => wpShortener_dropStatements n ln jr5 h36 (fun h44 => wpShortener_zeroLiterals n ln jr5 h44 (fun h52 => post (h52 (34 + 4 * jr5 + 1) 0) h52)))
def wpTop_shorten (n : Nat) (ln : Nat → Nat) (x1 : Int32) (h : zM) (post : Int32 → zM → Prop) : Prop := wpBook_get n ln x1 h (fun r h5 => (r = none → post (-1) h5) ∧ ∀ jr5 : Nat, r = some jr5 → jr5 < n ∧ (((h5 (34 + 4 * jr5) 1) = 2 → wbTop_shorten_31 n ln jr5 post h5) ∧ (¬ (h5 (34 + 4 * jr5) 1) = 2 → (((h5 (34 + 4 * jr5) 1) = 3 → wbTop_shorten_31 n ln jr5 post h5) ∧ (¬ (h5 (34 + 4 * jr5) 1) = 3 → post (-1) h5)))))
abbrev rmTop_shorten : Room := { frames := 7, cells := 0, slots := 0, locals := 165 }
set_option maxHeartbeats 4000000 in
set_option maxRecDepth 100000 in
theorem cTop_shorten (l : Launch) (D : va_G) (cI cC cE : ClassId) (ad : Nat → Nat) (n : Nat) (ln : Nat → Nat) (A : Nat → Prop) (hJ : zJ A (34 + 4 * n) ad) (x1 : Int32) (h : zM) (post : Int32 → zM → Prop) (hw : wpTop_shorten n ln x1 h post) : Met l yTop_shorten (.code yTop_shorten bTop_shorten 3 (some .int) :: zt) rmTop_shorten (va_Pc [.ref (ad 0), .int x1] (zPre D (zty cI cC cE) (34 + 4 * n) ad (zF ad cI cC cE n ln) A h)) (va_Qi post (zPst D (zty cI cC cE) (34 + 4 * n) ad (zF ad cI cC cE n ln)) A) 0 0 A := by
  refine Met.ofW (cc := bTop_shorten) (maxL := 3) (ret := (some .int)) (by decide) rfl ?_
  intro p e s m args below meth c s₁ B hml hv
  obtain ⟨rfl, hP, hK, hT, hN⟩ := hv
  have hr := B.returns
  have hlk := B.notSynchronized
  have S : zS p m c bTop_shorten 3 s _ "CallExplorer" := ⟨B.exec, B.bytes, hml, findClass_of_methodNamed B.named, fun w hw => atoms_spec (ws := .code yTop_shorten bTop_shorten 3 (some .int) :: zt) B.pre w (List.mem_cons_of_mem _ hw)⟩
  have hS : va_S A s.heap s.heap [] := va_S.rf
  have hl := lv_entry ([.ref (ad 0), .int x1]) (n := 3) (Nat.le_of_ble_eq_true rfl)
  rw [lg_entry_eq]
  generalize (lg_sl ([.ref (ad 0), .int x1]) ++ List.replicate (3 - (lg_sl ([.ref (ad 0), .int x1])).length) Slot.unset).toArray = ls at hl ⊢
  have hl : lv_has ls 3 [(0, .ref (ad 0)), (1, .int x1)] := hl
  show W p l e rmTop_shorten s m ([.ref (ad 0), .int x1] : List Value).toArray below meth c s.heap [] 0 0 (zQi post D (zty cI cC cE) (34 + 4 * n) ad (zF ad cI cC cE n ln) A below ([.ref (ad 0), .int x1] : List Value).toArray s) _
  have J31 : ∀ (jr5 : Nat) (hjr5 : jr5 < n) (h : zM) (H : Heap) (locs : List Loc) (ls : Array Slot), wbTop_shorten_31 n ln jr5 post h → lv_has ls 3 [(0, .ref (ad 0)), (2, .ref (ad (34 + 4 * jr5)))] → va_P D zcl (zW (34 + 4 * n) ad (zF ad cI cC cE n ln) h) H → va_S A s.heap H locs → W p l e rmTop_shorten s m ([.ref (ad 0), .int x1] : List Value).toArray below meth c H locs 0 0 (zQi post D (zty cI cC cE) (34 + 4 * n) ad (zF ad cI cC cE n ln) A below ([.ref (ad 0), .int x1] : List Value).toArray s) (F0 m 31 ls []) := by
    intro jr5 hjr5  h H locs ls hw hl hP hS
    unfold wbTop_shorten_31 at hw
    refine lv_aload_n S.1 S.2.1 dTop_shorten_31 rfl (lv_at hl 0 rfl) ?_
    refine zr_get S hK hP (zk (by decide)) (zF_0 _) fTop_shortener q299 rfl dTop_shorten_32 ?_
    refine lv_aload_n S.1 S.2.1 dTop_shorten_35 rfl (lv_at hl 1 rfl) ?_
    refine zr_v (zr_V (As := [.ref (ad (34 + 4 * jr5))]) (rest := []) S hK hT hN hP hS (zk (by decide)) (zF_25 _) rfl (cShortener_lowerVariables l D cI cC cE ad n ln A hJ jr5 hjr5 _ _ hw) caTop_92 ⟨Nat.le_of_ble_eq_true rfl, Nat.le_of_ble_eq_true rfl⟩ ⟨rfl, rfl⟩ rfl hl.1 rfl (Nat.le_of_ble_eq_true rfl) dTop_shorten_36) hS (fun h36 H locs hw hP hS => ?_)
    refine lv_aload_n S.1 S.2.1 dTop_shorten_39 rfl (lv_at hl 0 rfl) ?_
    refine zr_get S hK hP (zk (by decide)) (zF_0 _) fTop_shortener q299 rfl dTop_shorten_40 ?_
    refine lv_aload_n S.1 S.2.1 dTop_shorten_43 rfl (lv_at hl 1 rfl) ?_
    refine zr_v (zr_V (As := [.ref (ad (34 + 4 * jr5))]) (rest := []) S hK hT hN hP hS (zk (by decide)) (zF_25 _) rfl (cShortener_dropStatements l D cI cC cE ad n ln A hJ jr5 hjr5 _ _ hw) caTop_96 ⟨Nat.le_of_ble_eq_true rfl, Nat.le_of_ble_eq_true rfl⟩ ⟨rfl, rfl⟩ rfl hl.1 rfl (Nat.le_of_ble_eq_true rfl) dTop_shorten_44) hS (fun h44 H locs hw hP hS => ?_)
    refine lv_aload_n S.1 S.2.1 dTop_shorten_47 rfl (lv_at hl 0 rfl) ?_
    refine zr_get S hK hP (zk (by decide)) (zF_0 _) fTop_shortener q299 rfl dTop_shorten_48 ?_
    refine lv_aload_n S.1 S.2.1 dTop_shorten_51 rfl (lv_at hl 1 rfl) ?_
    refine zr_v (zr_V (As := [.ref (ad (34 + 4 * jr5))]) (rest := []) S hK hT hN hP hS (zk (by decide)) (zF_25 _) rfl (cShortener_zeroLiterals l D cI cC cE ad n ln A hJ jr5 hjr5 _ _ hw) caTop_99 ⟨Nat.le_of_ble_eq_true rfl, Nat.le_of_ble_eq_true rfl⟩ ⟨rfl, rfl⟩ rfl hl.1 rfl (Nat.le_of_ble_eq_true rfl) dTop_shorten_52) hS (fun h52 H locs hw hP hS => ?_)
    refine lv_aload_n S.1 S.2.1 dTop_shorten_55 rfl (lv_at hl 1 rfl) ?_
    refine zr_get S hK hP (zke0 hjr5) ((zFe_0 jr5) _) fEntry_sequence q603 rfl dTop_shorten_56 ?_
    refine zr_get S hK hP (zke 1 hjr5) ((zFe_1 jr5) _) fSequence_size q183 rfl dTop_shorten_59 ?_
    exact zr_iret S hr hlk hK hP hS rfl hw dTop_shorten_62
  unfold wpTop_shorten at hw
  refine lv_aload_n S.1 S.2.1 dTop_shorten_0 rfl (lv_at hl 0 rfl) ?_
  refine zr_get S hK hP (zk (by decide)) (zF_0 _) fTop_book q296 rfl dTop_shorten_1 ?_
  refine lv_iload_n S.1 S.2.1 dTop_shorten_4 rfl (lv_at hl 1 rfl) ?_
  refine zr_e (zr_V (As := [.int x1]) (rest := []) S hK hT hN hP hS (zk (by decide)) (zF_9 _) rfl (cBook_get l D cI cC cE ad n ln A hJ _ _ _ hw) caTop_79 ⟨Nat.le_of_ble_eq_true rfl, Nat.le_of_ble_eq_true rfl⟩ ⟨rfl, rfl⟩ rfl hl.1 rfl (Nat.le_of_ble_eq_true rfl) dTop_shorten_5) hS (fun h5 H locs hw hP hS => ?_) (fun jr5 h5 H locs hw hP hS => ?_)
  · have hw := hw.1 rfl
    refine lv_astore_nN (lv' := [(2, .null), (0, .ref (ad 0)), (1, .int x1)]) S.1 S.2.1 dTop_shorten_8 rfl hl (by decide) rfl (fun ls hl => ?_)
    refine lv_aload_nN S.1 S.2.1 dTop_shorten_9 rfl (lv_at hl 0 rfl) ?_
    refine lv_ifnullN S.1 S.2.1 dTop_shorten_10 rfl ?_
    refine lv_iconst (v := (-1)) S.1 S.2.1 dTop_shorten_29 (by decide) ?_
    exact zr_iret S hr hlk hK hP hS rfl hw dTop_shorten_30
  · obtain ⟨hjr5, hw⟩ := hw.2 jr5 rfl
    refine lv_astore_n (lv' := [(2, .ref (ad (34 + 4 * jr5))), (0, .ref (ad 0)), (1, .int x1)]) S.1 S.2.1 dTop_shorten_8 rfl hl (by decide) rfl (fun ls hl => ?_)
    refine lv_aload_n S.1 S.2.1 dTop_shorten_9 rfl (lv_at hl 0 rfl) ?_
    refine lv_ifnull S.1 S.2.1 dTop_shorten_10 ?_
    refine lv_aload_n S.1 S.2.1 dTop_shorten_13 rfl (lv_at hl 0 rfl) ?_
    refine zr_get S hK hP (zke0 hjr5) ((zFe_0 jr5) _) fEntry_outcome q609 rfl dTop_shorten_14 ?_
    refine lv_iconst (v := 2) S.1 S.2.1 dTop_shorten_17 (by decide) ?_
    refine lv_icmp_eq S.1 S.2.1 dTop_shorten_18 rfl (fun hc => ?_) (fun hc => ?_)
    · have hw := hw.1 hc
      exact J31 jr5 hjr5  _ _ _ _ hw (lv_sub hl [1, 0] rfl) hP hS
    · have hw := hw.2 hc
      refine lv_aload_n S.1 S.2.1 dTop_shorten_21 rfl (lv_at hl 0 rfl) ?_
      refine zr_get S hK hP (zke0 hjr5) ((zFe_0 jr5) _) fEntry_outcome q609 rfl dTop_shorten_22 ?_
      refine lv_iconst (v := 3) S.1 S.2.1 dTop_shorten_25 (by decide) ?_
      refine lv_icmp_eq S.1 S.2.1 dTop_shorten_26 rfl (fun hc => ?_) (fun hc => ?_)
      · have hw := hw.1 hc
        exact J31 jr5 hjr5  _ _ _ _ hw (lv_sub hl [1, 0] rfl) hP hS
      · have hw := hw.2 hc
        refine lv_iconst (v := (-1)) S.1 S.2.1 dTop_shorten_29 (by decide) ?_
        exact zr_iret S hr hlk hK hP hS rfl hw dTop_shorten_30
/-! Top.text -/
theorem dTop_text_0 : decode bTop_text 0 = .ok (.aload_n 0, 1) := by decide +kernel
theorem dTop_text_1 : decode bTop_text 1 = .ok (.getfield 21, 3) := by decide +kernel
theorem dTop_text_4 : decode bTop_text 4 = .ok (.iload_n 1, 1) := by decide +kernel
theorem dTop_text_5 : decode bTop_text 5 = .ok (.invokevirtual 79, 3) := by decide +kernel
theorem dTop_text_8 : decode bTop_text 8 = .ok (.astore_n 3, 1) := by decide +kernel
theorem dTop_text_9 : decode bTop_text 9 = .ok (.aload_n 3, 1) := by decide +kernel
theorem dTop_text_10 : decode bTop_text 10 = .ok (.ifnonnull 6, 3) := by decide +kernel
theorem dTop_text_13 : decode bTop_text 13 = .ok (.bipush (-2), 2) := by decide +kernel
theorem dTop_text_15 : decode bTop_text 15 = .ok (.ireturn, 1) := by decide +kernel
theorem dTop_text_16 : decode bTop_text 16 = .ok (.aload_n 0, 1) := by decide +kernel
theorem dTop_text_17 : decode bTop_text 17 = .ok (.getfield 53, 3) := by decide +kernel
theorem dTop_text_20 : decode bTop_text 20 = .ok (.aload_n 3, 1) := by decide +kernel
theorem dTop_text_21 : decode bTop_text 21 = .ok (.invokevirtual 122, 3) := by decide +kernel
theorem dTop_text_24 : decode bTop_text 24 = .ok (.iload_n 2, 1) := by decide +kernel
theorem dTop_text_25 : decode bTop_text 25 = .ok (.iconst (-1), 1) := by decide +kernel
theorem dTop_text_26 : decode bTop_text 26 = .ok (.if_icmp .ne 11, 3) := by decide +kernel
theorem dTop_text_29 : decode bTop_text 29 = .ok (.aload_n 0, 1) := by decide +kernel
theorem dTop_text_30 : decode bTop_text 30 = .ok (.getfield 53, 3) := by decide +kernel
theorem dTop_text_33 : decode bTop_text 33 = .ok (.getfield 125, 3) := by decide +kernel
theorem dTop_text_36 : decode bTop_text 36 = .ok (.ireturn, 1) := by decide +kernel
theorem dTop_text_37 : decode bTop_text 37 = .ok (.iload_n 2, 1) := by decide +kernel
theorem dTop_text_38 : decode bTop_text 38 = .ok (.ifCond .lt 26, 3) := by decide +kernel
theorem dTop_text_41 : decode bTop_text 41 = .ok (.iload_n 2, 1) := by decide +kernel
theorem dTop_text_42 : decode bTop_text 42 = .ok (.aload_n 0, 1) := by decide +kernel
theorem dTop_text_43 : decode bTop_text 43 = .ok (.getfield 53, 3) := by decide +kernel
theorem dTop_text_46 : decode bTop_text 46 = .ok (.getfield 125, 3) := by decide +kernel
theorem dTop_text_49 : decode bTop_text 49 = .ok (.if_icmp .ge 15, 3) := by decide +kernel
theorem dTop_text_52 : decode bTop_text 52 = .ok (.aload_n 0, 1) := by decide +kernel
theorem dTop_text_53 : decode bTop_text 53 = .ok (.getfield 53, 3) := by decide +kernel
theorem dTop_text_56 : decode bTop_text 56 = .ok (.getfield 128, 3) := by decide +kernel
theorem dTop_text_59 : decode bTop_text 59 = .ok (.iload_n 2, 1) := by decide +kernel
theorem dTop_text_60 : decode bTop_text 60 = .ok (.caload, 1) := by decide +kernel
theorem dTop_text_61 : decode bTop_text 61 = .ok (.goto 5, 3) := by decide +kernel
theorem dTop_text_64 : decode bTop_text 64 = .ok (.bipush (-2), 2) := by decide +kernel
theorem dTop_text_66 : decode bTop_text 66 = .ok (.ireturn, 1) := by decide +kernel
def wpTop_text (n : Nat) (ln : Nat → Nat) (x1 : Int32) (x2 : Int32) (h : zM) (post : Int32 → zM → Prop) : Prop := wpBook_get n ln x1 h (fun r h5 => (r = none → post (-2) h5) ∧ ∀ jr5 : Nat, r = some jr5 → jr5 < n ∧ wpWriter_write n ln jr5 h5 (fun h21 => ((¬ x2 = (-1) → (((x2 < 0) → post (-2) h21) ∧ (¬ (x2 < 0) → ((((h21 28 1) ≤ x2) → post (-2) h21) ∧ (¬ ((h21 28 1) ≤ x2) → (vp_in x2 200 ∧ post (h21 29 (Int32.toNatClampNeg x2)) h21)))))) ∧ (x2 = (-1) → post (h21 28 1) h21))))
abbrev rmTop_text : Room := { frames := 5, cells := 0, slots := 0, locals := 114 }
set_option maxHeartbeats 4000000 in
set_option maxRecDepth 100000 in
theorem cTop_text (l : Launch) (D : va_G) (cI cC cE : ClassId) (ad : Nat → Nat) (n : Nat) (ln : Nat → Nat) (A : Nat → Prop) (hJ : zJ A (34 + 4 * n) ad) (x1 : Int32) (x2 : Int32) (h : zM) (post : Int32 → zM → Prop) (hw : wpTop_text n ln x1 x2 h post) : Met l yTop_text (.code yTop_text bTop_text 4 (some .int) :: zt) rmTop_text (va_Pc [.ref (ad 0), .int x1, .int x2] (zPre D (zty cI cC cE) (34 + 4 * n) ad (zF ad cI cC cE n ln) A h)) (va_Qi post (zPst D (zty cI cC cE) (34 + 4 * n) ad (zF ad cI cC cE n ln)) A) 0 0 A := by
  refine Met.ofW (cc := bTop_text) (maxL := 4) (ret := (some .int)) (by decide) rfl ?_
  intro p e s m args below meth c s₁ B hml hv
  obtain ⟨rfl, hP, hK, hT, hN⟩ := hv
  have hr := B.returns
  have hlk := B.notSynchronized
  have S : zS p m c bTop_text 4 s _ "CallExplorer" := ⟨B.exec, B.bytes, hml, findClass_of_methodNamed B.named, fun w hw => atoms_spec (ws := .code yTop_text bTop_text 4 (some .int) :: zt) B.pre w (List.mem_cons_of_mem _ hw)⟩
  have hS : va_S A s.heap s.heap [] := va_S.rf
  have hl := lv_entry ([.ref (ad 0), .int x1, .int x2]) (n := 4) (Nat.le_of_ble_eq_true rfl)
  rw [lg_entry_eq]
  generalize (lg_sl ([.ref (ad 0), .int x1, .int x2]) ++ List.replicate (4 - (lg_sl ([.ref (ad 0), .int x1, .int x2])).length) Slot.unset).toArray = ls at hl ⊢
  have hl : lv_has ls 4 [(0, .ref (ad 0)), (1, .int x1), (2, .int x2)] := hl
  show W p l e rmTop_text s m ([.ref (ad 0), .int x1, .int x2] : List Value).toArray below meth c s.heap [] 0 0 (zQi post D (zty cI cC cE) (34 + 4 * n) ad (zF ad cI cC cE n ln) A below ([.ref (ad 0), .int x1, .int x2] : List Value).toArray s) _
  unfold wpTop_text at hw
  refine lv_aload_n S.1 S.2.1 dTop_text_0 rfl (lv_at hl 0 rfl) ?_
  refine zr_get S hK hP (zk (by decide)) (zF_0 _) fTop_book q296 rfl dTop_text_1 ?_
  refine lv_iload_n S.1 S.2.1 dTop_text_4 rfl (lv_at hl 1 rfl) ?_
  refine zr_e (zr_V (As := [.int x1]) (rest := []) S hK hT hN hP hS (zk (by decide)) (zF_9 _) rfl (cBook_get l D cI cC cE ad n ln A hJ _ _ _ hw) caTop_79 ⟨Nat.le_of_ble_eq_true rfl, Nat.le_of_ble_eq_true rfl⟩ ⟨rfl, rfl⟩ rfl hl.1 rfl (Nat.le_of_ble_eq_true rfl) dTop_text_5) hS (fun h5 H locs hw hP hS => ?_) (fun jr5 h5 H locs hw hP hS => ?_)
  · have hw := hw.1 rfl
    refine lv_astore_nN (lv' := [(3, .null), (0, .ref (ad 0)), (1, .int x1), (2, .int x2)]) S.1 S.2.1 dTop_text_8 rfl hl (by decide) rfl (fun ls hl => ?_)
    refine lv_aload_nN S.1 S.2.1 dTop_text_9 rfl (lv_at hl 0 rfl) ?_
    refine lv_ifnonnullN S.1 S.2.1 dTop_text_10 ?_
    refine lv_bipush (v := (-2)) S.1 S.2.1 dTop_text_13 (by decide) ?_
    exact zr_iret S hr hlk hK hP hS rfl hw dTop_text_15
  · obtain ⟨hjr5, hw⟩ := hw.2 jr5 rfl
    refine lv_astore_n (lv' := [(3, .ref (ad (34 + 4 * jr5))), (0, .ref (ad 0)), (1, .int x1), (2, .int x2)]) S.1 S.2.1 dTop_text_8 rfl hl (by decide) rfl (fun ls hl => ?_)
    refine lv_aload_n S.1 S.2.1 dTop_text_9 rfl (lv_at hl 0 rfl) ?_
    refine lv_ifnonnull S.1 S.2.1 dTop_text_10 rfl ?_
    refine lv_aload_n S.1 S.2.1 dTop_text_16 rfl (lv_at hl 1 rfl) ?_
    refine zr_get S hK hP (zk (by decide)) (zF_0 _) fTop_writer q300 rfl dTop_text_17 ?_
    refine lv_aload_n S.1 S.2.1 dTop_text_20 rfl (lv_at hl 0 rfl) ?_
    refine zr_v (zr_V (As := [.ref (ad (34 + 4 * jr5))]) (rest := []) S hK hT hN hP hS (zk (by decide)) (zF_28 _) rfl (cWriter_write l D cI cC cE ad n ln A hJ jr5 hjr5 _ _ hw) caTop_122 ⟨Nat.le_of_ble_eq_true rfl, Nat.le_of_ble_eq_true rfl⟩ ⟨rfl, rfl⟩ rfl hl.1 rfl (Nat.le_of_ble_eq_true rfl) dTop_text_21) hS (fun h21 H locs hw hP hS => ?_)
    refine lv_iload_n S.1 S.2.1 dTop_text_24 rfl (lv_at hl 3 rfl) ?_
    refine lv_iconst (v := (-1)) S.1 S.2.1 dTop_text_25 (by decide) ?_
    refine lv_icmp_ne S.1 S.2.1 dTop_text_26 rfl (fun hc => ?_) (fun hc => ?_)
    · have hw := hw.1 hc
      refine lv_iload_n S.1 S.2.1 dTop_text_37 rfl (lv_at hl 3 rfl) ?_
      refine lv_if_lt S.1 S.2.1 dTop_text_38 rfl (fun hc => ?_) (fun hc => ?_)
      · have hw := hw.1 hc
        refine lv_bipush (v := (-2)) S.1 S.2.1 dTop_text_64 (by decide) ?_
        exact zr_iret S hr hlk hK hP hS rfl hw dTop_text_66
      · have hw := hw.2 hc
        refine lv_iload_n S.1 S.2.1 dTop_text_41 rfl (lv_at hl 3 rfl) ?_
        refine lv_aload_n S.1 S.2.1 dTop_text_42 rfl (lv_at hl 1 rfl) ?_
        refine zr_get S hK hP (zk (by decide)) (zF_0 _) fTop_writer q300 rfl dTop_text_43 ?_
        refine zr_get S hK hP (zk (by decide)) (zF_28 _) fWriter_length q248 rfl dTop_text_46 ?_
        refine lv_icmp_ge S.1 S.2.1 dTop_text_49 rfl (fun hc => ?_) (fun hc => ?_)
        · have hw := hw.1 hc
          refine lv_bipush (v := (-2)) S.1 S.2.1 dTop_text_64 (by decide) ?_
          exact zr_iret S hr hlk hK hP hS rfl hw dTop_text_66
        · have hw := hw.2 hc
          refine lv_aload_n S.1 S.2.1 dTop_text_52 rfl (lv_at hl 1 rfl) ?_
          refine zr_get S hK hP (zk (by decide)) (zF_0 _) fTop_writer q300 rfl dTop_text_53 ?_
          refine zr_get S hK hP (zk (by decide)) (zF_28 _) fWriter_letters q246 rfl dTop_text_56 ?_
          refine lv_iload_n S.1 S.2.1 dTop_text_59 rfl (lv_at hl 3 rfl) ?_
          obtain ⟨z60, hw⟩ := hw
          refine zr_cld S hK hP (zk (by decide)) (zF_29 _) 1 rfl z60 dTop_text_60 ?_
          refine lv_goto S.1 S.2.1 dTop_text_61 rfl ?_
          exact zr_iret S hr hlk hK hP hS rfl hw dTop_text_66
    · have hw := hw.2 hc
      refine lv_aload_n S.1 S.2.1 dTop_text_29 rfl (lv_at hl 1 rfl) ?_
      refine zr_get S hK hP (zk (by decide)) (zF_0 _) fTop_writer q300 rfl dTop_text_30 ?_
      refine zr_get S hK hP (zk (by decide)) (zF_28 _) fWriter_length q248 rfl dTop_text_33 ?_
      exact zr_iret S hr hlk hK hP hS rfl hw dTop_text_36
/-! Top.draft -/
theorem dTop_draft_0 : decode bTop_draft 0 = .ok (.aload_n 0, 1) := by decide +kernel
theorem dTop_draft_1 : decode bTop_draft 1 = .ok (.getfield 60, 3) := by decide +kernel
theorem dTop_draft_4 : decode bTop_draft 4 = .ok (.lload_n 1, 1) := by decide +kernel
theorem dTop_draft_5 : decode bTop_draft 5 = .ok (.invokevirtual 132, 3) := by decide +kernel
theorem dTop_draft_8 : decode bTop_draft 8 = .ok (.ireturn, 1) := by decide +kernel
def wpTop_draft (n : Nat) (ln : Nat → Nat) (w1 : Int64) (h : zM) (post : Int32 → zM → Prop) : Prop := wpReader_addToDraft n ln w1 h (fun r5 h5 => ((r5 = 0 ∨ r5 = 1) ∧ post r5 h5))
abbrev rmTop_draft : Room := { frames := 3, cells := 0, slots := 0, locals := 70 }
set_option maxHeartbeats 4000000 in
set_option maxRecDepth 100000 in
theorem cTop_draft (l : Launch) (D : va_G) (cI cC cE : ClassId) (ad : Nat → Nat) (n : Nat) (ln : Nat → Nat) (A : Nat → Prop) (hJ : zJ A (34 + 4 * n) ad) (w1 : Int64) (h : zM) (post : Int32 → zM → Prop) (hw : wpTop_draft n ln w1 h post) : Met l yTop_draft (.code yTop_draft bTop_draft 3 (some .boolean) :: zt) rmTop_draft (va_Pc [.ref (ad 0), .long w1] (zPre D (zty cI cC cE) (34 + 4 * n) ad (zF ad cI cC cE n ln) A h)) (va_Qi post (zPst D (zty cI cC cE) (34 + 4 * n) ad (zF ad cI cC cE n ln)) A) 0 0 A := by
  refine Met.ofW (cc := bTop_draft) (maxL := 3) (ret := (some .boolean)) (by decide) rfl ?_
  intro p e s m args below meth c s₁ B hml hv
  obtain ⟨rfl, hP, hK, hT, hN⟩ := hv
  have hr := B.returns
  have hlk := B.notSynchronized
  have S : zS p m c bTop_draft 3 s _ "CallExplorer" := ⟨B.exec, B.bytes, hml, findClass_of_methodNamed B.named, fun w hw => atoms_spec (ws := .code yTop_draft bTop_draft 3 (some .boolean) :: zt) B.pre w (List.mem_cons_of_mem _ hw)⟩
  have hS : va_S A s.heap s.heap [] := va_S.rf
  have hl := lv_entry ([.ref (ad 0), .long w1]) (n := 3) (Nat.le_of_ble_eq_true rfl)
  rw [lg_entry_eq]
  generalize (lg_sl ([.ref (ad 0), .long w1]) ++ List.replicate (3 - (lg_sl ([.ref (ad 0), .long w1])).length) Slot.unset).toArray = ls at hl ⊢
  have hl : lv_has ls 3 [(0, .ref (ad 0)), (1, .long w1)] := hl
  show W p l e rmTop_draft s m ([.ref (ad 0), .long w1] : List Value).toArray below meth c s.heap [] 0 0 (zQi post D (zty cI cC cE) (34 + 4 * n) ad (zF ad cI cC cE n ln) A below ([.ref (ad 0), .long w1] : List Value).toArray s) _
  unfold wpTop_draft at hw
  refine lv_aload_n S.1 S.2.1 dTop_draft_0 rfl (lv_at hl 0 rfl) ?_
  refine zr_get S hK hP (zk (by decide)) (zF_0 _) fTop_reader q301 rfl dTop_draft_1 ?_
  refine lv_lload_n S.1 S.2.1 dTop_draft_4 rfl (lv_at hl 1 rfl) ?_
  refine zr_i (zr_V (As := [.long w1]) (rest := []) S hK hT hN hP hS (zk (by decide)) (zF_30 _) rfl (cReader_addToDraft l D cI cC cE ad n ln A hJ _ _ _ hw) caTop_132 ⟨Nat.le_of_ble_eq_true rfl, Nat.le_of_ble_eq_true rfl⟩ ⟨rfl, rfl⟩ rfl hl.1 rfl (Nat.le_of_ble_eq_true rfl) dTop_draft_5) hS (fun r5 h5 H locs hw hP hS => ?_)
  exact zr_iret S hr hlk hK hP hS (zbn hw.1) hw.2 dTop_draft_8
/-! Top.replay -/
theorem dTop_replay_0 : decode bTop_replay 0 = .ok (.aload_n 0, 1) := by decide +kernel
theorem dTop_replay_1 : decode bTop_replay 1 = .ok (.getfield 60, 3) := by decide +kernel
theorem dTop_replay_4 : decode bTop_replay 4 = .ok (.invokevirtual 136, 3) := by decide +kernel
theorem dTop_replay_7 : decode bTop_replay 7 = .ok (.ifCond .ne 5, 3) := by decide +kernel
theorem dTop_replay_10 : decode bTop_replay 10 = .ok (.iconst (-1), 1) := by decide +kernel
theorem dTop_replay_11 : decode bTop_replay 11 = .ok (.ireturn, 1) := by decide +kernel
theorem dTop_replay_12 : decode bTop_replay 12 = .ok (.aload_n 0, 1) := by decide +kernel
theorem dTop_replay_13 : decode bTop_replay 13 = .ok (.getfield 28, 3) := by decide +kernel
theorem dTop_replay_16 : decode bTop_replay 16 = .ok (.aload_n 0, 1) := by decide +kernel
theorem dTop_replay_17 : decode bTop_replay 17 = .ok (.getfield 60, 3) := by decide +kernel
theorem dTop_replay_20 : decode bTop_replay 20 = .ok (.getfield 140, 3) := by decide +kernel
theorem dTop_replay_23 : decode bTop_replay 23 = .ok (.invokevirtual 141, 3) := by decide +kernel
theorem dTop_replay_26 : decode bTop_replay 26 = .ok (.aload_n 0, 1) := by decide +kernel
theorem dTop_replay_27 : decode bTop_replay 27 = .ok (.getfield 60, 3) := by decide +kernel
theorem dTop_replay_30 : decode bTop_replay 30 = .ok (.aload_n 0, 1) := by decide +kernel
theorem dTop_replay_31 : decode bTop_replay 31 = .ok (.getfield 28, 3) := by decide +kernel
theorem dTop_replay_34 : decode bTop_replay 34 = .ok (.invokevirtual 145, 3) := by decide +kernel
theorem dTop_replay_37 : decode bTop_replay 37 = .ok (.ifCond .eq 7, 3) := by decide +kernel
theorem dTop_replay_40 : decode bTop_replay 40 = .ok (.iconst 1, 1) := by decide +kernel
theorem dTop_replay_41 : decode bTop_replay 41 = .ok (.goto 4, 3) := by decide +kernel
theorem dTop_replay_44 : decode bTop_replay 44 = .ok (.iconst 0, 1) := by decide +kernel
theorem dTop_replay_45 : decode bTop_replay 45 = .ok (.ireturn, 1) := by decide +kernel
def wpTop_replay (n : Nat) (ln : Nat → Nat) (h : zM) (post : Int32 → zM → Prop) : Prop := wpReader_read n ln h (fun r4 h4 => ((¬ r4 = 0 → wpRunner_run n ln 32 h4 (fun h23 => wpReader_foretold n ln h23 (fun r34 h34 => ((r34 = 0 → post 0 h34) ∧ (¬ r34 = 0 → post 1 h34))))) ∧ (r4 = 0 → post (-1) h4)))
abbrev rmTop_replay : Room := { frames := 7, cells := 0, slots := 0, locals := 156 }
set_option maxHeartbeats 4000000 in
set_option maxRecDepth 100000 in
theorem cTop_replay (l : Launch) (D : va_G) (cI cC cE : ClassId) (ad : Nat → Nat) (n : Nat) (ln : Nat → Nat) (A : Nat → Prop) (hJ : zJ A (34 + 4 * n) ad) (h : zM) (post : Int32 → zM → Prop) (hw : wpTop_replay n ln h post) : Met l yTop_replay (.code yTop_replay bTop_replay 1 (some .int) :: zt) rmTop_replay (va_Pc [.ref (ad 0)] (zPre D (zty cI cC cE) (34 + 4 * n) ad (zF ad cI cC cE n ln) A h)) (va_Qi post (zPst D (zty cI cC cE) (34 + 4 * n) ad (zF ad cI cC cE n ln)) A) 0 0 A := by
  refine Met.ofW (cc := bTop_replay) (maxL := 1) (ret := (some .int)) (by decide) rfl ?_
  intro p e s m args below meth c s₁ B hml hv
  obtain ⟨rfl, hP, hK, hT, hN⟩ := hv
  have hr := B.returns
  have hlk := B.notSynchronized
  have S : zS p m c bTop_replay 1 s _ "CallExplorer" := ⟨B.exec, B.bytes, hml, findClass_of_methodNamed B.named, fun w hw => atoms_spec (ws := .code yTop_replay bTop_replay 1 (some .int) :: zt) B.pre w (List.mem_cons_of_mem _ hw)⟩
  have hS : va_S A s.heap s.heap [] := va_S.rf
  have hl := lv_entry ([.ref (ad 0)]) (n := 1) (Nat.le_of_ble_eq_true rfl)
  rw [lg_entry_eq]
  generalize (lg_sl ([.ref (ad 0)]) ++ List.replicate (1 - (lg_sl ([.ref (ad 0)])).length) Slot.unset).toArray = ls at hl ⊢
  have hl : lv_has ls 1 [(0, .ref (ad 0))] := hl
  show W p l e rmTop_replay s m ([.ref (ad 0)] : List Value).toArray below meth c s.heap [] 0 0 (zQi post D (zty cI cC cE) (34 + 4 * n) ad (zF ad cI cC cE n ln) A below ([.ref (ad 0)] : List Value).toArray s) _
  unfold wpTop_replay at hw
  refine lv_aload_n S.1 S.2.1 dTop_replay_0 rfl (lv_at hl 0 rfl) ?_
  refine zr_get S hK hP (zk (by decide)) (zF_0 _) fTop_reader q301 rfl dTop_replay_1 ?_
  refine zr_i (zr_V (As := []) (rest := []) S hK hT hN hP hS (zk (by decide)) (zF_30 _) rfl (cReader_read l D cI cC cE ad n ln A hJ _ _ hw) caTop_136 ⟨Nat.le_of_ble_eq_true rfl, Nat.le_of_ble_eq_true rfl⟩ ⟨rfl, rfl⟩ rfl hl.1 rfl (Nat.le_of_ble_eq_true rfl) dTop_replay_4) hS (fun r4 h4 H locs hw hP hS => ?_)
  refine lv_if_ne S.1 S.2.1 dTop_replay_7 rfl (fun hc => ?_) (fun hc => ?_)
  · have hw := hw.1 hc
    refine lv_aload_n S.1 S.2.1 dTop_replay_12 rfl (lv_at hl 0 rfl) ?_
    refine zr_get S hK hP (zk (by decide)) (zF_0 _) fTop_runner q297 rfl dTop_replay_13 ?_
    refine lv_aload_n S.1 S.2.1 dTop_replay_16 rfl (lv_at hl 0 rfl) ?_
    refine zr_get S hK hP (zk (by decide)) (zF_0 _) fTop_reader q301 rfl dTop_replay_17 ?_
    refine zr_get S hK hP (zk (by decide)) (zF_30 _) fReader_sequence q267 rfl dTop_replay_20 ?_
    refine zr_v (zr_V (As := [.ref (ad 32)]) (rest := []) S hK hT hN hP hS (zk (by decide)) (zF_12 _) rfl (cRunner_run l D cI cC cE ad n ln A hJ 32 zs_32 _ _ hw) caTop_141 ⟨Nat.le_of_ble_eq_true rfl, Nat.le_of_ble_eq_true rfl⟩ ⟨rfl, rfl⟩ rfl hl.1 rfl (Nat.le_of_ble_eq_true rfl) dTop_replay_23) hS (fun h23 H locs hw hP hS => ?_)
    refine lv_aload_n S.1 S.2.1 dTop_replay_26 rfl (lv_at hl 0 rfl) ?_
    refine zr_get S hK hP (zk (by decide)) (zF_0 _) fTop_reader q301 rfl dTop_replay_27 ?_
    refine lv_aload_n S.1 S.2.1 dTop_replay_30 rfl (lv_at hl 0 rfl) ?_
    refine zr_get S hK hP (zk (by decide)) (zF_0 _) fTop_runner q297 rfl dTop_replay_31 ?_
    refine zr_i (zr_V (As := [.ref (ad 12)]) (rest := []) S hK hT hN hP hS (zk (by decide)) (zF_30 _) rfl (cReader_foretold l D cI cC cE ad n ln A hJ _ _ hw) caTop_145 ⟨Nat.le_of_ble_eq_true rfl, Nat.le_of_ble_eq_true rfl⟩ ⟨rfl, rfl⟩ rfl hl.1 rfl (Nat.le_of_ble_eq_true rfl) dTop_replay_34) hS (fun r34 h34 H locs hw hP hS => ?_)
    refine lv_if_eq S.1 S.2.1 dTop_replay_37 rfl (fun hc => ?_) (fun hc => ?_)
    · have hw := hw.1 hc
      refine lv_iconst (v := 0) S.1 S.2.1 dTop_replay_44 (by decide) ?_
      exact zr_iret S hr hlk hK hP hS rfl hw dTop_replay_45
    · have hw := hw.2 hc
      refine lv_iconst (v := 1) S.1 S.2.1 dTop_replay_40 (by decide) ?_
      refine lv_goto S.1 S.2.1 dTop_replay_41 rfl ?_
      exact zr_iret S hr hlk hK hP hS rfl hw dTop_replay_45
  · have hw := hw.2 hc
    refine lv_iconst (v := (-1)) S.1 S.2.1 dTop_replay_10 (by decide) ?_
    exact zr_iret S hr hlk hK hP hS rfl hw dTop_replay_11
/-! Top.state -/
theorem dTop_state_0 : decode bTop_state 0 = .ok (.aload_n 0, 1) := by decide +kernel
theorem dTop_state_1 : decode bTop_state 1 = .ok (.getfield 37, 3) := by decide +kernel
theorem dTop_state_4 : decode bTop_state 4 = .ok (.getfield 149, 3) := by decide +kernel
theorem dTop_state_7 : decode bTop_state 7 = .ok (.ireturn, 1) := by decide +kernel
def wpTop_state (n : Nat) (ln : Nat → Nat) (h : zM) (post : Int32 → zM → Prop) : Prop := post (h 19 6) h
abbrev rmTop_state : Room := { frames := 0, cells := 0, slots := 0, locals := 0 }
set_option maxHeartbeats 4000000 in
set_option maxRecDepth 100000 in
theorem cTop_state (l : Launch) (D : va_G) (cI cC cE : ClassId) (ad : Nat → Nat) (n : Nat) (ln : Nat → Nat) (A : Nat → Prop) (hJ : zJ A (34 + 4 * n) ad) (h : zM) (post : Int32 → zM → Prop) (hw : wpTop_state n ln h post) : Met l yTop_state (.code yTop_state bTop_state 1 (some .int) :: zt) rmTop_state (va_Pc [.ref (ad 0)] (zPre D (zty cI cC cE) (34 + 4 * n) ad (zF ad cI cC cE n ln) A h)) (va_Qi post (zPst D (zty cI cC cE) (34 + 4 * n) ad (zF ad cI cC cE n ln)) A) 0 0 A := by
  refine Met.ofW (cc := bTop_state) (maxL := 1) (ret := (some .int)) (by decide) rfl ?_
  intro p e s m args below meth c s₁ B hml hv
  obtain ⟨rfl, hP, hK, hT, hN⟩ := hv
  have hr := B.returns
  have hlk := B.notSynchronized
  have S : zS p m c bTop_state 1 s _ "CallExplorer" := ⟨B.exec, B.bytes, hml, findClass_of_methodNamed B.named, fun w hw => atoms_spec (ws := .code yTop_state bTop_state 1 (some .int) :: zt) B.pre w (List.mem_cons_of_mem _ hw)⟩
  have hS : va_S A s.heap s.heap [] := va_S.rf
  have hl := lv_entry ([.ref (ad 0)]) (n := 1) (Nat.le_of_ble_eq_true rfl)
  rw [lg_entry_eq]
  generalize (lg_sl ([.ref (ad 0)]) ++ List.replicate (1 - (lg_sl ([.ref (ad 0)])).length) Slot.unset).toArray = ls at hl ⊢
  have hl : lv_has ls 1 [(0, .ref (ad 0))] := hl
  show W p l e rmTop_state s m ([.ref (ad 0)] : List Value).toArray below meth c s.heap [] 0 0 (zQi post D (zty cI cC cE) (34 + 4 * n) ad (zF ad cI cC cE n ln) A below ([.ref (ad 0)] : List Value).toArray s) _
  unfold wpTop_state at hw
  refine lv_aload_n S.1 S.2.1 dTop_state_0 rfl (lv_at hl 0 rfl) ?_
  refine zr_get S hK hP (zk (by decide)) (zF_0 _) fTop_grower q298 rfl dTop_state_1 ?_
  refine zr_get S hK hP (zk (by decide)) (zF_19 _) fGrower_seed q199 rfl dTop_state_4 ?_
  exact zr_iret S hr hlk hK hP hS rfl hw dTop_state_7
