/-! predicates and contracts, printed by wip/whole/gen -/
/-! Runner.give -/
theorem dRunner_give_0 : decode bRunner_give 0 = .ok (.aload_n 0, 1) := by decide +kernel
theorem dRunner_give_1 : decode bRunner_give 1 = .ok (.getfield 9, 3) := by decide +kernel
theorem dRunner_give_4 : decode bRunner_give 4 = .ok (.iload_n 1, 1) := by decide +kernel
theorem dRunner_give_5 : decode bRunner_give 5 = .ok (.iload_n 2, 1) := by decide +kernel
theorem dRunner_give_6 : decode bRunner_give 6 = .ok (.iastore, 1) := by decide +kernel
theorem dRunner_give_7 : decode bRunner_give 7 = .ok (.iconst 0, 1) := by decide +kernel
theorem dRunner_give_8 : decode bRunner_give 8 = .ok (.ireturn, 1) := by decide +kernel
def wpRunner_give (n : Nat) (ln : Nat → Nat) (x1 : Int32) (x2 : Int32) (h : zM) (post : Int32 → zM → Prop) : Prop := (vp_in x1 10 ∧ ∀ h6 : zM, h6 = zu h 13 (Int32.toNatClampNeg x1) x2 → post 0 h6)
abbrev rmRunner_give : Room := { frames := 0, cells := 0, slots := 0, locals := 0 }
set_option maxHeartbeats 4000000 in
set_option maxRecDepth 100000 in
theorem cRunner_give (l : Launch) (D : va_G) (cI cC cE : ClassId) (ad : Nat → Nat) (n : Nat) (ln : Nat → Nat) (A : Nat → Prop) (hJ : zJ A (34 + 4 * n) ad) (x1 : Int32) (x2 : Int32) (h : zM) (post : Int32 → zM → Prop) (hw : wpRunner_give n ln x1 x2 h post) : Met l yRunner_give (.code yRunner_give bRunner_give 3 (some .int) :: zt) rmRunner_give (va_Pc [.ref (ad 12), .int x1, .int x2] (zPre D (zty cI cC cE) (34 + 4 * n) ad (zF ad cI cC cE n ln) A h)) (va_Qi post (zPst D (zty cI cC cE) (34 + 4 * n) ad (zF ad cI cC cE n ln)) A) 0 0 A := by
  refine Met.ofW (cc := bRunner_give) (maxL := 3) (ret := (some .int)) (by decide) rfl ?_
  intro p e s m args below meth c s₁ B hml hv
  obtain ⟨rfl, hP, hK, hT, hN⟩ := hv
  have hr := B.returns
  have hlk := B.notSynchronized
  have S : zS p m c bRunner_give 3 s _ "CallExplorer$Runner" := ⟨B.exec, B.bytes, hml, findClass_of_methodNamed B.named, fun w hw => atoms_spec (ws := .code yRunner_give bRunner_give 3 (some .int) :: zt) B.pre w (List.mem_cons_of_mem _ hw)⟩
  have hS : va_S A s.heap s.heap [] := va_S.rf
  have hl := lv_entry ([.ref (ad 12), .int x1, .int x2]) (n := 3) (Nat.le_of_ble_eq_true rfl)
  rw [lg_entry_eq]
  generalize (lg_sl ([.ref (ad 12), .int x1, .int x2]) ++ List.replicate (3 - (lg_sl ([.ref (ad 12), .int x1, .int x2])).length) Slot.unset).toArray = ls at hl ⊢
  have hl : lv_has ls 3 [(0, .ref (ad 12)), (1, .int x1), (2, .int x2)] := hl
  show W p l e rmRunner_give s m ([.ref (ad 12), .int x1, .int x2] : List Value).toArray below meth c s.heap [] 0 0 (zQi post D (zty cI cC cE) (34 + 4 * n) ad (zF ad cI cC cE n ln) A below ([.ref (ad 12), .int x1, .int x2] : List Value).toArray s) _
  unfold wpRunner_give at hw
  refine lv_aload_n S.1 S.2.1 dRunner_give_0 rfl (lv_at hl 0 rfl) ?_
  refine zr_get S hK hP (zk (by decide)) (zF_12 _) fRunner_results q126 rfl dRunner_give_1 ?_
  refine lv_iload_n S.1 S.2.1 dRunner_give_4 rfl (lv_at hl 1 rfl) ?_
  refine lv_iload_n S.1 S.2.1 dRunner_give_5 rfl (lv_at hl 2 rfl) ?_
  obtain ⟨z6, hw⟩ := hw
  refine zr_ast S hK hJ hP hS (zk (by decide)) zF_13 0 rfl z6 dRunner_give_6 (fun h6 H locs e6 hP hS => ?_)
  have hw := hw h6 e6
  refine lv_iconst (v := 0) S.1 S.2.1 dRunner_give_7 (by decide) ?_
  exact zr_iret S hr hlk hK hP hS rfl hw dRunner_give_8
/-! Runner.canBeValue -/
theorem dRunner_canBeValue_0 : decode bRunner_canBeValue 0 = .ok (.lload_n 1, 1) := by decide +kernel
theorem dRunner_canBeValue_1 : decode bRunner_canBeValue 1 = .ok (.ldc2_w 147, 3) := by decide +kernel
theorem dRunner_canBeValue_4 : decode bRunner_canBeValue 4 = .ok (.lcmp, 1) := by decide +kernel
theorem dRunner_canBeValue_5 : decode bRunner_canBeValue 5 = .ok (.ifCond .lt 15, 3) := by decide +kernel
theorem dRunner_canBeValue_8 : decode bRunner_canBeValue 8 = .ok (.lload_n 1, 1) := by decide +kernel
theorem dRunner_canBeValue_9 : decode bRunner_canBeValue 9 = .ok (.ldc2_w 149, 3) := by decide +kernel
theorem dRunner_canBeValue_12 : decode bRunner_canBeValue 12 = .ok (.lcmp, 1) := by decide +kernel
theorem dRunner_canBeValue_13 : decode bRunner_canBeValue 13 = .ok (.ifCond .gt 7, 3) := by decide +kernel
theorem dRunner_canBeValue_16 : decode bRunner_canBeValue 16 = .ok (.iconst 1, 1) := by decide +kernel
theorem dRunner_canBeValue_17 : decode bRunner_canBeValue 17 = .ok (.goto 4, 3) := by decide +kernel
theorem dRunner_canBeValue_20 : decode bRunner_canBeValue 20 = .ok (.iconst 0, 1) := by decide +kernel
theorem dRunner_canBeValue_21 : decode bRunner_canBeValue 21 = .ok (.ireturn, 1) := by decide +kernel
def wpRunner_canBeValue (n : Nat) (ln : Nat → Nat) (w1 : Int64) (h : zM) (post : Int32 → zM → Prop) : Prop := ((((lg_cmp w1 (-100)) < 0) → post 0 h) ∧ (¬ ((lg_cmp w1 (-100)) < 0) → (((0 < (lg_cmp w1 100)) → post 0 h) ∧ (¬ (0 < (lg_cmp w1 100)) → post 1 h))))
abbrev rmRunner_canBeValue : Room := { frames := 0, cells := 0, slots := 0, locals := 0 }
set_option maxHeartbeats 4000000 in
set_option maxRecDepth 100000 in
theorem cRunner_canBeValue (l : Launch) (D : va_G) (cI cC cE : ClassId) (ad : Nat → Nat) (n : Nat) (ln : Nat → Nat) (A : Nat → Prop) (hJ : zJ A (34 + 4 * n) ad) (w1 : Int64) (h : zM) (post : Int32 → zM → Prop) (hw : wpRunner_canBeValue n ln w1 h post) : Met l yRunner_canBeValue (.code yRunner_canBeValue bRunner_canBeValue 3 (some .boolean) :: zt) rmRunner_canBeValue (va_Pc [.ref (ad 12), .long w1] (zPre D (zty cI cC cE) (34 + 4 * n) ad (zF ad cI cC cE n ln) A h)) (va_Qi post (zPst D (zty cI cC cE) (34 + 4 * n) ad (zF ad cI cC cE n ln)) A) 0 0 A := by
  refine Met.ofW (cc := bRunner_canBeValue) (maxL := 3) (ret := (some .boolean)) (by decide) rfl ?_
  intro p e s m args below meth c s₁ B hml hv
  obtain ⟨rfl, hP, hK, hT, hN⟩ := hv
  have hr := B.returns
  have hlk := B.notSynchronized
  have S : zS p m c bRunner_canBeValue 3 s _ "CallExplorer$Runner" := ⟨B.exec, B.bytes, hml, findClass_of_methodNamed B.named, fun w hw => atoms_spec (ws := .code yRunner_canBeValue bRunner_canBeValue 3 (some .boolean) :: zt) B.pre w (List.mem_cons_of_mem _ hw)⟩
  have hS : va_S A s.heap s.heap [] := va_S.rf
  have hl := lv_entry ([.ref (ad 12), .long w1]) (n := 3) (Nat.le_of_ble_eq_true rfl)
  rw [lg_entry_eq]
  generalize (lg_sl ([.ref (ad 12), .long w1]) ++ List.replicate (3 - (lg_sl ([.ref (ad 12), .long w1])).length) Slot.unset).toArray = ls at hl ⊢
  have hl : lv_has ls 3 [(0, .ref (ad 12)), (1, .long w1)] := hl
  show W p l e rmRunner_canBeValue s m ([.ref (ad 12), .long w1] : List Value).toArray below meth c s.heap [] 0 0 (zQi post D (zty cI cC cE) (34 + 4 * n) ad (zF ad cI cC cE n ln) A below ([.ref (ad 12), .long w1] : List Value).toArray s) _
  unfold wpRunner_canBeValue at hw
  refine lv_lload_n S.1 S.2.1 dRunner_canBeValue_0 rfl (lv_at hl 1 rfl) ?_
  refine lv_ldc2 (v := (-100)) S.1 S.2.1 S.2.2.2.1 (S.2.2.2.2 _ q496) dRunner_canBeValue_1 ?_
  refine W.lcmp S.1 S.2.1 dRunner_canBeValue_4 ?_
  refine lv_if_lt S.1 S.2.1 dRunner_canBeValue_5 rfl (fun hc => ?_) (fun hc => ?_)
  · have hw := hw.1 hc
    refine lv_iconst (v := 0) S.1 S.2.1 dRunner_canBeValue_20 (by decide) ?_
    exact zr_iret S hr hlk hK hP hS rfl hw dRunner_canBeValue_21
  · have hw := hw.2 hc
    refine lv_lload_n S.1 S.2.1 dRunner_canBeValue_8 rfl (lv_at hl 1 rfl) ?_
    refine lv_ldc2 (v := 100) S.1 S.2.1 S.2.2.2.1 (S.2.2.2.2 _ q497) dRunner_canBeValue_9 ?_
    refine W.lcmp S.1 S.2.1 dRunner_canBeValue_12 ?_
    refine lv_if_gt S.1 S.2.1 dRunner_canBeValue_13 rfl (fun hc => ?_) (fun hc => ?_)
    · have hw := hw.1 hc
      refine lv_iconst (v := 0) S.1 S.2.1 dRunner_canBeValue_20 (by decide) ?_
      exact zr_iret S hr hlk hK hP hS rfl hw dRunner_canBeValue_21
    · have hw := hw.2 hc
      refine lv_iconst (v := 1) S.1 S.2.1 dRunner_canBeValue_16 (by decide) ?_
      refine lv_goto S.1 S.2.1 dRunner_canBeValue_17 rfl ?_
      exact zr_iret S hr hlk hK hP hS rfl hw dRunner_canBeValue_21
/-! Runner.argumentValue -/
theorem dRunner_argumentValue_0 : decode bRunner_argumentValue 0 = .ok (.aload_n 1, 1) := by decide +kernel
theorem dRunner_argumentValue_1 : decode bRunner_argumentValue 1 = .ok (.iload_n 2, 1) := by decide +kernel
theorem dRunner_argumentValue_2 : decode bRunner_argumentValue 2 = .ok (.iload_n 3, 1) := by decide +kernel
theorem dRunner_argumentValue_3 : decode bRunner_argumentValue 3 = .ok (.invokevirtual 89, 3) := by decide +kernel
theorem dRunner_argumentValue_6 : decode bRunner_argumentValue 6 = .ok (.istore 4, 2) := by decide +kernel
theorem dRunner_argumentValue_8 : decode bRunner_argumentValue 8 = .ok (.aload_n 1, 1) := by decide +kernel
theorem dRunner_argumentValue_9 : decode bRunner_argumentValue 9 = .ok (.iload_n 2, 1) := by decide +kernel
theorem dRunner_argumentValue_10 : decode bRunner_argumentValue 10 = .ok (.iload_n 3, 1) := by decide +kernel
theorem dRunner_argumentValue_11 : decode bRunner_argumentValue 11 = .ok (.invokevirtual 92, 3) := by decide +kernel
theorem dRunner_argumentValue_14 : decode bRunner_argumentValue 14 = .ok (.lookupswitch 37 #[(0, 26), (1, 34)], 26) := by decide +kernel
theorem dRunner_argumentValue_40 : decode bRunner_argumentValue 40 = .ok (.aload_n 0, 1) := by decide +kernel
theorem dRunner_argumentValue_41 : decode bRunner_argumentValue 41 = .ok (.getfield 9, 3) := by decide +kernel
theorem dRunner_argumentValue_44 : decode bRunner_argumentValue 44 = .ok (.iload 4, 2) := by decide +kernel
theorem dRunner_argumentValue_46 : decode bRunner_argumentValue 46 = .ok (.iaload, 1) := by decide +kernel
theorem dRunner_argumentValue_47 : decode bRunner_argumentValue 47 = .ok (.ireturn, 1) := by decide +kernel
theorem dRunner_argumentValue_48 : decode bRunner_argumentValue 48 = .ok (.iload 4, 2) := by decide +kernel
theorem dRunner_argumentValue_50 : decode bRunner_argumentValue 50 = .ok (.ireturn, 1) := by decide +kernel
theorem dRunner_argumentValue_51 : decode bRunner_argumentValue 51 = .ok (.iconst (-1), 1) := by decide +kernel
theorem dRunner_argumentValue_52 : decode bRunner_argumentValue 52 = .ok (.ireturn, 1) := by decide +kernel
def wpRunner_argumentValue (n : Nat) (ln : Nat → Nat) (o1 : Nat) (x2 : Int32) (x3 : Int32) (h : zM) (post : Int32 → zM → Prop) : Prop := wpSequence_content o1 x2 x3 h (fun r3 h3 => wpSequence_form o1 x2 x3 h3 (fun r11 h11 => ((r11 = 0 → (vp_in r3 10 ∧ post (h11 13 (Int32.toNatClampNeg r3)) h11)) ∧ (¬ r11 = 0 → ((r11 = 1 → post r3 h11) ∧ (¬ r11 = 1 → post (-1) h11))))))
abbrev rmRunner_argumentValue : Room := { frames := 1, cells := 0, slots := 0, locals := 22 }
set_option maxHeartbeats 4000000 in
set_option maxRecDepth 100000 in
theorem cRunner_argumentValue (l : Launch) (D : va_G) (cI cC cE : ClassId) (ad : Nat → Nat) (n : Nat) (ln : Nat → Nat) (A : Nat → Prop) (hJ : zJ A (34 + 4 * n) ad) (o1 : Nat) (hq1 : zSeq (34 + 4 * n) ad (zF ad cI cC cE n ln) cI o1) (x2 : Int32) (x3 : Int32) (h : zM) (post : Int32 → zM → Prop) (hw : wpRunner_argumentValue n ln o1 x2 x3 h post) : Met l yRunner_argumentValue (.code yRunner_argumentValue bRunner_argumentValue 5 (some .int) :: zt) rmRunner_argumentValue (va_Pc [.ref (ad 12), .ref (ad o1), .int x2, .int x3] (zPre D (zty cI cC cE) (34 + 4 * n) ad (zF ad cI cC cE n ln) A h)) (va_Qi post (zPst D (zty cI cC cE) (34 + 4 * n) ad (zF ad cI cC cE n ln)) A) 0 0 A := by
  refine Met.ofW (cc := bRunner_argumentValue) (maxL := 5) (ret := (some .int)) (by decide) rfl ?_
  intro p e s m args below meth c s₁ B hml hv
  obtain ⟨rfl, hP, hK, hT, hN⟩ := hv
  have hr := B.returns
  have hlk := B.notSynchronized
  have S : zS p m c bRunner_argumentValue 5 s _ "CallExplorer$Runner" := ⟨B.exec, B.bytes, hml, findClass_of_methodNamed B.named, fun w hw => atoms_spec (ws := .code yRunner_argumentValue bRunner_argumentValue 5 (some .int) :: zt) B.pre w (List.mem_cons_of_mem _ hw)⟩
  have hS : va_S A s.heap s.heap [] := va_S.rf
  have hl := lv_entry ([.ref (ad 12), .ref (ad o1), .int x2, .int x3]) (n := 5) (Nat.le_of_ble_eq_true rfl)
  rw [lg_entry_eq]
  generalize (lg_sl ([.ref (ad 12), .ref (ad o1), .int x2, .int x3]) ++ List.replicate (5 - (lg_sl ([.ref (ad 12), .ref (ad o1), .int x2, .int x3])).length) Slot.unset).toArray = ls at hl ⊢
  have hl : lv_has ls 5 [(0, .ref (ad 12)), (1, .ref (ad o1)), (2, .int x2), (3, .int x3)] := hl
  show W p l e rmRunner_argumentValue s m ([.ref (ad 12), .ref (ad o1), .int x2, .int x3] : List Value).toArray below meth c s.heap [] 0 0 (zQi post D (zty cI cC cE) (34 + 4 * n) ad (zF ad cI cC cE n ln) A below ([.ref (ad 12), .ref (ad o1), .int x2, .int x3] : List Value).toArray s) _
  unfold wpRunner_argumentValue at hw
  refine lv_aload_n S.1 S.2.1 dRunner_argumentValue_0 rfl (lv_at hl 1 rfl) ?_
  refine lv_iload_n S.1 S.2.1 dRunner_argumentValue_1 rfl (lv_at hl 2 rfl) ?_
  refine lv_iload_n S.1 S.2.1 dRunner_argumentValue_2 rfl (lv_at hl 3 rfl) ?_
  refine zr_i (zr_V (As := [.int x2, .int x3]) (rest := []) S hK hT hN hP hS (Nat.lt_of_succ_lt (hq1).1) ((hq1).2.1 _) rfl (cSequence_content l D (zty cI cC cE) (34 + 4 * n) ad (zF ad cI cC cE n ln) A hJ cI rfl o1 hq1 _ _ _ _ hw) caRunner_89 ⟨Nat.le_of_ble_eq_true rfl, Nat.le_of_ble_eq_true rfl⟩ ⟨rfl, rfl⟩ rfl hl.1 rfl (Nat.le_of_ble_eq_true rfl) dRunner_argumentValue_3) hS (fun r3 h3 H locs hw hP hS => ?_)
  refine lv_istore (lv' := [(4, .int r3), (0, .ref (ad 12)), (1, .ref (ad o1)), (2, .int x2), (3, .int x3)]) S.1 S.2.1 dRunner_argumentValue_6 hl (by decide) rfl (fun ls hl => ?_)
  refine lv_aload_n S.1 S.2.1 dRunner_argumentValue_8 rfl (lv_at hl 2 rfl) ?_
  refine lv_iload_n S.1 S.2.1 dRunner_argumentValue_9 rfl (lv_at hl 3 rfl) ?_
  refine lv_iload_n S.1 S.2.1 dRunner_argumentValue_10 rfl (lv_at hl 4 rfl) ?_
  refine zr_i (zr_V (As := [.int x2, .int x3]) (rest := []) S hK hT hN hP hS (Nat.lt_of_succ_lt (hq1).1) ((hq1).2.1 _) rfl (cSequence_form l D (zty cI cC cE) (34 + 4 * n) ad (zF ad cI cC cE n ln) A hJ cI rfl o1 hq1 _ _ _ _ hw) caRunner_92 ⟨Nat.le_of_ble_eq_true rfl, Nat.le_of_ble_eq_true rfl⟩ ⟨rfl, rfl⟩ rfl hl.1 rfl (Nat.le_of_ble_eq_true rfl) dRunner_argumentValue_11) hS (fun r11 h11 H locs hw hP hS => ?_)
  by_cases c0 : r11 = 0
  · have hw := hw.1 c0
    refine lv_lookup (off := 26) S.1 S.2.1 dRunner_argumentValue_14 (by decide) (by rw [c0]; decide) rfl ?_
    refine lv_aload_n S.1 S.2.1 dRunner_argumentValue_40 rfl (lv_at hl 1 rfl) ?_
    refine zr_get S hK hP (zk (by decide)) (zF_12 _) fRunner_results q126 rfl dRunner_argumentValue_41 ?_
    refine lv_iload S.1 S.2.1 dRunner_argumentValue_44 (lv_at hl 0 rfl) ?_
    obtain ⟨z46, hw⟩ := hw
    refine zr_ald S hK hP (zk (by decide)) (zF_13 _) 0 rfl z46 dRunner_argumentValue_46 ?_
    exact zr_iret S hr hlk hK hP hS rfl hw dRunner_argumentValue_47
  · have hw := hw.2 c0
    by_cases c1 : r11 = 1
    · have hw := hw.1 c1
      refine lv_lookup (off := 34) S.1 S.2.1 dRunner_argumentValue_14 (by decide) (by rw [c1]; decide) rfl ?_
      refine lv_iload S.1 S.2.1 dRunner_argumentValue_48 (lv_at hl 0 rfl) ?_
      exact zr_iret S hr hlk hK hP hS rfl hw dRunner_argumentValue_50
    · have hw := hw.2 c1
      refine lv_lookup S.1 S.2.1 dRunner_argumentValue_14 (by decide) (by show Op.lookupswitch.offset [(0, 26), (1, 34)] _ _ = _; rw [lv_osw c0 (by decide), lv_osw c1 (by decide)] <;> rfl) rfl ?_
      refine lv_iconst (v := (-1)) S.1 S.2.1 dRunner_argumentValue_51 (by decide) ?_
      exact zr_iret S hr hlk hK hP hS rfl hw dRunner_argumentValue_52
/-! Runner.isNull -/
theorem dRunner_isNull_0 : decode bRunner_isNull 0 = .ok (.aload_n 0, 1) := by decide +kernel
theorem dRunner_isNull_1 : decode bRunner_isNull 1 = .ok (.getfield 18, 3) := by decide +kernel
theorem dRunner_isNull_4 : decode bRunner_isNull 4 = .ok (.aload_n 1, 1) := by decide +kernel
theorem dRunner_isNull_5 : decode bRunner_isNull 5 = .ok (.iload_n 2, 1) := by decide +kernel
theorem dRunner_isNull_6 : decode bRunner_isNull 6 = .ok (.invokevirtual 75, 3) := by decide +kernel
theorem dRunner_isNull_9 : decode bRunner_isNull 9 = .ok (.iload_n 3, 1) := by decide +kernel
theorem dRunner_isNull_10 : decode bRunner_isNull 10 = .ok (.invokevirtual 79, 3) := by decide +kernel
theorem dRunner_isNull_13 : decode bRunner_isNull 13 = .ok (.istore 4, 2) := by decide +kernel
theorem dRunner_isNull_15 : decode bRunner_isNull 15 = .ok (.iload 4, 2) := by decide +kernel
theorem dRunner_isNull_17 : decode bRunner_isNull 17 = .ok (.iconst (-1), 1) := by decide +kernel
theorem dRunner_isNull_18 : decode bRunner_isNull 18 = .ok (.if_icmp .eq 23, 3) := by decide +kernel
theorem dRunner_isNull_21 : decode bRunner_isNull 21 = .ok (.iload 4, 2) := by decide +kernel
theorem dRunner_isNull_23 : decode bRunner_isNull 23 = .ok (.ifCond .eq 18, 3) := by decide +kernel
theorem dRunner_isNull_26 : decode bRunner_isNull 26 = .ok (.aload_n 0, 1) := by decide +kernel
theorem dRunner_isNull_27 : decode bRunner_isNull 27 = .ok (.aload_n 1, 1) := by decide +kernel
theorem dRunner_isNull_28 : decode bRunner_isNull 28 = .ok (.iload_n 2, 1) := by decide +kernel
theorem dRunner_isNull_29 : decode bRunner_isNull 29 = .ok (.iload_n 3, 1) := by decide +kernel
theorem dRunner_isNull_30 : decode bRunner_isNull 30 = .ok (.invokevirtual 85, 3) := by decide +kernel
theorem dRunner_isNull_33 : decode bRunner_isNull 33 = .ok (.iconst (-1), 1) := by decide +kernel
theorem dRunner_isNull_34 : decode bRunner_isNull 34 = .ok (.if_icmp .ne 7, 3) := by decide +kernel
theorem dRunner_isNull_37 : decode bRunner_isNull 37 = .ok (.iconst 1, 1) := by decide +kernel
theorem dRunner_isNull_38 : decode bRunner_isNull 38 = .ok (.goto 4, 3) := by decide +kernel
theorem dRunner_isNull_41 : decode bRunner_isNull 41 = .ok (.iconst 0, 1) := by decide +kernel
theorem dRunner_isNull_42 : decode bRunner_isNull 42 = .ok (.ireturn, 1) := by decide +kernel
def wpRunner_isNull (n : Nat) (ln : Nat → Nat) (o1 : Nat) (x2 : Int32) (x3 : Int32) (h : zM) (post : Int32 → zM → Prop) : Prop := wpSequence_operationOf o1 x2 h (fun r6 h6 => wpCatalog_argumentType n ln r6 x3 h6 (fun r10 h10 => ((r10 = (-1) → post 0 h10) ∧ (¬ r10 = (-1) → ((r10 = 0 → post 0 h10) ∧ (¬ r10 = 0 → wpRunner_argumentValue n ln o1 x2 x3 h10 (fun r30 h30 => ((¬ r30 = (-1) → post 0 h30) ∧ (r30 = (-1) → post 1 h30)))))))))
abbrev rmRunner_isNull : Room := { frames := 2, cells := 0, slots := 0, locals := 46 }
set_option maxHeartbeats 4000000 in
set_option maxRecDepth 100000 in
theorem cRunner_isNull (l : Launch) (D : va_G) (cI cC cE : ClassId) (ad : Nat → Nat) (n : Nat) (ln : Nat → Nat) (A : Nat → Prop) (hJ : zJ A (34 + 4 * n) ad) (o1 : Nat) (hq1 : zSeq (34 + 4 * n) ad (zF ad cI cC cE n ln) cI o1) (x2 : Int32) (x3 : Int32) (h : zM) (post : Int32 → zM → Prop) (hw : wpRunner_isNull n ln o1 x2 x3 h post) : Met l yRunner_isNull (.code yRunner_isNull bRunner_isNull 5 (some .boolean) :: zt) rmRunner_isNull (va_Pc [.ref (ad 12), .ref (ad o1), .int x2, .int x3] (zPre D (zty cI cC cE) (34 + 4 * n) ad (zF ad cI cC cE n ln) A h)) (va_Qi post (zPst D (zty cI cC cE) (34 + 4 * n) ad (zF ad cI cC cE n ln)) A) 0 0 A := by
  refine Met.ofW (cc := bRunner_isNull) (maxL := 5) (ret := (some .boolean)) (by decide) rfl ?_
  intro p e s m args below meth c s₁ B hml hv
  obtain ⟨rfl, hP, hK, hT, hN⟩ := hv
  have hr := B.returns
  have hlk := B.notSynchronized
  have S : zS p m c bRunner_isNull 5 s _ "CallExplorer$Runner" := ⟨B.exec, B.bytes, hml, findClass_of_methodNamed B.named, fun w hw => atoms_spec (ws := .code yRunner_isNull bRunner_isNull 5 (some .boolean) :: zt) B.pre w (List.mem_cons_of_mem _ hw)⟩
  have hS : va_S A s.heap s.heap [] := va_S.rf
  have hl := lv_entry ([.ref (ad 12), .ref (ad o1), .int x2, .int x3]) (n := 5) (Nat.le_of_ble_eq_true rfl)
  rw [lg_entry_eq]
  generalize (lg_sl ([.ref (ad 12), .ref (ad o1), .int x2, .int x3]) ++ List.replicate (5 - (lg_sl ([.ref (ad 12), .ref (ad o1), .int x2, .int x3])).length) Slot.unset).toArray = ls at hl ⊢
  have hl : lv_has ls 5 [(0, .ref (ad 12)), (1, .ref (ad o1)), (2, .int x2), (3, .int x3)] := hl
  show W p l e rmRunner_isNull s m ([.ref (ad 12), .ref (ad o1), .int x2, .int x3] : List Value).toArray below meth c s.heap [] 0 0 (zQi post D (zty cI cC cE) (34 + 4 * n) ad (zF ad cI cC cE n ln) A below ([.ref (ad 12), .ref (ad o1), .int x2, .int x3] : List Value).toArray s) _
  unfold wpRunner_isNull at hw
  refine lv_aload_n S.1 S.2.1 dRunner_isNull_0 rfl (lv_at hl 0 rfl) ?_
  refine zr_get S hK hP (zk (by decide)) (zF_12 _) fRunner_catalog q124 rfl dRunner_isNull_1 ?_
  refine lv_aload_n S.1 S.2.1 dRunner_isNull_4 rfl (lv_at hl 1 rfl) ?_
  refine lv_iload_n S.1 S.2.1 dRunner_isNull_5 rfl (lv_at hl 2 rfl) ?_
  refine zr_i (zr_V (As := [.int x2]) (rest := [.ref (ad 1)]) S hK hT hN hP hS (Nat.lt_of_succ_lt (hq1).1) ((hq1).2.1 _) rfl (cSequence_operationOf l D (zty cI cC cE) (34 + 4 * n) ad (zF ad cI cC cE n ln) A hJ cI rfl o1 hq1 _ _ _ hw) caRunner_75 ⟨Nat.le_of_ble_eq_true rfl, Nat.le_of_ble_eq_true rfl⟩ ⟨rfl, rfl⟩ rfl hl.1 rfl (Nat.le_of_ble_eq_true rfl) dRunner_isNull_6) hS (fun r6 h6 H locs hw hP hS => ?_)
  refine lv_iload_n S.1 S.2.1 dRunner_isNull_9 rfl (lv_at hl 3 rfl) ?_
  refine zr_i (zr_V (As := [.int r6, .int x3]) (rest := []) S hK hT hN hP hS (zk (by decide)) (zF_1 _) rfl (cCatalog_argumentType l D cI cC cE ad n ln A hJ _ _ _ _ hw) caRunner_79 ⟨Nat.le_of_ble_eq_true rfl, Nat.le_of_ble_eq_true rfl⟩ ⟨rfl, rfl⟩ rfl hl.1 rfl (Nat.le_of_ble_eq_true rfl) dRunner_isNull_10) hS (fun r10 h10 H locs hw hP hS => ?_)
  refine lv_istore (lv' := [(4, .int r10), (0, .ref (ad 12)), (1, .ref (ad o1)), (2, .int x2), (3, .int x3)]) S.1 S.2.1 dRunner_isNull_13 hl (by decide) rfl (fun ls hl => ?_)
  refine lv_iload S.1 S.2.1 dRunner_isNull_15 (lv_at hl 0 rfl) ?_
  refine lv_iconst (v := (-1)) S.1 S.2.1 dRunner_isNull_17 (by decide) ?_
  refine lv_icmp_eq S.1 S.2.1 dRunner_isNull_18 rfl (fun hc => ?_) (fun hc => ?_)
  · have hw := hw.1 hc
    refine lv_iconst (v := 0) S.1 S.2.1 dRunner_isNull_41 (by decide) ?_
    exact zr_iret S hr hlk hK hP hS rfl hw dRunner_isNull_42
  · have hw := hw.2 hc
    refine lv_iload S.1 S.2.1 dRunner_isNull_21 (lv_at hl 0 rfl) ?_
    refine lv_if_eq S.1 S.2.1 dRunner_isNull_23 rfl (fun hc => ?_) (fun hc => ?_)
    · have hw := hw.1 hc
      refine lv_iconst (v := 0) S.1 S.2.1 dRunner_isNull_41 (by decide) ?_
      exact zr_iret S hr hlk hK hP hS rfl hw dRunner_isNull_42
    · have hw := hw.2 hc
      refine lv_aload_n S.1 S.2.1 dRunner_isNull_26 rfl (lv_at hl 1 rfl) ?_
      refine lv_aload_n S.1 S.2.1 dRunner_isNull_27 rfl (lv_at hl 2 rfl) ?_
      refine lv_iload_n S.1 S.2.1 dRunner_isNull_28 rfl (lv_at hl 3 rfl) ?_
      refine lv_iload_n S.1 S.2.1 dRunner_isNull_29 rfl (lv_at hl 4 rfl) ?_
      refine zr_i (zr_V (As := [.ref (ad o1), .int x2, .int x3]) (rest := []) S hK hT hN hP hS (zk (by decide)) (zF_12 _) rfl (cRunner_argumentValue l D cI cC cE ad n ln A hJ o1 hq1 _ _ _ _ hw) caRunner_85 ⟨Nat.le_of_ble_eq_true rfl, Nat.le_of_ble_eq_true rfl⟩ ⟨rfl, rfl⟩ rfl hl.1 rfl (Nat.le_of_ble_eq_true rfl) dRunner_isNull_30) hS (fun r30 h30 H locs hw hP hS => ?_)
      refine lv_iconst (v := (-1)) S.1 S.2.1 dRunner_isNull_33 (by decide) ?_
      refine lv_icmp_ne S.1 S.2.1 dRunner_isNull_34 rfl (fun hc => ?_) (fun hc => ?_)
      · have hw := hw.1 hc
        refine lv_iconst (v := 0) S.1 S.2.1 dRunner_isNull_41 (by decide) ?_
        exact zr_iret S hr hlk hK hP hS rfl hw dRunner_isNull_42
      · have hw := hw.2 hc
        refine lv_iconst (v := 1) S.1 S.2.1 dRunner_isNull_37 (by decide) ?_
        refine lv_goto S.1 S.2.1 dRunner_isNull_38 rfl ?_
        exact zr_iret S hr hlk hK hP hS rfl hw dRunner_isNull_42
/-! Runner.make -/
theorem dRunner_make_0 : decode bRunner_make 0 = .ok (.aload_n 0, 1) := by decide +kernel
theorem dRunner_make_1 : decode bRunner_make 1 = .ok (.iload_n 3, 1) := by decide +kernel
theorem dRunner_make_2 : decode bRunner_make 2 = .ok (.i2l, 1) := by decide +kernel
theorem dRunner_make_3 : decode bRunner_make 3 = .ok (.invokevirtual 131, 3) := by decide +kernel
theorem dRunner_make_6 : decode bRunner_make 6 = .ok (.ifCond .ne 5, 3) := by decide +kernel
theorem dRunner_make_9 : decode bRunner_make 9 = .ok (.iconst 1, 1) := by decide +kernel
theorem dRunner_make_10 : decode bRunner_make 10 = .ok (.ireturn, 1) := by decide +kernel
theorem dRunner_make_11 : decode bRunner_make 11 = .ok (.aload_n 0, 1) := by decide +kernel
theorem dRunner_make_12 : decode bRunner_make 12 = .ok (.iload_n 1, 1) := by decide +kernel
theorem dRunner_make_13 : decode bRunner_make 13 = .ok (.aload_n 0, 1) := by decide +kernel
theorem dRunner_make_14 : decode bRunner_make 14 = .ok (.getfield 27, 3) := by decide +kernel
theorem dRunner_make_17 : decode bRunner_make 17 = .ok (.iload_n 2, 1) := by decide +kernel
theorem dRunner_make_18 : decode bRunner_make 18 = .ok (.iload_n 3, 1) := by decide +kernel
theorem dRunner_make_19 : decode bRunner_make 19 = .ok (.iconst (-1), 1) := by decide +kernel
theorem dRunner_make_20 : decode bRunner_make 20 = .ok (.invokevirtual 108, 3) := by decide +kernel
theorem dRunner_make_23 : decode bRunner_make 23 = .ok (.invokevirtual 109, 3) := by decide +kernel
theorem dRunner_make_26 : decode bRunner_make 26 = .ok (.ireturn, 1) := by decide +kernel
def wpRunner_make (n : Nat) (ln : Nat → Nat) (x1 : Int32) (x2 : Int32) (x3 : Int32) (h : zM) (post : Int32 → zM → Prop) : Prop := wpRunner_canBeValue n ln (Int32.toInt64 x3) h (fun r3 h3 => ((¬ r3 = 0 → wpHeap_make n ln x2 x3 (-1) h3 (fun r20 h20 => wpRunner_give n ln x1 r20 h20 (fun r23 h23 => post r23 h23))) ∧ (r3 = 0 → post 1 h3)))
abbrev rmRunner_make : Room := { frames := 1, cells := 0, slots := 0, locals := 24 }
set_option maxHeartbeats 4000000 in
set_option maxRecDepth 100000 in
theorem cRunner_make (l : Launch) (D : va_G) (cI cC cE : ClassId) (ad : Nat → Nat) (n : Nat) (ln : Nat → Nat) (A : Nat → Prop) (hJ : zJ A (34 + 4 * n) ad) (x1 : Int32) (x2 : Int32) (x3 : Int32) (h : zM) (post : Int32 → zM → Prop) (hw : wpRunner_make n ln x1 x2 x3 h post) : Met l yRunner_make (.code yRunner_make bRunner_make 4 (some .int) :: zt) rmRunner_make (va_Pc [.ref (ad 12), .int x1, .int x2, .int x3] (zPre D (zty cI cC cE) (34 + 4 * n) ad (zF ad cI cC cE n ln) A h)) (va_Qi post (zPst D (zty cI cC cE) (34 + 4 * n) ad (zF ad cI cC cE n ln)) A) 0 0 A := by
  refine Met.ofW (cc := bRunner_make) (maxL := 4) (ret := (some .int)) (by decide) rfl ?_
  intro p e s m args below meth c s₁ B hml hv
  obtain ⟨rfl, hP, hK, hT, hN⟩ := hv
  have hr := B.returns
  have hlk := B.notSynchronized
  have S : zS p m c bRunner_make 4 s _ "CallExplorer$Runner" := ⟨B.exec, B.bytes, hml, findClass_of_methodNamed B.named, fun w hw => atoms_spec (ws := .code yRunner_make bRunner_make 4 (some .int) :: zt) B.pre w (List.mem_cons_of_mem _ hw)⟩
  have hS : va_S A s.heap s.heap [] := va_S.rf
  have hl := lv_entry ([.ref (ad 12), .int x1, .int x2, .int x3]) (n := 4) (Nat.le_of_ble_eq_true rfl)
  rw [lg_entry_eq]
  generalize (lg_sl ([.ref (ad 12), .int x1, .int x2, .int x3]) ++ List.replicate (4 - (lg_sl ([.ref (ad 12), .int x1, .int x2, .int x3])).length) Slot.unset).toArray = ls at hl ⊢
  have hl : lv_has ls 4 [(0, .ref (ad 12)), (1, .int x1), (2, .int x2), (3, .int x3)] := hl
  show W p l e rmRunner_make s m ([.ref (ad 12), .int x1, .int x2, .int x3] : List Value).toArray below meth c s.heap [] 0 0 (zQi post D (zty cI cC cE) (34 + 4 * n) ad (zF ad cI cC cE n ln) A below ([.ref (ad 12), .int x1, .int x2, .int x3] : List Value).toArray s) _
  unfold wpRunner_make at hw
  refine lv_aload_n S.1 S.2.1 dRunner_make_0 rfl (lv_at hl 0 rfl) ?_
  refine lv_iload_n S.1 S.2.1 dRunner_make_1 rfl (lv_at hl 3 rfl) ?_
  refine lv_i2l S.1 S.2.1 dRunner_make_2 rfl ?_
  refine zr_i (zr_V (As := [.long (Int32.toInt64 x3)]) (rest := []) S hK hT hN hP hS (zk (by decide)) (zF_12 _) rfl (cRunner_canBeValue l D cI cC cE ad n ln A hJ _ _ _ hw) caRunner_131 ⟨Nat.le_of_ble_eq_true rfl, Nat.le_of_ble_eq_true rfl⟩ ⟨rfl, rfl⟩ rfl hl.1 rfl (Nat.le_of_ble_eq_true rfl) dRunner_make_3) hS (fun r3 h3 H locs hw hP hS => ?_)
  refine lv_if_ne S.1 S.2.1 dRunner_make_6 rfl (fun hc => ?_) (fun hc => ?_)
  · have hw := hw.1 hc
    refine lv_aload_n S.1 S.2.1 dRunner_make_11 rfl (lv_at hl 0 rfl) ?_
    refine lv_iload_n S.1 S.2.1 dRunner_make_12 rfl (lv_at hl 1 rfl) ?_
    refine lv_aload_n S.1 S.2.1 dRunner_make_13 rfl (lv_at hl 0 rfl) ?_
    refine zr_get S hK hP (zk (by decide)) (zF_12 _) fRunner_heap q125 rfl dRunner_make_14 ?_
    refine lv_iload_n S.1 S.2.1 dRunner_make_17 rfl (lv_at hl 2 rfl) ?_
    refine lv_iload_n S.1 S.2.1 dRunner_make_18 rfl (lv_at hl 3 rfl) ?_
    refine lv_iconst (v := (-1)) S.1 S.2.1 dRunner_make_19 (by decide) ?_
    refine zr_i (zr_V (As := [.int x2, .int x3, .int (-1)]) (rest := [.int x1, .ref (ad 12)]) S hK hT hN hP hS (zk (by decide)) (zF_15 _) rfl (cHeap_make l D cI cC cE ad n ln A hJ _ _ _ _ _ hw) caRunner_108 ⟨Nat.le_of_ble_eq_true rfl, Nat.le_of_ble_eq_true rfl⟩ ⟨rfl, rfl⟩ rfl hl.1 rfl (Nat.le_of_ble_eq_true rfl) dRunner_make_20) hS (fun r20 h20 H locs hw hP hS => ?_)
    refine zr_i (zr_V (As := [.int x1, .int r20]) (rest := []) S hK hT hN hP hS (zk (by decide)) (zF_12 _) rfl (cRunner_give l D cI cC cE ad n ln A hJ _ _ _ _ hw) caRunner_109 ⟨Nat.le_of_ble_eq_true rfl, Nat.le_of_ble_eq_true rfl⟩ ⟨rfl, rfl⟩ rfl hl.1 rfl (Nat.le_of_ble_eq_true rfl) dRunner_make_23) hS (fun r23 h23 H locs hw hP hS => ?_)
    exact zr_iret S hr hlk hK hP hS rfl hw dRunner_make_26
  · have hw := hw.2 hc
    refine lv_iconst (v := 1) S.1 S.2.1 dRunner_make_9 (by decide) ?_
    exact zr_iret S hr hlk hK hP hS rfl hw dRunner_make_10
/-! Runner.add -/
theorem dRunner_add_0 : decode bRunner_add 0 = .ok (.aload_n 0, 1) := by decide +kernel
theorem dRunner_add_1 : decode bRunner_add 1 = .ok (.getfield 27, 3) := by decide +kernel
theorem dRunner_add_4 : decode bRunner_add 4 = .ok (.getfield 105, 3) := by decide +kernel
theorem dRunner_add_7 : decode bRunner_add 7 = .ok (.iload_n 2, 1) := by decide +kernel
theorem dRunner_add_8 : decode bRunner_add 8 = .ok (.iaload, 1) := by decide +kernel
theorem dRunner_add_9 : decode bRunner_add 9 = .ok (.i2l, 1) := by decide +kernel
theorem dRunner_add_10 : decode bRunner_add 10 = .ok (.iload_n 3, 1) := by decide +kernel
theorem dRunner_add_11 : decode bRunner_add 11 = .ok (.i2l, 1) := by decide +kernel
theorem dRunner_add_12 : decode bRunner_add 12 = .ok (.ladd, 1) := by decide +kernel
theorem dRunner_add_13 : decode bRunner_add 13 = .ok (.lstore 4, 2) := by decide +kernel
theorem dRunner_add_15 : decode bRunner_add 15 = .ok (.aload_n 0, 1) := by decide +kernel
theorem dRunner_add_16 : decode bRunner_add 16 = .ok (.lload 4, 2) := by decide +kernel
theorem dRunner_add_18 : decode bRunner_add 18 = .ok (.invokevirtual 131, 3) := by decide +kernel
theorem dRunner_add_21 : decode bRunner_add 21 = .ok (.ifCond .ne 5, 3) := by decide +kernel
theorem dRunner_add_24 : decode bRunner_add 24 = .ok (.iconst 1, 1) := by decide +kernel
theorem dRunner_add_25 : decode bRunner_add 25 = .ok (.ireturn, 1) := by decide +kernel
theorem dRunner_add_26 : decode bRunner_add 26 = .ok (.aload_n 0, 1) := by decide +kernel
theorem dRunner_add_27 : decode bRunner_add 27 = .ok (.getfield 27, 3) := by decide +kernel
theorem dRunner_add_30 : decode bRunner_add 30 = .ok (.getfield 105, 3) := by decide +kernel
theorem dRunner_add_33 : decode bRunner_add 33 = .ok (.iload_n 2, 1) := by decide +kernel
theorem dRunner_add_34 : decode bRunner_add 34 = .ok (.lload 4, 2) := by decide +kernel
theorem dRunner_add_36 : decode bRunner_add 36 = .ok (.l2i, 1) := by decide +kernel
theorem dRunner_add_37 : decode bRunner_add 37 = .ok (.iastore, 1) := by decide +kernel
theorem dRunner_add_38 : decode bRunner_add 38 = .ok (.aload_n 0, 1) := by decide +kernel
theorem dRunner_add_39 : decode bRunner_add 39 = .ok (.iload_n 1, 1) := by decide +kernel
theorem dRunner_add_40 : decode bRunner_add 40 = .ok (.iload_n 2, 1) := by decide +kernel
theorem dRunner_add_41 : decode bRunner_add 41 = .ok (.invokevirtual 109, 3) := by decide +kernel
theorem dRunner_add_44 : decode bRunner_add 44 = .ok (.ireturn, 1) := by decide +kernel
def wpRunner_add (n : Nat) (ln : Nat → Nat) (x1 : Int32) (x2 : Int32) (x3 : Int32) (h : zM) (post : Int32 → zM → Prop) : Prop := (vp_in x2 10 ∧ ∀ y13 : Int64, y13 = ((Int32.toInt64 (h 17 (Int32.toNatClampNeg x2))) + (Int32.toInt64 x3)) → wpRunner_canBeValue n ln y13 h (fun r18 h18 => ((¬ r18 = 0 → (vp_in x2 10 ∧ ∀ h37 : zM, h37 = zu h18 17 (Int32.toNatClampNeg x2) (Int64.toInt32 y13) → wpRunner_give n ln x1 x2 h37 (fun r41 h41 => post r41 h41))) ∧ (r18 = 0 → post 1 h18))))
abbrev rmRunner_add : Room := { frames := 1, cells := 0, slots := 0, locals := 22 }
set_option maxHeartbeats 4000000 in
set_option maxRecDepth 100000 in
theorem cRunner_add (l : Launch) (D : va_G) (cI cC cE : ClassId) (ad : Nat → Nat) (n : Nat) (ln : Nat → Nat) (A : Nat → Prop) (hJ : zJ A (34 + 4 * n) ad) (x1 : Int32) (x2 : Int32) (x3 : Int32) (h : zM) (post : Int32 → zM → Prop) (hw : wpRunner_add n ln x1 x2 x3 h post) : Met l yRunner_add (.code yRunner_add bRunner_add 6 (some .int) :: zt) rmRunner_add (va_Pc [.ref (ad 12), .int x1, .int x2, .int x3] (zPre D (zty cI cC cE) (34 + 4 * n) ad (zF ad cI cC cE n ln) A h)) (va_Qi post (zPst D (zty cI cC cE) (34 + 4 * n) ad (zF ad cI cC cE n ln)) A) 0 0 A := by
  refine Met.ofW (cc := bRunner_add) (maxL := 6) (ret := (some .int)) (by decide) rfl ?_
  intro p e s m args below meth c s₁ B hml hv
  obtain ⟨rfl, hP, hK, hT, hN⟩ := hv
  have hr := B.returns
  have hlk := B.notSynchronized
  have S : zS p m c bRunner_add 6 s _ "CallExplorer$Runner" := ⟨B.exec, B.bytes, hml, findClass_of_methodNamed B.named, fun w hw => atoms_spec (ws := .code yRunner_add bRunner_add 6 (some .int) :: zt) B.pre w (List.mem_cons_of_mem _ hw)⟩
  have hS : va_S A s.heap s.heap [] := va_S.rf
  have hl := lv_entry ([.ref (ad 12), .int x1, .int x2, .int x3]) (n := 6) (Nat.le_of_ble_eq_true rfl)
  rw [lg_entry_eq]
  generalize (lg_sl ([.ref (ad 12), .int x1, .int x2, .int x3]) ++ List.replicate (6 - (lg_sl ([.ref (ad 12), .int x1, .int x2, .int x3])).length) Slot.unset).toArray = ls at hl ⊢
  have hl : lv_has ls 6 [(0, .ref (ad 12)), (1, .int x1), (2, .int x2), (3, .int x3)] := hl
  show W p l e rmRunner_add s m ([.ref (ad 12), .int x1, .int x2, .int x3] : List Value).toArray below meth c s.heap [] 0 0 (zQi post D (zty cI cC cE) (34 + 4 * n) ad (zF ad cI cC cE n ln) A below ([.ref (ad 12), .int x1, .int x2, .int x3] : List Value).toArray s) _
  unfold wpRunner_add at hw
  refine lv_aload_n S.1 S.2.1 dRunner_add_0 rfl (lv_at hl 0 rfl) ?_
  refine zr_get S hK hP (zk (by decide)) (zF_12 _) fRunner_heap q125 rfl dRunner_add_1 ?_
  refine zr_get S hK hP (zk (by decide)) (zF_15 _) fHeap_values q110 rfl dRunner_add_4 ?_
  refine lv_iload_n S.1 S.2.1 dRunner_add_7 rfl (lv_at hl 2 rfl) ?_
  obtain ⟨z8, hw⟩ := hw
  refine zr_ald S hK hP (zk (by decide)) (zF_17 _) 0 rfl z8 dRunner_add_8 ?_
  refine lv_i2l S.1 S.2.1 dRunner_add_9 rfl ?_
  refine lv_iload_n S.1 S.2.1 dRunner_add_10 rfl (lv_at hl 3 rfl) ?_
  refine lv_i2l S.1 S.2.1 dRunner_add_11 rfl ?_
  refine lv_ladd S.1 S.2.1 dRunner_add_12 ?_
  refine lv_topl (fun y13 e13 => ?_)
  have hw := hw y13 e13
  refine lv_lstore (lv' := [(4, .long y13), (0, .ref (ad 12)), (1, .int x1), (2, .int x2), (3, .int x3)]) S.1 S.2.1 dRunner_add_13 hl (by decide) rfl (fun ls hl => ?_)
  refine lv_aload_n S.1 S.2.1 dRunner_add_15 rfl (lv_at hl 1 rfl) ?_
  refine lv_lload S.1 S.2.1 dRunner_add_16 (lv_at hl 0 rfl) ?_
  refine zr_i (zr_V (As := [.long y13]) (rest := []) S hK hT hN hP hS (zk (by decide)) (zF_12 _) rfl (cRunner_canBeValue l D cI cC cE ad n ln A hJ _ _ _ hw) caRunner_131 ⟨Nat.le_of_ble_eq_true rfl, Nat.le_of_ble_eq_true rfl⟩ ⟨rfl, rfl⟩ rfl hl.1 rfl (Nat.le_of_ble_eq_true rfl) dRunner_add_18) hS (fun r18 h18 H locs hw hP hS => ?_)
  refine lv_if_ne S.1 S.2.1 dRunner_add_21 rfl (fun hc => ?_) (fun hc => ?_)
  · have hw := hw.1 hc
    refine lv_aload_n S.1 S.2.1 dRunner_add_26 rfl (lv_at hl 1 rfl) ?_
    refine zr_get S hK hP (zk (by decide)) (zF_12 _) fRunner_heap q125 rfl dRunner_add_27 ?_
    refine zr_get S hK hP (zk (by decide)) (zF_15 _) fHeap_values q110 rfl dRunner_add_30 ?_
    refine lv_iload_n S.1 S.2.1 dRunner_add_33 rfl (lv_at hl 3 rfl) ?_
    refine lv_lload S.1 S.2.1 dRunner_add_34 (lv_at hl 0 rfl) ?_
    refine lv_l2i S.1 S.2.1 dRunner_add_36 rfl ?_
    obtain ⟨z37, hw⟩ := hw
    refine zr_ast S hK hJ hP hS (zk (by decide)) zF_17 0 rfl z37 dRunner_add_37 (fun h37 H locs e37 hP hS => ?_)
    have hw := hw h37 e37
    refine lv_aload_n S.1 S.2.1 dRunner_add_38 rfl (lv_at hl 1 rfl) ?_
    refine lv_iload_n S.1 S.2.1 dRunner_add_39 rfl (lv_at hl 2 rfl) ?_
    refine lv_iload_n S.1 S.2.1 dRunner_add_40 rfl (lv_at hl 3 rfl) ?_
    refine zr_i (zr_V (As := [.int x1, .int x2]) (rest := []) S hK hT hN hP hS (zk (by decide)) (zF_12 _) rfl (cRunner_give l D cI cC cE ad n ln A hJ _ _ _ _ hw) caRunner_109 ⟨Nat.le_of_ble_eq_true rfl, Nat.le_of_ble_eq_true rfl⟩ ⟨rfl, rfl⟩ rfl hl.1 rfl (Nat.le_of_ble_eq_true rfl) dRunner_add_41) hS (fun r41 h41 H locs hw hP hS => ?_)
    exact zr_iret S hr hlk hK hP hS rfl hw dRunner_add_44
  · have hw := hw.2 hc
    refine lv_iconst (v := 1) S.1 S.2.1 dRunner_add_24 (by decide) ?_
    exact zr_iret S hr hlk hK hP hS rfl hw dRunner_add_25
/-! Runner.link -/
theorem dRunner_link_0 : decode bRunner_link 0 = .ok (.aload_n 0, 1) := by decide +kernel
theorem dRunner_link_1 : decode bRunner_link 1 = .ok (.getfield 27, 3) := by decide +kernel
theorem dRunner_link_4 : decode bRunner_link 4 = .ok (.iload_n 3, 1) := by decide +kernel
theorem dRunner_link_5 : decode bRunner_link 5 = .ok (.iload_n 2, 1) := by decide +kernel
theorem dRunner_link_6 : decode bRunner_link 6 = .ok (.invokevirtual 135, 3) := by decide +kernel
theorem dRunner_link_9 : decode bRunner_link 9 = .ok (.ifCond .eq 5, 3) := by decide +kernel
theorem dRunner_link_12 : decode bRunner_link 12 = .ok (.iconst 2, 1) := by decide +kernel
theorem dRunner_link_13 : decode bRunner_link 13 = .ok (.ireturn, 1) := by decide +kernel
theorem dRunner_link_14 : decode bRunner_link 14 = .ok (.aload_n 0, 1) := by decide +kernel
theorem dRunner_link_15 : decode bRunner_link 15 = .ok (.getfield 27, 3) := by decide +kernel
theorem dRunner_link_18 : decode bRunner_link 18 = .ok (.getfield 138, 3) := by decide +kernel
theorem dRunner_link_21 : decode bRunner_link 21 = .ok (.iload_n 2, 1) := by decide +kernel
theorem dRunner_link_22 : decode bRunner_link 22 = .ok (.iload_n 3, 1) := by decide +kernel
theorem dRunner_link_23 : decode bRunner_link 23 = .ok (.iastore, 1) := by decide +kernel
theorem dRunner_link_24 : decode bRunner_link 24 = .ok (.aload_n 0, 1) := by decide +kernel
theorem dRunner_link_25 : decode bRunner_link 25 = .ok (.iload_n 1, 1) := by decide +kernel
theorem dRunner_link_26 : decode bRunner_link 26 = .ok (.iload_n 2, 1) := by decide +kernel
theorem dRunner_link_27 : decode bRunner_link 27 = .ok (.invokevirtual 109, 3) := by decide +kernel
theorem dRunner_link_30 : decode bRunner_link 30 = .ok (.ireturn, 1) := by decide +kernel
def wpRunner_link (n : Nat) (ln : Nat → Nat) (x1 : Int32) (x2 : Int32) (x3 : Int32) (h : zM) (post : Int32 → zM → Prop) : Prop := wpHeap_reaches n ln x3 x2 h (fun r6 h6 => ((r6 = 0 → (vp_in x2 10 ∧ ∀ h23 : zM, h23 = zu h6 18 (Int32.toNatClampNeg x2) x3 → wpRunner_give n ln x1 x2 h23 (fun r27 h27 => post r27 h27))) ∧ (¬ r6 = 0 → post 2 h6)))
abbrev rmRunner_link : Room := { frames := 1, cells := 0, slots := 0, locals := 24 }
set_option maxHeartbeats 4000000 in
set_option maxRecDepth 100000 in
theorem cRunner_link (l : Launch) (D : va_G) (cI cC cE : ClassId) (ad : Nat → Nat) (n : Nat) (ln : Nat → Nat) (A : Nat → Prop) (hJ : zJ A (34 + 4 * n) ad) (x1 : Int32) (x2 : Int32) (x3 : Int32) (h : zM) (post : Int32 → zM → Prop) (hw : wpRunner_link n ln x1 x2 x3 h post) : Met l yRunner_link (.code yRunner_link bRunner_link 4 (some .int) :: zt) rmRunner_link (va_Pc [.ref (ad 12), .int x1, .int x2, .int x3] (zPre D (zty cI cC cE) (34 + 4 * n) ad (zF ad cI cC cE n ln) A h)) (va_Qi post (zPst D (zty cI cC cE) (34 + 4 * n) ad (zF ad cI cC cE n ln)) A) 0 0 A := by
  refine Met.ofW (cc := bRunner_link) (maxL := 4) (ret := (some .int)) (by decide) rfl ?_
  intro p e s m args below meth c s₁ B hml hv
  obtain ⟨rfl, hP, hK, hT, hN⟩ := hv
  have hr := B.returns
  have hlk := B.notSynchronized
  have S : zS p m c bRunner_link 4 s _ "CallExplorer$Runner" := ⟨B.exec, B.bytes, hml, findClass_of_methodNamed B.named, fun w hw => atoms_spec (ws := .code yRunner_link bRunner_link 4 (some .int) :: zt) B.pre w (List.mem_cons_of_mem _ hw)⟩
  have hS : va_S A s.heap s.heap [] := va_S.rf
  have hl := lv_entry ([.ref (ad 12), .int x1, .int x2, .int x3]) (n := 4) (Nat.le_of_ble_eq_true rfl)
  rw [lg_entry_eq]
  generalize (lg_sl ([.ref (ad 12), .int x1, .int x2, .int x3]) ++ List.replicate (4 - (lg_sl ([.ref (ad 12), .int x1, .int x2, .int x3])).length) Slot.unset).toArray = ls at hl ⊢
  have hl : lv_has ls 4 [(0, .ref (ad 12)), (1, .int x1), (2, .int x2), (3, .int x3)] := hl
  show W p l e rmRunner_link s m ([.ref (ad 12), .int x1, .int x2, .int x3] : List Value).toArray below meth c s.heap [] 0 0 (zQi post D (zty cI cC cE) (34 + 4 * n) ad (zF ad cI cC cE n ln) A below ([.ref (ad 12), .int x1, .int x2, .int x3] : List Value).toArray s) _
  unfold wpRunner_link at hw
  refine lv_aload_n S.1 S.2.1 dRunner_link_0 rfl (lv_at hl 0 rfl) ?_
  refine zr_get S hK hP (zk (by decide)) (zF_12 _) fRunner_heap q125 rfl dRunner_link_1 ?_
  refine lv_iload_n S.1 S.2.1 dRunner_link_4 rfl (lv_at hl 3 rfl) ?_
  refine lv_iload_n S.1 S.2.1 dRunner_link_5 rfl (lv_at hl 2 rfl) ?_
  refine zr_i (zr_V (As := [.int x3, .int x2]) (rest := []) S hK hT hN hP hS (zk (by decide)) (zF_15 _) rfl (cHeap_reaches l D cI cC cE ad n ln A hJ _ _ _ _ hw) caRunner_135 ⟨Nat.le_of_ble_eq_true rfl, Nat.le_of_ble_eq_true rfl⟩ ⟨rfl, rfl⟩ rfl hl.1 rfl (Nat.le_of_ble_eq_true rfl) dRunner_link_6) hS (fun r6 h6 H locs hw hP hS => ?_)
  refine lv_if_eq S.1 S.2.1 dRunner_link_9 rfl (fun hc => ?_) (fun hc => ?_)
  · have hw := hw.1 hc
    refine lv_aload_n S.1 S.2.1 dRunner_link_14 rfl (lv_at hl 0 rfl) ?_
    refine zr_get S hK hP (zk (by decide)) (zF_12 _) fRunner_heap q125 rfl dRunner_link_15 ?_
    refine zr_get S hK hP (zk (by decide)) (zF_15 _) fHeap_nexts q112 rfl dRunner_link_18 ?_
    refine lv_iload_n S.1 S.2.1 dRunner_link_21 rfl (lv_at hl 2 rfl) ?_
    refine lv_iload_n S.1 S.2.1 dRunner_link_22 rfl (lv_at hl 3 rfl) ?_
    obtain ⟨z23, hw⟩ := hw
    refine zr_ast S hK hJ hP hS (zk (by decide)) zF_18 0 rfl z23 dRunner_link_23 (fun h23 H locs e23 hP hS => ?_)
    have hw := hw h23 e23
    refine lv_aload_n S.1 S.2.1 dRunner_link_24 rfl (lv_at hl 0 rfl) ?_
    refine lv_iload_n S.1 S.2.1 dRunner_link_25 rfl (lv_at hl 1 rfl) ?_
    refine lv_iload_n S.1 S.2.1 dRunner_link_26 rfl (lv_at hl 2 rfl) ?_
    refine zr_i (zr_V (As := [.int x1, .int x2]) (rest := []) S hK hT hN hP hS (zk (by decide)) (zF_12 _) rfl (cRunner_give l D cI cC cE ad n ln A hJ _ _ _ _ hw) caRunner_109 ⟨Nat.le_of_ble_eq_true rfl, Nat.le_of_ble_eq_true rfl⟩ ⟨rfl, rfl⟩ rfl hl.1 rfl (Nat.le_of_ble_eq_true rfl) dRunner_link_27) hS (fun r27 h27 H locs hw hP hS => ?_)
    exact zr_iret S hr hlk hK hP hS rfl hw dRunner_link_30
  · have hw := hw.2 hc
    refine lv_iconst (v := 2) S.1 S.2.1 dRunner_link_12 (by decide) ?_
    exact zr_iret S hr hlk hK hP hS rfl hw dRunner_link_13
/-! Runner.getNext -/
theorem dRunner_getNext_0 : decode bRunner_getNext 0 = .ok (.aload_n 0, 1) := by decide +kernel
theorem dRunner_getNext_1 : decode bRunner_getNext 1 = .ok (.getfield 27, 3) := by decide +kernel
theorem dRunner_getNext_4 : decode bRunner_getNext 4 = .ok (.getfield 138, 3) := by decide +kernel
theorem dRunner_getNext_7 : decode bRunner_getNext 7 = .ok (.iload_n 2, 1) := by decide +kernel
theorem dRunner_getNext_8 : decode bRunner_getNext 8 = .ok (.iaload, 1) := by decide +kernel
theorem dRunner_getNext_9 : decode bRunner_getNext 9 = .ok (.istore 4, 2) := by decide +kernel
theorem dRunner_getNext_11 : decode bRunner_getNext 11 = .ok (.iload 4, 2) := by decide +kernel
theorem dRunner_getNext_13 : decode bRunner_getNext 13 = .ok (.iconst (-1), 1) := by decide +kernel
theorem dRunner_getNext_14 : decode bRunner_getNext 14 = .ok (.if_icmp .eq 26, 3) := by decide +kernel
theorem dRunner_getNext_17 : decode bRunner_getNext 17 = .ok (.aload_n 0, 1) := by decide +kernel
theorem dRunner_getNext_18 : decode bRunner_getNext 18 = .ok (.getfield 18, 3) := by decide +kernel
theorem dRunner_getNext_21 : decode bRunner_getNext 21 = .ok (.aload_n 0, 1) := by decide +kernel
theorem dRunner_getNext_22 : decode bRunner_getNext 22 = .ok (.getfield 27, 3) := by decide +kernel
theorem dRunner_getNext_25 : decode bRunner_getNext 25 = .ok (.getfield 141, 3) := by decide +kernel
theorem dRunner_getNext_28 : decode bRunner_getNext 28 = .ok (.iload 4, 2) := by decide +kernel
theorem dRunner_getNext_30 : decode bRunner_getNext 30 = .ok (.iaload, 1) := by decide +kernel
theorem dRunner_getNext_31 : decode bRunner_getNext 31 = .ok (.iload_n 3, 1) := by decide +kernel
theorem dRunner_getNext_32 : decode bRunner_getNext 32 = .ok (.invokevirtual 144, 3) := by decide +kernel
theorem dRunner_getNext_35 : decode bRunner_getNext 35 = .ok (.ifCond .ne 5, 3) := by decide +kernel
theorem dRunner_getNext_38 : decode bRunner_getNext 38 = .ok (.iconst 3, 1) := by decide +kernel
theorem dRunner_getNext_39 : decode bRunner_getNext 39 = .ok (.ireturn, 1) := by decide +kernel
theorem dRunner_getNext_40 : decode bRunner_getNext 40 = .ok (.aload_n 0, 1) := by decide +kernel
theorem dRunner_getNext_41 : decode bRunner_getNext 41 = .ok (.iload_n 1, 1) := by decide +kernel
theorem dRunner_getNext_42 : decode bRunner_getNext 42 = .ok (.iload 4, 2) := by decide +kernel
theorem dRunner_getNext_44 : decode bRunner_getNext 44 = .ok (.invokevirtual 109, 3) := by decide +kernel
theorem dRunner_getNext_47 : decode bRunner_getNext 47 = .ok (.ireturn, 1) := by decide +kernel
def wbRunner_getNext_40 (n : Nat) (ln : Nat → Nat) (post : Int32 → zM → Prop) (v1 : Int32) (v4 : Int32) (h : zM) : Prop := wpRunner_give n ln v1 v4 h (fun r44 h44 => post r44 h44)
def wpRunner_getNext (n : Nat) (ln : Nat → Nat) (x1 : Int32) (x2 : Int32) (x3 : Int32) (h : zM) (post : Int32 → zM → Prop) : Prop := (vp_in x2 10 ∧ ∀ y9 : Int32, y9 = (h 18 (Int32.toNatClampNeg x2)) → ((y9 = (-1) → wbRunner_getNext_40 n ln post x1 y9 h) ∧ (¬ y9 = (-1) → (vp_in y9 10 ∧ wpCatalog_is n ln (h 16 (Int32.toNatClampNeg y9)) x3 h (fun r32 h32 => ((¬ r32 = 0 → wbRunner_getNext_40 n ln post x1 y9 h32) ∧ (r32 = 0 → post 3 h32)))))))
abbrev rmRunner_getNext : Room := { frames := 1, cells := 0, slots := 0, locals := 24 }
set_option maxHeartbeats 4000000 in
set_option maxRecDepth 100000 in
theorem cRunner_getNext (l : Launch) (D : va_G) (cI cC cE : ClassId) (ad : Nat → Nat) (n : Nat) (ln : Nat → Nat) (A : Nat → Prop) (hJ : zJ A (34 + 4 * n) ad) (x1 : Int32) (x2 : Int32) (x3 : Int32) (h : zM) (post : Int32 → zM → Prop) (hw : wpRunner_getNext n ln x1 x2 x3 h post) : Met l yRunner_getNext (.code yRunner_getNext bRunner_getNext 5 (some .int) :: zt) rmRunner_getNext (va_Pc [.ref (ad 12), .int x1, .int x2, .int x3] (zPre D (zty cI cC cE) (34 + 4 * n) ad (zF ad cI cC cE n ln) A h)) (va_Qi post (zPst D (zty cI cC cE) (34 + 4 * n) ad (zF ad cI cC cE n ln)) A) 0 0 A := by
  refine Met.ofW (cc := bRunner_getNext) (maxL := 5) (ret := (some .int)) (by decide) rfl ?_
  intro p e s m args below meth c s₁ B hml hv
  obtain ⟨rfl, hP, hK, hT, hN⟩ := hv
  have hr := B.returns
  have hlk := B.notSynchronized
  have S : zS p m c bRunner_getNext 5 s _ "CallExplorer$Runner" := ⟨B.exec, B.bytes, hml, findClass_of_methodNamed B.named, fun w hw => atoms_spec (ws := .code yRunner_getNext bRunner_getNext 5 (some .int) :: zt) B.pre w (List.mem_cons_of_mem _ hw)⟩
  have hS : va_S A s.heap s.heap [] := va_S.rf
  have hl := lv_entry ([.ref (ad 12), .int x1, .int x2, .int x3]) (n := 5) (Nat.le_of_ble_eq_true rfl)
  rw [lg_entry_eq]
  generalize (lg_sl ([.ref (ad 12), .int x1, .int x2, .int x3]) ++ List.replicate (5 - (lg_sl ([.ref (ad 12), .int x1, .int x2, .int x3])).length) Slot.unset).toArray = ls at hl ⊢
  have hl : lv_has ls 5 [(0, .ref (ad 12)), (1, .int x1), (2, .int x2), (3, .int x3)] := hl
  show W p l e rmRunner_getNext s m ([.ref (ad 12), .int x1, .int x2, .int x3] : List Value).toArray below meth c s.heap [] 0 0 (zQi post D (zty cI cC cE) (34 + 4 * n) ad (zF ad cI cC cE n ln) A below ([.ref (ad 12), .int x1, .int x2, .int x3] : List Value).toArray s) _
  have J40 : ∀ (v1 : Int32) (v4 : Int32) (h : zM) (H : Heap) (locs : List Loc) (ls : Array Slot), wbRunner_getNext_40 n ln post v1 v4 h → lv_has ls 5 [(0, .ref (ad 12)), (1, .int v1), (4, .int v4)] → va_P D zcl (zW (34 + 4 * n) ad (zF ad cI cC cE n ln) h) H → va_S A s.heap H locs → W p l e rmRunner_getNext s m ([.ref (ad 12), .int x1, .int x2, .int x3] : List Value).toArray below meth c H locs 0 0 (zQi post D (zty cI cC cE) (34 + 4 * n) ad (zF ad cI cC cE n ln) A below ([.ref (ad 12), .int x1, .int x2, .int x3] : List Value).toArray s) (F0 m 40 ls []) := by
    intro v1 v4 h H locs ls hw hl hP hS
    unfold wbRunner_getNext_40 at hw
    refine lv_aload_n S.1 S.2.1 dRunner_getNext_40 rfl (lv_at hl 0 rfl) ?_
    refine lv_iload_n S.1 S.2.1 dRunner_getNext_41 rfl (lv_at hl 1 rfl) ?_
    refine lv_iload S.1 S.2.1 dRunner_getNext_42 (lv_at hl 2 rfl) ?_
    refine zr_i (zr_V (As := [.int v1, .int v4]) (rest := []) S hK hT hN hP hS (zk (by decide)) (zF_12 _) rfl (cRunner_give l D cI cC cE ad n ln A hJ _ _ _ _ hw) caRunner_109 ⟨Nat.le_of_ble_eq_true rfl, Nat.le_of_ble_eq_true rfl⟩ ⟨rfl, rfl⟩ rfl hl.1 rfl (Nat.le_of_ble_eq_true rfl) dRunner_getNext_44) hS (fun r44 h44 H locs hw hP hS => ?_)
    exact zr_iret S hr hlk hK hP hS rfl hw dRunner_getNext_47
  unfold wpRunner_getNext at hw
  refine lv_aload_n S.1 S.2.1 dRunner_getNext_0 rfl (lv_at hl 0 rfl) ?_
  refine zr_get S hK hP (zk (by decide)) (zF_12 _) fRunner_heap q125 rfl dRunner_getNext_1 ?_
  refine zr_get S hK hP (zk (by decide)) (zF_15 _) fHeap_nexts q112 rfl dRunner_getNext_4 ?_
  refine lv_iload_n S.1 S.2.1 dRunner_getNext_7 rfl (lv_at hl 2 rfl) ?_
  obtain ⟨z8, hw⟩ := hw
  refine zr_ald S hK hP (zk (by decide)) (zF_18 _) 0 rfl z8 dRunner_getNext_8 ?_
  refine lv_topi (fun y9 e9 => ?_)
  have hw := hw y9 e9
  refine lv_istore (lv' := [(4, .int y9), (0, .ref (ad 12)), (1, .int x1), (2, .int x2), (3, .int x3)]) S.1 S.2.1 dRunner_getNext_9 hl (by decide) rfl (fun ls hl => ?_)
  refine lv_iload S.1 S.2.1 dRunner_getNext_11 (lv_at hl 0 rfl) ?_
  refine lv_iconst (v := (-1)) S.1 S.2.1 dRunner_getNext_13 (by decide) ?_
  refine lv_icmp_eq S.1 S.2.1 dRunner_getNext_14 rfl (fun hc => ?_) (fun hc => ?_)
  · have hw := hw.1 hc
    exact J40 _ _ _ _ _ _ hw (lv_sub hl [1, 2, 0] rfl) hP hS
  · have hw := hw.2 hc
    refine lv_aload_n S.1 S.2.1 dRunner_getNext_17 rfl (lv_at hl 1 rfl) ?_
    refine zr_get S hK hP (zk (by decide)) (zF_12 _) fRunner_catalog q124 rfl dRunner_getNext_18 ?_
    refine lv_aload_n S.1 S.2.1 dRunner_getNext_21 rfl (lv_at hl 1 rfl) ?_
    refine zr_get S hK hP (zk (by decide)) (zF_12 _) fRunner_heap q125 rfl dRunner_getNext_22 ?_
    refine zr_get S hK hP (zk (by decide)) (zF_15 _) fHeap_classes q108 rfl dRunner_getNext_25 ?_
    refine lv_iload S.1 S.2.1 dRunner_getNext_28 (lv_at hl 0 rfl) ?_
    obtain ⟨z30, hw⟩ := hw
    refine zr_ald S hK hP (zk (by decide)) (zF_16 _) 0 rfl z30 dRunner_getNext_30 ?_
    refine lv_iload_n S.1 S.2.1 dRunner_getNext_31 rfl (lv_at hl 4 rfl) ?_
    refine zr_i (zr_V (As := [.int (h 16 (Int32.toNatClampNeg y9)), .int x3]) (rest := []) S hK hT hN hP hS (zk (by decide)) (zF_1 _) rfl (cCatalog_is l D cI cC cE ad n ln A hJ _ _ _ _ hw) caRunner_144 ⟨Nat.le_of_ble_eq_true rfl, Nat.le_of_ble_eq_true rfl⟩ ⟨rfl, rfl⟩ rfl hl.1 rfl (Nat.le_of_ble_eq_true rfl) dRunner_getNext_32) hS (fun r32 h32 H locs hw hP hS => ?_)
    refine lv_if_ne S.1 S.2.1 dRunner_getNext_35 rfl (fun hc => ?_) (fun hc => ?_)
    · have hw := hw.1 hc
      exact J40 _ _ _ _ _ _ hw (lv_sub hl [1, 2, 0] rfl) hP hS
    · have hw := hw.2 hc
      refine lv_iconst (v := 3) S.1 S.2.1 dRunner_getNext_38 (by decide) ?_
      exact zr_iret S hr hlk hK hP hS rfl hw dRunner_getNext_39
/-! Runner.getNextValue -/
theorem dRunner_getNextValue_0 : decode bRunner_getNextValue 0 = .ok (.aload_n 0, 1) := by decide +kernel
theorem dRunner_getNextValue_1 : decode bRunner_getNextValue 1 = .ok (.getfield 27, 3) := by decide +kernel
theorem dRunner_getNextValue_4 : decode bRunner_getNextValue 4 = .ok (.getfield 138, 3) := by decide +kernel
theorem dRunner_getNextValue_7 : decode bRunner_getNextValue 7 = .ok (.iload_n 2, 1) := by decide +kernel
theorem dRunner_getNextValue_8 : decode bRunner_getNextValue 8 = .ok (.iaload, 1) := by decide +kernel
theorem dRunner_getNextValue_9 : decode bRunner_getNextValue 9 = .ok (.istore_n 3, 1) := by decide +kernel
theorem dRunner_getNextValue_10 : decode bRunner_getNextValue 10 = .ok (.iload_n 3, 1) := by decide +kernel
theorem dRunner_getNextValue_11 : decode bRunner_getNextValue 11 = .ok (.iconst (-1), 1) := by decide +kernel
theorem dRunner_getNextValue_12 : decode bRunner_getNextValue 12 = .ok (.if_icmp .ne 7, 3) := by decide +kernel
theorem dRunner_getNextValue_15 : decode bRunner_getNextValue 15 = .ok (.iconst 5, 1) := by decide +kernel
theorem dRunner_getNextValue_16 : decode bRunner_getNextValue 16 = .ok (.goto 17, 3) := by decide +kernel
theorem dRunner_getNextValue_19 : decode bRunner_getNextValue 19 = .ok (.aload_n 0, 1) := by decide +kernel
theorem dRunner_getNextValue_20 : decode bRunner_getNextValue 20 = .ok (.iload_n 1, 1) := by decide +kernel
theorem dRunner_getNextValue_21 : decode bRunner_getNextValue 21 = .ok (.aload_n 0, 1) := by decide +kernel
theorem dRunner_getNextValue_22 : decode bRunner_getNextValue 22 = .ok (.getfield 27, 3) := by decide +kernel
theorem dRunner_getNextValue_25 : decode bRunner_getNextValue 25 = .ok (.getfield 105, 3) := by decide +kernel
theorem dRunner_getNextValue_28 : decode bRunner_getNextValue 28 = .ok (.iload_n 3, 1) := by decide +kernel
theorem dRunner_getNextValue_29 : decode bRunner_getNextValue 29 = .ok (.iaload, 1) := by decide +kernel
theorem dRunner_getNextValue_30 : decode bRunner_getNextValue 30 = .ok (.invokevirtual 109, 3) := by decide +kernel
theorem dRunner_getNextValue_33 : decode bRunner_getNextValue 33 = .ok (.ireturn, 1) := by decide +kernel
def wpRunner_getNextValue (n : Nat) (ln : Nat → Nat) (x1 : Int32) (x2 : Int32) (h : zM) (post : Int32 → zM → Prop) : Prop := (vp_in x2 10 ∧ ∀ y9 : Int32, y9 = (h 18 (Int32.toNatClampNeg x2)) → ((¬ y9 = (-1) → (vp_in y9 10 ∧ wpRunner_give n ln x1 (h 17 (Int32.toNatClampNeg y9)) h (fun r30 h30 => post r30 h30))) ∧ (y9 = (-1) → post 5 h)))
abbrev rmRunner_getNextValue : Room := { frames := 1, cells := 0, slots := 0, locals := 22 }
set_option maxHeartbeats 4000000 in
set_option maxRecDepth 100000 in
theorem cRunner_getNextValue (l : Launch) (D : va_G) (cI cC cE : ClassId) (ad : Nat → Nat) (n : Nat) (ln : Nat → Nat) (A : Nat → Prop) (hJ : zJ A (34 + 4 * n) ad) (x1 : Int32) (x2 : Int32) (h : zM) (post : Int32 → zM → Prop) (hw : wpRunner_getNextValue n ln x1 x2 h post) : Met l yRunner_getNextValue (.code yRunner_getNextValue bRunner_getNextValue 4 (some .int) :: zt) rmRunner_getNextValue (va_Pc [.ref (ad 12), .int x1, .int x2] (zPre D (zty cI cC cE) (34 + 4 * n) ad (zF ad cI cC cE n ln) A h)) (va_Qi post (zPst D (zty cI cC cE) (34 + 4 * n) ad (zF ad cI cC cE n ln)) A) 0 0 A := by
  refine Met.ofW (cc := bRunner_getNextValue) (maxL := 4) (ret := (some .int)) (by decide) rfl ?_
  intro p e s m args below meth c s₁ B hml hv
  obtain ⟨rfl, hP, hK, hT, hN⟩ := hv
  have hr := B.returns
  have hlk := B.notSynchronized
  have S : zS p m c bRunner_getNextValue 4 s _ "CallExplorer$Runner" := ⟨B.exec, B.bytes, hml, findClass_of_methodNamed B.named, fun w hw => atoms_spec (ws := .code yRunner_getNextValue bRunner_getNextValue 4 (some .int) :: zt) B.pre w (List.mem_cons_of_mem _ hw)⟩
  have hS : va_S A s.heap s.heap [] := va_S.rf
  have hl := lv_entry ([.ref (ad 12), .int x1, .int x2]) (n := 4) (Nat.le_of_ble_eq_true rfl)
  rw [lg_entry_eq]
  generalize (lg_sl ([.ref (ad 12), .int x1, .int x2]) ++ List.replicate (4 - (lg_sl ([.ref (ad 12), .int x1, .int x2])).length) Slot.unset).toArray = ls at hl ⊢
  have hl : lv_has ls 4 [(0, .ref (ad 12)), (1, .int x1), (2, .int x2)] := hl
  show W p l e rmRunner_getNextValue s m ([.ref (ad 12), .int x1, .int x2] : List Value).toArray below meth c s.heap [] 0 0 (zQi post D (zty cI cC cE) (34 + 4 * n) ad (zF ad cI cC cE n ln) A below ([.ref (ad 12), .int x1, .int x2] : List Value).toArray s) _
  unfold wpRunner_getNextValue at hw
  refine lv_aload_n S.1 S.2.1 dRunner_getNextValue_0 rfl (lv_at hl 0 rfl) ?_
  refine zr_get S hK hP (zk (by decide)) (zF_12 _) fRunner_heap q125 rfl dRunner_getNextValue_1 ?_
  refine zr_get S hK hP (zk (by decide)) (zF_15 _) fHeap_nexts q112 rfl dRunner_getNextValue_4 ?_
  refine lv_iload_n S.1 S.2.1 dRunner_getNextValue_7 rfl (lv_at hl 2 rfl) ?_
  obtain ⟨z8, hw⟩ := hw
  refine zr_ald S hK hP (zk (by decide)) (zF_18 _) 0 rfl z8 dRunner_getNextValue_8 ?_
  refine lv_topi (fun y9 e9 => ?_)
  have hw := hw y9 e9
  refine lv_istore_n (lv' := [(3, .int y9), (0, .ref (ad 12)), (1, .int x1), (2, .int x2)]) S.1 S.2.1 dRunner_getNextValue_9 rfl hl (by decide) rfl (fun ls hl => ?_)
  refine lv_iload_n S.1 S.2.1 dRunner_getNextValue_10 rfl (lv_at hl 0 rfl) ?_
  refine lv_iconst (v := (-1)) S.1 S.2.1 dRunner_getNextValue_11 (by decide) ?_
  refine lv_icmp_ne S.1 S.2.1 dRunner_getNextValue_12 rfl (fun hc => ?_) (fun hc => ?_)
  · have hw := hw.1 hc
    refine lv_aload_n S.1 S.2.1 dRunner_getNextValue_19 rfl (lv_at hl 1 rfl) ?_
    refine lv_iload_n S.1 S.2.1 dRunner_getNextValue_20 rfl (lv_at hl 2 rfl) ?_
    refine lv_aload_n S.1 S.2.1 dRunner_getNextValue_21 rfl (lv_at hl 1 rfl) ?_
    refine zr_get S hK hP (zk (by decide)) (zF_12 _) fRunner_heap q125 rfl dRunner_getNextValue_22 ?_
    refine zr_get S hK hP (zk (by decide)) (zF_15 _) fHeap_values q110 rfl dRunner_getNextValue_25 ?_
    refine lv_iload_n S.1 S.2.1 dRunner_getNextValue_28 rfl (lv_at hl 0 rfl) ?_
    obtain ⟨z29, hw⟩ := hw
    refine zr_ald S hK hP (zk (by decide)) (zF_17 _) 0 rfl z29 dRunner_getNextValue_29 ?_
    refine zr_i (zr_V (As := [.int x1, .int (h 17 (Int32.toNatClampNeg y9))]) (rest := []) S hK hT hN hP hS (zk (by decide)) (zF_12 _) rfl (cRunner_give l D cI cC cE ad n ln A hJ _ _ _ _ hw) caRunner_109 ⟨Nat.le_of_ble_eq_true rfl, Nat.le_of_ble_eq_true rfl⟩ ⟨rfl, rfl⟩ rfl hl.1 rfl (Nat.le_of_ble_eq_true rfl) dRunner_getNextValue_30) hS (fun r30 h30 H locs hw hP hS => ?_)
    exact zr_iret S hr hlk hK hP hS rfl hw dRunner_getNextValue_33
  · have hw := hw.2 hc
    refine lv_iconst (v := 5) S.1 S.2.1 dRunner_getNextValue_15 (by decide) ?_
    refine lv_goto S.1 S.2.1 dRunner_getNextValue_16 rfl ?_
    exact zr_iret S hr hlk hK hP hS rfl hw dRunner_getNextValue_33
/-! Runner.execute -/
theorem dRunner_execute_0 : decode bRunner_execute 0 = .ok (.aload_n 0, 1) := by decide +kernel
theorem dRunner_execute_1 : decode bRunner_execute 1 = .ok (.aload_n 1, 1) := by decide +kernel
theorem dRunner_execute_2 : decode bRunner_execute 2 = .ok (.iload_n 2, 1) := by decide +kernel
theorem dRunner_execute_3 : decode bRunner_execute 3 = .ok (.iconst 0, 1) := by decide +kernel
theorem dRunner_execute_4 : decode bRunner_execute 4 = .ok (.invokevirtual 71, 3) := by decide +kernel
theorem dRunner_execute_7 : decode bRunner_execute 7 = .ok (.ifCond .eq 5, 3) := by decide +kernel
theorem dRunner_execute_10 : decode bRunner_execute 10 = .ok (.iconst 5, 1) := by decide +kernel
theorem dRunner_execute_11 : decode bRunner_execute 11 = .ok (.ireturn, 1) := by decide +kernel
theorem dRunner_execute_12 : decode bRunner_execute 12 = .ok (.aload_n 1, 1) := by decide +kernel
theorem dRunner_execute_13 : decode bRunner_execute 13 = .ok (.iload_n 2, 1) := by decide +kernel
theorem dRunner_execute_14 : decode bRunner_execute 14 = .ok (.invokevirtual 75, 3) := by decide +kernel
theorem dRunner_execute_17 : decode bRunner_execute 17 = .ok (.istore_n 3, 1) := by decide +kernel
theorem dRunner_execute_18 : decode bRunner_execute 18 = .ok (.aload_n 0, 1) := by decide +kernel
theorem dRunner_execute_19 : decode bRunner_execute 19 = .ok (.aload_n 1, 1) := by decide +kernel
theorem dRunner_execute_20 : decode bRunner_execute 20 = .ok (.iload_n 2, 1) := by decide +kernel
theorem dRunner_execute_21 : decode bRunner_execute 21 = .ok (.iconst 0, 1) := by decide +kernel
theorem dRunner_execute_22 : decode bRunner_execute 22 = .ok (.invokevirtual 85, 3) := by decide +kernel
theorem dRunner_execute_25 : decode bRunner_execute 25 = .ok (.istore 4, 2) := by decide +kernel
theorem dRunner_execute_27 : decode bRunner_execute 27 = .ok (.aload_n 0, 1) := by decide +kernel
theorem dRunner_execute_28 : decode bRunner_execute 28 = .ok (.aload_n 1, 1) := by decide +kernel
theorem dRunner_execute_29 : decode bRunner_execute 29 = .ok (.iload_n 2, 1) := by decide +kernel
theorem dRunner_execute_30 : decode bRunner_execute 30 = .ok (.iconst 1, 1) := by decide +kernel
theorem dRunner_execute_31 : decode bRunner_execute 31 = .ok (.invokevirtual 85, 3) := by decide +kernel
theorem dRunner_execute_34 : decode bRunner_execute 34 = .ok (.istore 5, 2) := by decide +kernel
theorem dRunner_execute_36 : decode bRunner_execute 36 = .ok (.aload_n 0, 1) := by decide +kernel
theorem dRunner_execute_37 : decode bRunner_execute 37 = .ok (.getfield 18, 3) := by decide +kernel
theorem dRunner_execute_40 : decode bRunner_execute 40 = .ok (.getfield 95, 3) := by decide +kernel
theorem dRunner_execute_43 : decode bRunner_execute 43 = .ok (.iload_n 3, 1) := by decide +kernel
theorem dRunner_execute_44 : decode bRunner_execute 44 = .ok (.iaload, 1) := by decide +kernel
theorem dRunner_execute_45 : decode bRunner_execute 45 = .ok (.tableswitch 206 0 8 #[51, 68, 102, 118, 128, 138, 155, 183, 191], 51) := by decide +kernel
theorem dRunner_execute_96 : decode bRunner_execute 96 = .ok (.aload_n 0, 1) := by decide +kernel
theorem dRunner_execute_97 : decode bRunner_execute 97 = .ok (.iload_n 2, 1) := by decide +kernel
theorem dRunner_execute_98 : decode bRunner_execute 98 = .ok (.aload_n 0, 1) := by decide +kernel
theorem dRunner_execute_99 : decode bRunner_execute 99 = .ok (.getfield 18, 3) := by decide +kernel
theorem dRunner_execute_102 : decode bRunner_execute 102 = .ok (.getfield 98, 3) := by decide +kernel
theorem dRunner_execute_105 : decode bRunner_execute 105 = .ok (.iload_n 3, 1) := by decide +kernel
theorem dRunner_execute_106 : decode bRunner_execute 106 = .ok (.iaload, 1) := by decide +kernel
theorem dRunner_execute_107 : decode bRunner_execute 107 = .ok (.iload 4, 2) := by decide +kernel
theorem dRunner_execute_109 : decode bRunner_execute 109 = .ok (.invokevirtual 101, 3) := by decide +kernel
theorem dRunner_execute_112 : decode bRunner_execute 112 = .ok (.ireturn, 1) := by decide +kernel
theorem dRunner_execute_113 : decode bRunner_execute 113 = .ok (.aload_n 0, 1) := by decide +kernel
theorem dRunner_execute_114 : decode bRunner_execute 114 = .ok (.iload_n 2, 1) := by decide +kernel
theorem dRunner_execute_115 : decode bRunner_execute 115 = .ok (.aload_n 0, 1) := by decide +kernel
theorem dRunner_execute_116 : decode bRunner_execute 116 = .ok (.getfield 27, 3) := by decide +kernel
theorem dRunner_execute_119 : decode bRunner_execute 119 = .ok (.aload_n 0, 1) := by decide +kernel
theorem dRunner_execute_120 : decode bRunner_execute 120 = .ok (.getfield 18, 3) := by decide +kernel
theorem dRunner_execute_123 : decode bRunner_execute 123 = .ok (.getfield 98, 3) := by decide +kernel
theorem dRunner_execute_126 : decode bRunner_execute 126 = .ok (.iload_n 3, 1) := by decide +kernel
theorem dRunner_execute_127 : decode bRunner_execute 127 = .ok (.iaload, 1) := by decide +kernel
theorem dRunner_execute_128 : decode bRunner_execute 128 = .ok (.aload_n 0, 1) := by decide +kernel
theorem dRunner_execute_129 : decode bRunner_execute 129 = .ok (.getfield 27, 3) := by decide +kernel
theorem dRunner_execute_132 : decode bRunner_execute 132 = .ok (.getfield 105, 3) := by decide +kernel
theorem dRunner_execute_135 : decode bRunner_execute 135 = .ok (.iload 4, 2) := by decide +kernel
theorem dRunner_execute_137 : decode bRunner_execute 137 = .ok (.iaload, 1) := by decide +kernel
theorem dRunner_execute_138 : decode bRunner_execute 138 = .ok (.iload 4, 2) := by decide +kernel
theorem dRunner_execute_140 : decode bRunner_execute 140 = .ok (.invokevirtual 108, 3) := by decide +kernel
theorem dRunner_execute_143 : decode bRunner_execute 143 = .ok (.invokevirtual 109, 3) := by decide +kernel
theorem dRunner_execute_146 : decode bRunner_execute 146 = .ok (.ireturn, 1) := by decide +kernel
theorem dRunner_execute_147 : decode bRunner_execute 147 = .ok (.aload_n 0, 1) := by decide +kernel
theorem dRunner_execute_148 : decode bRunner_execute 148 = .ok (.iload_n 2, 1) := by decide +kernel
theorem dRunner_execute_149 : decode bRunner_execute 149 = .ok (.aload_n 0, 1) := by decide +kernel
theorem dRunner_execute_150 : decode bRunner_execute 150 = .ok (.getfield 27, 3) := by decide +kernel
theorem dRunner_execute_153 : decode bRunner_execute 153 = .ok (.getfield 105, 3) := by decide +kernel
theorem dRunner_execute_156 : decode bRunner_execute 156 = .ok (.iload 4, 2) := by decide +kernel
theorem dRunner_execute_158 : decode bRunner_execute 158 = .ok (.iaload, 1) := by decide +kernel
theorem dRunner_execute_159 : decode bRunner_execute 159 = .ok (.invokevirtual 109, 3) := by decide +kernel
theorem dRunner_execute_162 : decode bRunner_execute 162 = .ok (.ireturn, 1) := by decide +kernel
theorem dRunner_execute_163 : decode bRunner_execute 163 = .ok (.aload_n 0, 1) := by decide +kernel
theorem dRunner_execute_164 : decode bRunner_execute 164 = .ok (.iload_n 2, 1) := by decide +kernel
theorem dRunner_execute_165 : decode bRunner_execute 165 = .ok (.iload 4, 2) := by decide +kernel
theorem dRunner_execute_167 : decode bRunner_execute 167 = .ok (.iload 5, 2) := by decide +kernel
theorem dRunner_execute_169 : decode bRunner_execute 169 = .ok (.invokevirtual 112, 3) := by decide +kernel
theorem dRunner_execute_172 : decode bRunner_execute 172 = .ok (.ireturn, 1) := by decide +kernel
theorem dRunner_execute_173 : decode bRunner_execute 173 = .ok (.aload_n 0, 1) := by decide +kernel
theorem dRunner_execute_174 : decode bRunner_execute 174 = .ok (.iload_n 2, 1) := by decide +kernel
theorem dRunner_execute_175 : decode bRunner_execute 175 = .ok (.iload 4, 2) := by decide +kernel
theorem dRunner_execute_177 : decode bRunner_execute 177 = .ok (.iload 5, 2) := by decide +kernel
theorem dRunner_execute_179 : decode bRunner_execute 179 = .ok (.invokevirtual 115, 3) := by decide +kernel
theorem dRunner_execute_182 : decode bRunner_execute 182 = .ok (.ireturn, 1) := by decide +kernel
theorem dRunner_execute_183 : decode bRunner_execute 183 = .ok (.aload_n 0, 1) := by decide +kernel
theorem dRunner_execute_184 : decode bRunner_execute 184 = .ok (.iload_n 2, 1) := by decide +kernel
theorem dRunner_execute_185 : decode bRunner_execute 185 = .ok (.iload 4, 2) := by decide +kernel
theorem dRunner_execute_187 : decode bRunner_execute 187 = .ok (.aload_n 0, 1) := by decide +kernel
theorem dRunner_execute_188 : decode bRunner_execute 188 = .ok (.getfield 18, 3) := by decide +kernel
theorem dRunner_execute_191 : decode bRunner_execute 191 = .ok (.getfield 98, 3) := by decide +kernel
theorem dRunner_execute_194 : decode bRunner_execute 194 = .ok (.iload_n 3, 1) := by decide +kernel
theorem dRunner_execute_195 : decode bRunner_execute 195 = .ok (.iaload, 1) := by decide +kernel
theorem dRunner_execute_196 : decode bRunner_execute 196 = .ok (.invokevirtual 118, 3) := by decide +kernel
theorem dRunner_execute_199 : decode bRunner_execute 199 = .ok (.ireturn, 1) := by decide +kernel
theorem dRunner_execute_200 : decode bRunner_execute 200 = .ok (.iload 5, 2) := by decide +kernel
theorem dRunner_execute_202 : decode bRunner_execute 202 = .ok (.ifCond .ne 7, 3) := by decide +kernel
theorem dRunner_execute_205 : decode bRunner_execute 205 = .ok (.iconst 4, 1) := by decide +kernel
theorem dRunner_execute_206 : decode bRunner_execute 206 = .ok (.goto 21, 3) := by decide +kernel
theorem dRunner_execute_209 : decode bRunner_execute 209 = .ok (.aload_n 0, 1) := by decide +kernel
theorem dRunner_execute_210 : decode bRunner_execute 210 = .ok (.iload_n 2, 1) := by decide +kernel
theorem dRunner_execute_211 : decode bRunner_execute 211 = .ok (.aload_n 0, 1) := by decide +kernel
theorem dRunner_execute_212 : decode bRunner_execute 212 = .ok (.getfield 27, 3) := by decide +kernel
theorem dRunner_execute_215 : decode bRunner_execute 215 = .ok (.getfield 105, 3) := by decide +kernel
theorem dRunner_execute_218 : decode bRunner_execute 218 = .ok (.iload 4, 2) := by decide +kernel
theorem dRunner_execute_220 : decode bRunner_execute 220 = .ok (.iaload, 1) := by decide +kernel
theorem dRunner_execute_221 : decode bRunner_execute 221 = .ok (.iload 5, 2) := by decide +kernel
theorem dRunner_execute_223 : decode bRunner_execute 223 = .ok (.idiv, 1) := by decide +kernel
theorem dRunner_execute_224 : decode bRunner_execute 224 = .ok (.invokevirtual 109, 3) := by decide +kernel
theorem dRunner_execute_227 : decode bRunner_execute 227 = .ok (.ireturn, 1) := by decide +kernel
theorem dRunner_execute_228 : decode bRunner_execute 228 = .ok (.aload_n 0, 1) := by decide +kernel
theorem dRunner_execute_229 : decode bRunner_execute 229 = .ok (.iload_n 2, 1) := by decide +kernel
theorem dRunner_execute_230 : decode bRunner_execute 230 = .ok (.iload 4, 2) := by decide +kernel
theorem dRunner_execute_232 : decode bRunner_execute 232 = .ok (.invokevirtual 121, 3) := by decide +kernel
theorem dRunner_execute_235 : decode bRunner_execute 235 = .ok (.ireturn, 1) := by decide +kernel
theorem dRunner_execute_236 : decode bRunner_execute 236 = .ok (.aload_n 0, 1) := by decide +kernel
theorem dRunner_execute_237 : decode bRunner_execute 237 = .ok (.iload_n 2, 1) := by decide +kernel
theorem dRunner_execute_238 : decode bRunner_execute 238 = .ok (.aload_n 0, 1) := by decide +kernel
theorem dRunner_execute_239 : decode bRunner_execute 239 = .ok (.getfield 27, 3) := by decide +kernel
theorem dRunner_execute_242 : decode bRunner_execute 242 = .ok (.iload 4, 2) := by decide +kernel
theorem dRunner_execute_244 : decode bRunner_execute 244 = .ok (.invokevirtual 124, 3) := by decide +kernel
theorem dRunner_execute_247 : decode bRunner_execute 247 = .ok (.invokevirtual 109, 3) := by decide +kernel
theorem dRunner_execute_250 : decode bRunner_execute 250 = .ok (.ireturn, 1) := by decide +kernel
theorem dRunner_execute_251 : decode bRunner_execute 251 = .ok (.aload_n 0, 1) := by decide +kernel
theorem dRunner_execute_252 : decode bRunner_execute 252 = .ok (.iload_n 2, 1) := by decide +kernel
theorem dRunner_execute_253 : decode bRunner_execute 253 = .ok (.iload 5, 2) := by decide +kernel
theorem dRunner_execute_255 : decode bRunner_execute 255 = .ok (.iconst (-1), 1) := by decide +kernel
theorem dRunner_execute_256 : decode bRunner_execute 256 = .ok (.if_icmp .eq 21, 3) := by decide +kernel
theorem dRunner_execute_259 : decode bRunner_execute 259 = .ok (.aload_n 0, 1) := by decide +kernel
theorem dRunner_execute_260 : decode bRunner_execute 260 = .ok (.getfield 27, 3) := by decide +kernel
theorem dRunner_execute_263 : decode bRunner_execute 263 = .ok (.iload 4, 2) := by decide +kernel
theorem dRunner_execute_265 : decode bRunner_execute 265 = .ok (.iload 5, 2) := by decide +kernel
theorem dRunner_execute_267 : decode bRunner_execute 267 = .ok (.invokevirtual 127, 3) := by decide +kernel
theorem dRunner_execute_270 : decode bRunner_execute 270 = .ok (.ifCond .eq 7, 3) := by decide +kernel
theorem dRunner_execute_273 : decode bRunner_execute 273 = .ok (.iconst 1, 1) := by decide +kernel
theorem dRunner_execute_274 : decode bRunner_execute 274 = .ok (.goto 4, 3) := by decide +kernel
theorem dRunner_execute_277 : decode bRunner_execute 277 = .ok (.iconst 0, 1) := by decide +kernel
theorem dRunner_execute_278 : decode bRunner_execute 278 = .ok (.invokevirtual 109, 3) := by decide +kernel
theorem dRunner_execute_281 : decode bRunner_execute 281 = .ok (.ireturn, 1) := by decide +kernel
def wbRunner_execute_278 (n : Nat) (ln : Nat → Nat) (o1 : Nat) (post : Int32 → zM → Prop) (k1 : Int32) (k2 : Int32) (h : zM) : Prop := wpRunner_give n ln k1 k2 h (fun r278 h278 => post r278 h278)
def wbRunner_execute_277 (n : Nat) (ln : Nat → Nat) (o1 : Nat) (post : Int32 → zM → Prop) (k1 : Int32) (h : zM) : Prop := wbRunner_execute_278 n ln o1 post k1 0 h
def wpRunner_execute (n : Nat) (ln : Nat → Nat) (o1 : Nat) (x2 : Int32) (h : zM) (post : Int32 → zM → Prop) : Prop := wpRunner_isNull n ln o1 x2 0 h (fun r4 h4 => ((r4 = 0 → wpSequence_operationOf o1 x2 h4 (fun r14 h14 => wpRunner_argumentValue n ln o1 x2 0 h14 (fun r22 h22 => wpRunner_argumentValue n ln o1 x2 1 h22 (fun r31 h31 => (vp_in r14 10 ∧ (((h31 5 (Int32.toNatClampNeg r14)) = 0 → (vp_in r14 10 ∧ wpRunner_make n ln x2 (h31 8 (Int32.toNatClampNeg r14)) r22 h31 (fun r109 h109 => post r109 h109))) ∧ (¬ (h31 5 (Int32.toNatClampNeg r14)) = 0 → (((h31 5 (Int32.toNatClampNeg r14)) = 1 → (vp_in r14 10 ∧ (vp_in r22 10 ∧ wpHeap_make n ln (h31 8 (Int32.toNatClampNeg r14)) (h31 17 (Int32.toNatClampNeg r22)) r22 h31 (fun r140 h140 => wpRunner_give n ln x2 r140 h140 (fun r143 h143 => post r143 h143))))) ∧ (¬ (h31 5 (Int32.toNatClampNeg r14)) = 1 → (((h31 5 (Int32.toNatClampNeg r14)) = 2 → (vp_in r22 10 ∧ wpRunner_give n ln x2 (h31 17 (Int32.toNatClampNeg r22)) h31 (fun r159 h159 => post r159 h159))) ∧ (¬ (h31 5 (Int32.toNatClampNeg r14)) = 2 → (((h31 5 (Int32.toNatClampNeg r14)) = 3 → wpRunner_add n ln x2 r22 r31 h31 (fun r169 h169 => post r169 h169)) ∧ (¬ (h31 5 (Int32.toNatClampNeg r14)) = 3 → (((h31 5 (Int32.toNatClampNeg r14)) = 4 → wpRunner_link n ln x2 r22 r31 h31 (fun r179 h179 => post r179 h179)) ∧ (¬ (h31 5 (Int32.toNatClampNeg r14)) = 4 → (((h31 5 (Int32.toNatClampNeg r14)) = 5 → (vp_in r14 10 ∧ wpRunner_getNext n ln x2 r22 (h31 8 (Int32.toNatClampNeg r14)) h31 (fun r196 h196 => post r196 h196))) ∧ (¬ (h31 5 (Int32.toNatClampNeg r14)) = 5 → (((h31 5 (Int32.toNatClampNeg r14)) = 6 → ((¬ r31 = 0 → (vp_in r22 10 ∧ (¬ r31 = 0 ∧ wpRunner_give n ln x2 ((h31 17 (Int32.toNatClampNeg r22)) / r31) h31 (fun r224 h224 => post r224 h224)))) ∧ (r31 = 0 → post 4 h31))) ∧ (¬ (h31 5 (Int32.toNatClampNeg r14)) = 6 → (((h31 5 (Int32.toNatClampNeg r14)) = 7 → wpRunner_getNextValue n ln x2 r22 h31 (fun r232 h232 => post r232 h232)) ∧ (¬ (h31 5 (Int32.toNatClampNeg r14)) = 7 → (((h31 5 (Int32.toNatClampNeg r14)) = 8 → wpHeap_chainLength n ln r22 h31 (fun r244 h244 => wpRunner_give n ln x2 r244 h244 (fun r247 h247 => post r247 h247))) ∧ (¬ (h31 5 (Int32.toNatClampNeg r14)) = 8 → ((r31 = (-1) → wbRunner_execute_277 n ln o1 post x2 h31) ∧ (¬ r31 = (-1) → wpHeap_equal n ln r22 r31 h31 (fun r267 h267 => ((r267 = 0 → wbRunner_execute_277 n ln o1 post x2 h267) ∧ (¬ r267 = 0 → wbRunner_execute_278 n ln o1 post x2 1 h267)))))))))))))))))))))))))))) ∧ (¬ r4 = 0 → post 5 h4)))
abbrev rmRunner_execute : Room := { frames := 3, cells := 0, slots := 0, locals := 70 }
set_option maxHeartbeats 4000000 in
set_option maxRecDepth 100000 in
theorem cRunner_execute (l : Launch) (D : va_G) (cI cC cE : ClassId) (ad : Nat → Nat) (n : Nat) (ln : Nat → Nat) (A : Nat → Prop) (hJ : zJ A (34 + 4 * n) ad) (o1 : Nat) (hq1 : zSeq (34 + 4 * n) ad (zF ad cI cC cE n ln) cI o1) (x2 : Int32) (h : zM) (post : Int32 → zM → Prop) (hw : wpRunner_execute n ln o1 x2 h post) : Met l yRunner_execute (.code yRunner_execute bRunner_execute 6 (some .int) :: zt) rmRunner_execute (va_Pc [.ref (ad 12), .ref (ad o1), .int x2] (zPre D (zty cI cC cE) (34 + 4 * n) ad (zF ad cI cC cE n ln) A h)) (va_Qi post (zPst D (zty cI cC cE) (34 + 4 * n) ad (zF ad cI cC cE n ln)) A) 0 0 A := by
  refine Met.ofW (cc := bRunner_execute) (maxL := 6) (ret := (some .int)) (by decide) rfl ?_
  intro p e s m args below meth c s₁ B hml hv
  obtain ⟨rfl, hP, hK, hT, hN⟩ := hv
  have hr := B.returns
  have hlk := B.notSynchronized
  have S : zS p m c bRunner_execute 6 s _ "CallExplorer$Runner" := ⟨B.exec, B.bytes, hml, findClass_of_methodNamed B.named, fun w hw => atoms_spec (ws := .code yRunner_execute bRunner_execute 6 (some .int) :: zt) B.pre w (List.mem_cons_of_mem _ hw)⟩
  have hS : va_S A s.heap s.heap [] := va_S.rf
  have hl := lv_entry ([.ref (ad 12), .ref (ad o1), .int x2]) (n := 6) (Nat.le_of_ble_eq_true rfl)
  rw [lg_entry_eq]
  generalize (lg_sl ([.ref (ad 12), .ref (ad o1), .int x2]) ++ List.replicate (6 - (lg_sl ([.ref (ad 12), .ref (ad o1), .int x2])).length) Slot.unset).toArray = ls at hl ⊢
  have hl : lv_has ls 6 [(0, .ref (ad 12)), (1, .ref (ad o1)), (2, .int x2)] := hl
  show W p l e rmRunner_execute s m ([.ref (ad 12), .ref (ad o1), .int x2] : List Value).toArray below meth c s.heap [] 0 0 (zQi post D (zty cI cC cE) (34 + 4 * n) ad (zF ad cI cC cE n ln) A below ([.ref (ad 12), .ref (ad o1), .int x2] : List Value).toArray s) _
  have J278 : ∀ (k1 : Int32) (k2 : Int32) (h : zM) (H : Heap) (locs : List Loc) (ls : Array Slot), wbRunner_execute_278 n ln o1 post k1 k2 h → lv_has ls 6 [] → va_P D zcl (zW (34 + 4 * n) ad (zF ad cI cC cE n ln) h) H → va_S A s.heap H locs → W p l e rmRunner_execute s m ([.ref (ad 12), .ref (ad o1), .int x2] : List Value).toArray below meth c H locs 0 0 (zQi post D (zty cI cC cE) (34 + 4 * n) ad (zF ad cI cC cE n ln) A below ([.ref (ad 12), .ref (ad o1), .int x2] : List Value).toArray s) (F0 m 278 ls [.int k2, .int k1, .ref (ad 12)]) := by
    intro k1 k2 h H locs ls hw hl hP hS
    unfold wbRunner_execute_278 at hw
    refine zr_i (zr_V (As := [.int k1, .int k2]) (rest := []) S hK hT hN hP hS (zk (by decide)) (zF_12 _) rfl (cRunner_give l D cI cC cE ad n ln A hJ _ _ _ _ hw) caRunner_109 ⟨Nat.le_of_ble_eq_true rfl, Nat.le_of_ble_eq_true rfl⟩ ⟨rfl, rfl⟩ rfl hl.1 rfl (Nat.le_of_ble_eq_true rfl) dRunner_execute_278) hS (fun r278 h278 H locs hw hP hS => ?_)
    exact zr_iret S hr hlk hK hP hS rfl hw dRunner_execute_281
  have J277 : ∀ (k1 : Int32) (h : zM) (H : Heap) (locs : List Loc) (ls : Array Slot), wbRunner_execute_277 n ln o1 post k1 h → lv_has ls 6 [] → va_P D zcl (zW (34 + 4 * n) ad (zF ad cI cC cE n ln) h) H → va_S A s.heap H locs → W p l e rmRunner_execute s m ([.ref (ad 12), .ref (ad o1), .int x2] : List Value).toArray below meth c H locs 0 0 (zQi post D (zty cI cC cE) (34 + 4 * n) ad (zF ad cI cC cE n ln) A below ([.ref (ad 12), .ref (ad o1), .int x2] : List Value).toArray s) (F0 m 277 ls [.int k1, .ref (ad 12)]) := by
    intro k1 h H locs ls hw hl hP hS
    unfold wbRunner_execute_277 at hw
    refine lv_iconst (v := 0) S.1 S.2.1 dRunner_execute_277 (by decide) ?_
    exact J278 _ _ _ _ _ _ hw (lv_sub hl [] rfl) hP hS
  unfold wpRunner_execute at hw
  refine lv_aload_n S.1 S.2.1 dRunner_execute_0 rfl (lv_at hl 0 rfl) ?_
  refine lv_aload_n S.1 S.2.1 dRunner_execute_1 rfl (lv_at hl 1 rfl) ?_
  refine lv_iload_n S.1 S.2.1 dRunner_execute_2 rfl (lv_at hl 2 rfl) ?_
  refine lv_iconst (v := 0) S.1 S.2.1 dRunner_execute_3 (by decide) ?_
  refine zr_i (zr_V (As := [.ref (ad o1), .int x2, .int 0]) (rest := []) S hK hT hN hP hS (zk (by decide)) (zF_12 _) rfl (cRunner_isNull l D cI cC cE ad n ln A hJ o1 hq1 _ _ _ _ hw) caRunner_71 ⟨Nat.le_of_ble_eq_true rfl, Nat.le_of_ble_eq_true rfl⟩ ⟨rfl, rfl⟩ rfl hl.1 rfl (Nat.le_of_ble_eq_true rfl) dRunner_execute_4) hS (fun r4 h4 H locs hw hP hS => ?_)
  refine lv_if_eq S.1 S.2.1 dRunner_execute_7 rfl (fun hc => ?_) (fun hc => ?_)
  · have hw := hw.1 hc
    refine lv_aload_n S.1 S.2.1 dRunner_execute_12 rfl (lv_at hl 1 rfl) ?_
    refine lv_iload_n S.1 S.2.1 dRunner_execute_13 rfl (lv_at hl 2 rfl) ?_
    refine zr_i (zr_V (As := [.int x2]) (rest := []) S hK hT hN hP hS (Nat.lt_of_succ_lt (hq1).1) ((hq1).2.1 _) rfl (cSequence_operationOf l D (zty cI cC cE) (34 + 4 * n) ad (zF ad cI cC cE n ln) A hJ cI rfl o1 hq1 _ _ _ hw) caRunner_75 ⟨Nat.le_of_ble_eq_true rfl, Nat.le_of_ble_eq_true rfl⟩ ⟨rfl, rfl⟩ rfl hl.1 rfl (Nat.le_of_ble_eq_true rfl) dRunner_execute_14) hS (fun r14 h14 H locs hw hP hS => ?_)
    refine lv_istore_n (lv' := [(3, .int r14), (0, .ref (ad 12)), (1, .ref (ad o1)), (2, .int x2)]) S.1 S.2.1 dRunner_execute_17 rfl hl (by decide) rfl (fun ls hl => ?_)
    refine lv_aload_n S.1 S.2.1 dRunner_execute_18 rfl (lv_at hl 1 rfl) ?_
    refine lv_aload_n S.1 S.2.1 dRunner_execute_19 rfl (lv_at hl 2 rfl) ?_
    refine lv_iload_n S.1 S.2.1 dRunner_execute_20 rfl (lv_at hl 3 rfl) ?_
    refine lv_iconst (v := 0) S.1 S.2.1 dRunner_execute_21 (by decide) ?_
    refine zr_i (zr_V (As := [.ref (ad o1), .int x2, .int 0]) (rest := []) S hK hT hN hP hS (zk (by decide)) (zF_12 _) rfl (cRunner_argumentValue l D cI cC cE ad n ln A hJ o1 hq1 _ _ _ _ hw) caRunner_85 ⟨Nat.le_of_ble_eq_true rfl, Nat.le_of_ble_eq_true rfl⟩ ⟨rfl, rfl⟩ rfl hl.1 rfl (Nat.le_of_ble_eq_true rfl) dRunner_execute_22) hS (fun r22 h22 H locs hw hP hS => ?_)
    refine lv_istore (lv' := [(4, .int r22), (3, .int r14), (0, .ref (ad 12)), (1, .ref (ad o1)), (2, .int x2)]) S.1 S.2.1 dRunner_execute_25 hl (by decide) rfl (fun ls hl => ?_)
    refine lv_aload_n S.1 S.2.1 dRunner_execute_27 rfl (lv_at hl 2 rfl) ?_
    refine lv_aload_n S.1 S.2.1 dRunner_execute_28 rfl (lv_at hl 3 rfl) ?_
    refine lv_iload_n S.1 S.2.1 dRunner_execute_29 rfl (lv_at hl 4 rfl) ?_
    refine lv_iconst (v := 1) S.1 S.2.1 dRunner_execute_30 (by decide) ?_
    refine zr_i (zr_V (As := [.ref (ad o1), .int x2, .int 1]) (rest := []) S hK hT hN hP hS (zk (by decide)) (zF_12 _) rfl (cRunner_argumentValue l D cI cC cE ad n ln A hJ o1 hq1 _ _ _ _ hw) caRunner_85 ⟨Nat.le_of_ble_eq_true rfl, Nat.le_of_ble_eq_true rfl⟩ ⟨rfl, rfl⟩ rfl hl.1 rfl (Nat.le_of_ble_eq_true rfl) dRunner_execute_31) hS (fun r31 h31 H locs hw hP hS => ?_)
    refine lv_istore (lv' := [(5, .int r31), (4, .int r22), (3, .int r14), (0, .ref (ad 12)), (1, .ref (ad o1)), (2, .int x2)]) S.1 S.2.1 dRunner_execute_34 hl (by decide) rfl (fun ls hl => ?_)
    refine lv_aload_n S.1 S.2.1 dRunner_execute_36 rfl (lv_at hl 3 rfl) ?_
    refine zr_get S hK hP (zk (by decide)) (zF_12 _) fRunner_catalog q124 rfl dRunner_execute_37 ?_
    refine zr_get S hK hP (zk (by decide)) (zF_1 _) fCatalog_kinds q40 rfl dRunner_execute_40 ?_
    refine lv_iload_n S.1 S.2.1 dRunner_execute_43 rfl (lv_at hl 2 rfl) ?_
    obtain ⟨z44, hw⟩ := hw
    refine zr_ald S hK hP (zk (by decide)) (zF_5 _) 0 rfl z44 dRunner_execute_44 ?_
    by_cases c0 : (h31 5 (Int32.toNatClampNeg r14)) = 0
    · have hw := hw.1 c0
      refine lv_tableIn (off := 51) S.1 S.2.1 dRunner_execute_45 (by rw [c0]; decide) (by rw [c0]; decide) (by rw [c0]; rfl) rfl ?_
      refine lv_aload_n S.1 S.2.1 dRunner_execute_96 rfl (lv_at hl 3 rfl) ?_
      refine lv_iload_n S.1 S.2.1 dRunner_execute_97 rfl (lv_at hl 5 rfl) ?_
      refine lv_aload_n S.1 S.2.1 dRunner_execute_98 rfl (lv_at hl 3 rfl) ?_
      refine zr_get S hK hP (zk (by decide)) (zF_12 _) fRunner_catalog q124 rfl dRunner_execute_99 ?_
      refine zr_get S hK hP (zk (by decide)) (zF_1 _) fCatalog_resultTypes q46 rfl dRunner_execute_102 ?_
      refine lv_iload_n S.1 S.2.1 dRunner_execute_105 rfl (lv_at hl 2 rfl) ?_
      obtain ⟨z106, hw⟩ := hw
      refine zr_ald S hK hP (zk (by decide)) (zF_8 _) 0 rfl z106 dRunner_execute_106 ?_
      refine lv_iload S.1 S.2.1 dRunner_execute_107 (lv_at hl 1 rfl) ?_
      refine zr_i (zr_V (As := [.int x2, .int (h31 8 (Int32.toNatClampNeg r14)), .int r22]) (rest := []) S hK hT hN hP hS (zk (by decide)) (zF_12 _) rfl (cRunner_make l D cI cC cE ad n ln A hJ _ _ _ _ _ hw) caRunner_101 ⟨Nat.le_of_ble_eq_true rfl, Nat.le_of_ble_eq_true rfl⟩ ⟨rfl, rfl⟩ rfl hl.1 rfl (Nat.le_of_ble_eq_true rfl) dRunner_execute_109) hS (fun r109 h109 H locs hw hP hS => ?_)
      exact zr_iret S hr hlk hK hP hS rfl hw dRunner_execute_112
    · have hw := hw.2 c0
      by_cases c1 : (h31 5 (Int32.toNatClampNeg r14)) = 1
      · have hw := hw.1 c1
        refine lv_tableIn (off := 68) S.1 S.2.1 dRunner_execute_45 (by rw [c1]; decide) (by rw [c1]; decide) (by rw [c1]; rfl) rfl ?_
        refine lv_aload_n S.1 S.2.1 dRunner_execute_113 rfl (lv_at hl 3 rfl) ?_
        refine lv_iload_n S.1 S.2.1 dRunner_execute_114 rfl (lv_at hl 5 rfl) ?_
        refine lv_aload_n S.1 S.2.1 dRunner_execute_115 rfl (lv_at hl 3 rfl) ?_
        refine zr_get S hK hP (zk (by decide)) (zF_12 _) fRunner_heap q125 rfl dRunner_execute_116 ?_
        refine lv_aload_n S.1 S.2.1 dRunner_execute_119 rfl (lv_at hl 3 rfl) ?_
        refine zr_get S hK hP (zk (by decide)) (zF_12 _) fRunner_catalog q124 rfl dRunner_execute_120 ?_
        refine zr_get S hK hP (zk (by decide)) (zF_1 _) fCatalog_resultTypes q46 rfl dRunner_execute_123 ?_
        refine lv_iload_n S.1 S.2.1 dRunner_execute_126 rfl (lv_at hl 2 rfl) ?_
        obtain ⟨z127, hw⟩ := hw
        refine zr_ald S hK hP (zk (by decide)) (zF_8 _) 0 rfl z127 dRunner_execute_127 ?_
        refine lv_aload_n S.1 S.2.1 dRunner_execute_128 rfl (lv_at hl 3 rfl) ?_
        refine zr_get S hK hP (zk (by decide)) (zF_12 _) fRunner_heap q125 rfl dRunner_execute_129 ?_
        refine zr_get S hK hP (zk (by decide)) (zF_15 _) fHeap_values q110 rfl dRunner_execute_132 ?_
        refine lv_iload S.1 S.2.1 dRunner_execute_135 (lv_at hl 1 rfl) ?_
        obtain ⟨z137, hw⟩ := hw
        refine zr_ald S hK hP (zk (by decide)) (zF_17 _) 0 rfl z137 dRunner_execute_137 ?_
        refine lv_iload S.1 S.2.1 dRunner_execute_138 (lv_at hl 1 rfl) ?_
        refine zr_i (zr_V (As := [.int (h31 8 (Int32.toNatClampNeg r14)), .int (h31 17 (Int32.toNatClampNeg r22)), .int r22]) (rest := [.int x2, .ref (ad 12)]) S hK hT hN hP hS (zk (by decide)) (zF_15 _) rfl (cHeap_make l D cI cC cE ad n ln A hJ _ _ _ _ _ hw) caRunner_108 ⟨Nat.le_of_ble_eq_true rfl, Nat.le_of_ble_eq_true rfl⟩ ⟨rfl, rfl⟩ rfl hl.1 rfl (Nat.le_of_ble_eq_true rfl) dRunner_execute_140) hS (fun r140 h140 H locs hw hP hS => ?_)
        refine zr_i (zr_V (As := [.int x2, .int r140]) (rest := []) S hK hT hN hP hS (zk (by decide)) (zF_12 _) rfl (cRunner_give l D cI cC cE ad n ln A hJ _ _ _ _ hw) caRunner_109 ⟨Nat.le_of_ble_eq_true rfl, Nat.le_of_ble_eq_true rfl⟩ ⟨rfl, rfl⟩ rfl hl.1 rfl (Nat.le_of_ble_eq_true rfl) dRunner_execute_143) hS (fun r143 h143 H locs hw hP hS => ?_)
        exact zr_iret S hr hlk hK hP hS rfl hw dRunner_execute_146
      · have hw := hw.2 c1
        by_cases c2 : (h31 5 (Int32.toNatClampNeg r14)) = 2
        · have hw := hw.1 c2
          refine lv_tableIn (off := 102) S.1 S.2.1 dRunner_execute_45 (by rw [c2]; decide) (by rw [c2]; decide) (by rw [c2]; rfl) rfl ?_
          refine lv_aload_n S.1 S.2.1 dRunner_execute_147 rfl (lv_at hl 3 rfl) ?_
          refine lv_iload_n S.1 S.2.1 dRunner_execute_148 rfl (lv_at hl 5 rfl) ?_
          refine lv_aload_n S.1 S.2.1 dRunner_execute_149 rfl (lv_at hl 3 rfl) ?_
          refine zr_get S hK hP (zk (by decide)) (zF_12 _) fRunner_heap q125 rfl dRunner_execute_150 ?_
          refine zr_get S hK hP (zk (by decide)) (zF_15 _) fHeap_values q110 rfl dRunner_execute_153 ?_
          refine lv_iload S.1 S.2.1 dRunner_execute_156 (lv_at hl 1 rfl) ?_
          obtain ⟨z158, hw⟩ := hw
          refine zr_ald S hK hP (zk (by decide)) (zF_17 _) 0 rfl z158 dRunner_execute_158 ?_
          refine zr_i (zr_V (As := [.int x2, .int (h31 17 (Int32.toNatClampNeg r22))]) (rest := []) S hK hT hN hP hS (zk (by decide)) (zF_12 _) rfl (cRunner_give l D cI cC cE ad n ln A hJ _ _ _ _ hw) caRunner_109 ⟨Nat.le_of_ble_eq_true rfl, Nat.le_of_ble_eq_true rfl⟩ ⟨rfl, rfl⟩ rfl hl.1 rfl (Nat.le_of_ble_eq_true rfl) dRunner_execute_159) hS (fun r159 h159 H locs hw hP hS => ?_)
          exact zr_iret S hr hlk hK hP hS rfl hw dRunner_execute_162
        · have hw := hw.2 c2
          by_cases c3 : (h31 5 (Int32.toNatClampNeg r14)) = 3
          · have hw := hw.1 c3
            refine lv_tableIn (off := 118) S.1 S.2.1 dRunner_execute_45 (by rw [c3]; decide) (by rw [c3]; decide) (by rw [c3]; rfl) rfl ?_
            refine lv_aload_n S.1 S.2.1 dRunner_execute_163 rfl (lv_at hl 3 rfl) ?_
            refine lv_iload_n S.1 S.2.1 dRunner_execute_164 rfl (lv_at hl 5 rfl) ?_
            refine lv_iload S.1 S.2.1 dRunner_execute_165 (lv_at hl 1 rfl) ?_
            refine lv_iload S.1 S.2.1 dRunner_execute_167 (lv_at hl 0 rfl) ?_
            refine zr_i (zr_V (As := [.int x2, .int r22, .int r31]) (rest := []) S hK hT hN hP hS (zk (by decide)) (zF_12 _) rfl (cRunner_add l D cI cC cE ad n ln A hJ _ _ _ _ _ hw) caRunner_112 ⟨Nat.le_of_ble_eq_true rfl, Nat.le_of_ble_eq_true rfl⟩ ⟨rfl, rfl⟩ rfl hl.1 rfl (Nat.le_of_ble_eq_true rfl) dRunner_execute_169) hS (fun r169 h169 H locs hw hP hS => ?_)
            exact zr_iret S hr hlk hK hP hS rfl hw dRunner_execute_172
          · have hw := hw.2 c3
            by_cases c4 : (h31 5 (Int32.toNatClampNeg r14)) = 4
            · have hw := hw.1 c4
              refine lv_tableIn (off := 128) S.1 S.2.1 dRunner_execute_45 (by rw [c4]; decide) (by rw [c4]; decide) (by rw [c4]; rfl) rfl ?_
              refine lv_aload_n S.1 S.2.1 dRunner_execute_173 rfl (lv_at hl 3 rfl) ?_
              refine lv_iload_n S.1 S.2.1 dRunner_execute_174 rfl (lv_at hl 5 rfl) ?_
              refine lv_iload S.1 S.2.1 dRunner_execute_175 (lv_at hl 1 rfl) ?_
              refine lv_iload S.1 S.2.1 dRunner_execute_177 (lv_at hl 0 rfl) ?_
              refine zr_i (zr_V (As := [.int x2, .int r22, .int r31]) (rest := []) S hK hT hN hP hS (zk (by decide)) (zF_12 _) rfl (cRunner_link l D cI cC cE ad n ln A hJ _ _ _ _ _ hw) caRunner_115 ⟨Nat.le_of_ble_eq_true rfl, Nat.le_of_ble_eq_true rfl⟩ ⟨rfl, rfl⟩ rfl hl.1 rfl (Nat.le_of_ble_eq_true rfl) dRunner_execute_179) hS (fun r179 h179 H locs hw hP hS => ?_)
              exact zr_iret S hr hlk hK hP hS rfl hw dRunner_execute_182
            · have hw := hw.2 c4
              by_cases c5 : (h31 5 (Int32.toNatClampNeg r14)) = 5
              · have hw := hw.1 c5
                refine lv_tableIn (off := 138) S.1 S.2.1 dRunner_execute_45 (by rw [c5]; decide) (by rw [c5]; decide) (by rw [c5]; rfl) rfl ?_
                refine lv_aload_n S.1 S.2.1 dRunner_execute_183 rfl (lv_at hl 3 rfl) ?_
                refine lv_iload_n S.1 S.2.1 dRunner_execute_184 rfl (lv_at hl 5 rfl) ?_
                refine lv_iload S.1 S.2.1 dRunner_execute_185 (lv_at hl 1 rfl) ?_
                refine lv_aload_n S.1 S.2.1 dRunner_execute_187 rfl (lv_at hl 3 rfl) ?_
                refine zr_get S hK hP (zk (by decide)) (zF_12 _) fRunner_catalog q124 rfl dRunner_execute_188 ?_
                refine zr_get S hK hP (zk (by decide)) (zF_1 _) fCatalog_resultTypes q46 rfl dRunner_execute_191 ?_
                refine lv_iload_n S.1 S.2.1 dRunner_execute_194 rfl (lv_at hl 2 rfl) ?_
                obtain ⟨z195, hw⟩ := hw
                refine zr_ald S hK hP (zk (by decide)) (zF_8 _) 0 rfl z195 dRunner_execute_195 ?_
                refine zr_i (zr_V (As := [.int x2, .int r22, .int (h31 8 (Int32.toNatClampNeg r14))]) (rest := []) S hK hT hN hP hS (zk (by decide)) (zF_12 _) rfl (cRunner_getNext l D cI cC cE ad n ln A hJ _ _ _ _ _ hw) caRunner_118 ⟨Nat.le_of_ble_eq_true rfl, Nat.le_of_ble_eq_true rfl⟩ ⟨rfl, rfl⟩ rfl hl.1 rfl (Nat.le_of_ble_eq_true rfl) dRunner_execute_196) hS (fun r196 h196 H locs hw hP hS => ?_)
                exact zr_iret S hr hlk hK hP hS rfl hw dRunner_execute_199
              · have hw := hw.2 c5
                by_cases c6 : (h31 5 (Int32.toNatClampNeg r14)) = 6
                · have hw := hw.1 c6
                  refine lv_tableIn (off := 155) S.1 S.2.1 dRunner_execute_45 (by rw [c6]; decide) (by rw [c6]; decide) (by rw [c6]; rfl) rfl ?_
                  refine lv_iload S.1 S.2.1 dRunner_execute_200 (lv_at hl 0 rfl) ?_
                  refine lv_if_ne S.1 S.2.1 dRunner_execute_202 rfl (fun hc => ?_) (fun hc => ?_)
                  · have hw := hw.1 hc
                    refine lv_aload_n S.1 S.2.1 dRunner_execute_209 rfl (lv_at hl 3 rfl) ?_
                    refine lv_iload_n S.1 S.2.1 dRunner_execute_210 rfl (lv_at hl 5 rfl) ?_
                    refine lv_aload_n S.1 S.2.1 dRunner_execute_211 rfl (lv_at hl 3 rfl) ?_
                    refine zr_get S hK hP (zk (by decide)) (zF_12 _) fRunner_heap q125 rfl dRunner_execute_212 ?_
                    refine zr_get S hK hP (zk (by decide)) (zF_15 _) fHeap_values q110 rfl dRunner_execute_215 ?_
                    refine lv_iload S.1 S.2.1 dRunner_execute_218 (lv_at hl 1 rfl) ?_
                    obtain ⟨z220, hw⟩ := hw
                    refine zr_ald S hK hP (zk (by decide)) (zF_17 _) 0 rfl z220 dRunner_execute_220 ?_
                    refine lv_iload S.1 S.2.1 dRunner_execute_221 (lv_at hl 0 rfl) ?_
                    obtain ⟨z223, hw⟩ := hw
                    refine lv_idiv S.1 S.2.1 dRunner_execute_223 z223 ?_
                    refine zr_i (zr_V (As := [.int x2, .int ((h31 17 (Int32.toNatClampNeg r22)) / r31)]) (rest := []) S hK hT hN hP hS (zk (by decide)) (zF_12 _) rfl (cRunner_give l D cI cC cE ad n ln A hJ _ _ _ _ hw) caRunner_109 ⟨Nat.le_of_ble_eq_true rfl, Nat.le_of_ble_eq_true rfl⟩ ⟨rfl, rfl⟩ rfl hl.1 rfl (Nat.le_of_ble_eq_true rfl) dRunner_execute_224) hS (fun r224 h224 H locs hw hP hS => ?_)
                    exact zr_iret S hr hlk hK hP hS rfl hw dRunner_execute_227
                  · have hw := hw.2 hc
                    refine lv_iconst (v := 4) S.1 S.2.1 dRunner_execute_205 (by decide) ?_
                    refine lv_goto S.1 S.2.1 dRunner_execute_206 rfl ?_
                    exact zr_iret S hr hlk hK hP hS rfl hw dRunner_execute_227
                · have hw := hw.2 c6
                  by_cases c7 : (h31 5 (Int32.toNatClampNeg r14)) = 7
                  · have hw := hw.1 c7
                    refine lv_tableIn (off := 183) S.1 S.2.1 dRunner_execute_45 (by rw [c7]; decide) (by rw [c7]; decide) (by rw [c7]; rfl) rfl ?_
                    refine lv_aload_n S.1 S.2.1 dRunner_execute_228 rfl (lv_at hl 3 rfl) ?_
                    refine lv_iload_n S.1 S.2.1 dRunner_execute_229 rfl (lv_at hl 5 rfl) ?_
                    refine lv_iload S.1 S.2.1 dRunner_execute_230 (lv_at hl 1 rfl) ?_
                    refine zr_i (zr_V (As := [.int x2, .int r22]) (rest := []) S hK hT hN hP hS (zk (by decide)) (zF_12 _) rfl (cRunner_getNextValue l D cI cC cE ad n ln A hJ _ _ _ _ hw) caRunner_121 ⟨Nat.le_of_ble_eq_true rfl, Nat.le_of_ble_eq_true rfl⟩ ⟨rfl, rfl⟩ rfl hl.1 rfl (Nat.le_of_ble_eq_true rfl) dRunner_execute_232) hS (fun r232 h232 H locs hw hP hS => ?_)
                    exact zr_iret S hr hlk hK hP hS rfl hw dRunner_execute_235
                  · have hw := hw.2 c7
                    by_cases c8 : (h31 5 (Int32.toNatClampNeg r14)) = 8
                    · have hw := hw.1 c8
                      refine lv_tableIn (off := 191) S.1 S.2.1 dRunner_execute_45 (by rw [c8]; decide) (by rw [c8]; decide) (by rw [c8]; rfl) rfl ?_
                      refine lv_aload_n S.1 S.2.1 dRunner_execute_236 rfl (lv_at hl 3 rfl) ?_
                      refine lv_iload_n S.1 S.2.1 dRunner_execute_237 rfl (lv_at hl 5 rfl) ?_
                      refine lv_aload_n S.1 S.2.1 dRunner_execute_238 rfl (lv_at hl 3 rfl) ?_
                      refine zr_get S hK hP (zk (by decide)) (zF_12 _) fRunner_heap q125 rfl dRunner_execute_239 ?_
                      refine lv_iload S.1 S.2.1 dRunner_execute_242 (lv_at hl 1 rfl) ?_
                      refine zr_i (zr_V (As := [.int r22]) (rest := [.int x2, .ref (ad 12)]) S hK hT hN hP hS (zk (by decide)) (zF_15 _) rfl (cHeap_chainLength l D cI cC cE ad n ln A hJ _ _ _ hw) caRunner_124 ⟨Nat.le_of_ble_eq_true rfl, Nat.le_of_ble_eq_true rfl⟩ ⟨rfl, rfl⟩ rfl hl.1 rfl (Nat.le_of_ble_eq_true rfl) dRunner_execute_244) hS (fun r244 h244 H locs hw hP hS => ?_)
                      refine zr_i (zr_V (As := [.int x2, .int r244]) (rest := []) S hK hT hN hP hS (zk (by decide)) (zF_12 _) rfl (cRunner_give l D cI cC cE ad n ln A hJ _ _ _ _ hw) caRunner_109 ⟨Nat.le_of_ble_eq_true rfl, Nat.le_of_ble_eq_true rfl⟩ ⟨rfl, rfl⟩ rfl hl.1 rfl (Nat.le_of_ble_eq_true rfl) dRunner_execute_247) hS (fun r247 h247 H locs hw hP hS => ?_)
                      exact zr_iret S hr hlk hK hP hS rfl hw dRunner_execute_250
                    · have hw := hw.2 c8
                      refine lv_tableOut S.1 S.2.1 dRunner_execute_45 (by have n0 := lv_neT c0 (show (0 : Int32).toInt = 0 from by decide); have n1 := lv_neT c1 (show (1 : Int32).toInt = 1 from by decide); have n2 := lv_neT c2 (show (2 : Int32).toInt = 2 from by decide); have n3 := lv_neT c3 (show (3 : Int32).toInt = 3 from by decide); have n4 := lv_neT c4 (show (4 : Int32).toInt = 4 from by decide); have n5 := lv_neT c5 (show (5 : Int32).toInt = 5 from by decide); have n6 := lv_neT c6 (show (6 : Int32).toInt = 6 from by decide); have n7 := lv_neT c7 (show (7 : Int32).toInt = 7 from by decide); have n8 := lv_neT c8 (show (8 : Int32).toInt = 8 from by decide); omega) rfl ?_
                      refine lv_aload_n S.1 S.2.1 dRunner_execute_251 rfl (lv_at hl 3 rfl) ?_
                      refine lv_iload_n S.1 S.2.1 dRunner_execute_252 rfl (lv_at hl 5 rfl) ?_
                      refine lv_iload S.1 S.2.1 dRunner_execute_253 (lv_at hl 0 rfl) ?_
                      refine lv_iconst (v := (-1)) S.1 S.2.1 dRunner_execute_255 (by decide) ?_
                      refine lv_icmp_eq S.1 S.2.1 dRunner_execute_256 rfl (fun hc => ?_) (fun hc => ?_)
                      · have hw := hw.1 hc
                        exact J277 _ _ _ _ _ hw (lv_sub hl [] rfl) hP hS
                      · have hw := hw.2 hc
                        refine lv_aload_n S.1 S.2.1 dRunner_execute_259 rfl (lv_at hl 3 rfl) ?_
                        refine zr_get S hK hP (zk (by decide)) (zF_12 _) fRunner_heap q125 rfl dRunner_execute_260 ?_
                        refine lv_iload S.1 S.2.1 dRunner_execute_263 (lv_at hl 1 rfl) ?_
                        refine lv_iload S.1 S.2.1 dRunner_execute_265 (lv_at hl 0 rfl) ?_
                        refine zr_i (zr_V (As := [.int r22, .int r31]) (rest := [.int x2, .ref (ad 12)]) S hK hT hN hP hS (zk (by decide)) (zF_15 _) rfl (cHeap_equal l D cI cC cE ad n ln A hJ _ _ _ _ hw) caRunner_127 ⟨Nat.le_of_ble_eq_true rfl, Nat.le_of_ble_eq_true rfl⟩ ⟨rfl, rfl⟩ rfl hl.1 rfl (Nat.le_of_ble_eq_true rfl) dRunner_execute_267) hS (fun r267 h267 H locs hw hP hS => ?_)
                        refine lv_if_eq S.1 S.2.1 dRunner_execute_270 rfl (fun hc => ?_) (fun hc => ?_)
                        · have hw := hw.1 hc
                          exact J277 _ _ _ _ _ hw (lv_sub hl [] rfl) hP hS
                        · have hw := hw.2 hc
                          refine lv_iconst (v := 1) S.1 S.2.1 dRunner_execute_273 (by decide) ?_
                          refine lv_goto S.1 S.2.1 dRunner_execute_274 rfl ?_
                          exact J278 _ _ _ _ _ _ hw (lv_sub hl [] rfl) hP hS
  · have hw := hw.2 hc
    refine lv_iconst (v := 5) S.1 S.2.1 dRunner_execute_10 (by decide) ?_
    exact zr_iret S hr hlk hK hP hS rfl hw dRunner_execute_11
/-! Runner.keepRow -/
theorem dRunner_keepRow_0 : decode bRunner_keepRow 0 = .ok (.iload_n 1, 1) := by decide +kernel
theorem dRunner_keepRow_1 : decode bRunner_keepRow 1 = .ok (.istore_n 2, 1) := by decide +kernel
theorem dRunner_keepRow_2 : decode bRunner_keepRow 2 = .ok (.iconst 0, 1) := by decide +kernel
theorem dRunner_keepRow_3 : decode bRunner_keepRow 3 = .ok (.istore_n 3, 1) := by decide +kernel
theorem dRunner_keepRow_4 : decode bRunner_keepRow 4 = .ok (.iload_n 3, 1) := by decide +kernel
theorem dRunner_keepRow_5 : decode bRunner_keepRow 5 = .ok (.bipush 10, 2) := by decide +kernel
theorem dRunner_keepRow_7 : decode bRunner_keepRow 7 = .ok (.if_icmp .ge 72, 3) := by decide +kernel
theorem dRunner_keepRow_10 : decode bRunner_keepRow 10 = .ok (.iload_n 2, 1) := by decide +kernel
theorem dRunner_keepRow_11 : decode bRunner_keepRow 11 = .ok (.iconst (-1), 1) := by decide +kernel
theorem dRunner_keepRow_12 : decode bRunner_keepRow 12 = .ok (.if_icmp .eq 67, 3) := by decide +kernel
theorem dRunner_keepRow_15 : decode bRunner_keepRow 15 = .ok (.aload_n 0, 1) := by decide +kernel
theorem dRunner_keepRow_16 : decode bRunner_keepRow 16 = .ok (.getfield 15, 3) := by decide +kernel
theorem dRunner_keepRow_19 : decode bRunner_keepRow 19 = .ok (.aload_n 0, 1) := by decide +kernel
theorem dRunner_keepRow_20 : decode bRunner_keepRow 20 = .ok (.getfield 41, 3) := by decide +kernel
theorem dRunner_keepRow_23 : decode bRunner_keepRow 23 = .ok (.aload_n 0, 1) := by decide +kernel
theorem dRunner_keepRow_24 : decode bRunner_keepRow 24 = .ok (.getfield 27, 3) := by decide +kernel
theorem dRunner_keepRow_27 : decode bRunner_keepRow 27 = .ok (.getfield 141, 3) := by decide +kernel
theorem dRunner_keepRow_30 : decode bRunner_keepRow 30 = .ok (.iload_n 2, 1) := by decide +kernel
theorem dRunner_keepRow_31 : decode bRunner_keepRow 31 = .ok (.iaload, 1) := by decide +kernel
theorem dRunner_keepRow_32 : decode bRunner_keepRow 32 = .ok (.iastore, 1) := by decide +kernel
theorem dRunner_keepRow_33 : decode bRunner_keepRow 33 = .ok (.aload_n 0, 1) := by decide +kernel
theorem dRunner_keepRow_34 : decode bRunner_keepRow 34 = .ok (.getfield 15, 3) := by decide +kernel
theorem dRunner_keepRow_37 : decode bRunner_keepRow 37 = .ok (.aload_n 0, 1) := by decide +kernel
theorem dRunner_keepRow_38 : decode bRunner_keepRow 38 = .ok (.getfield 41, 3) := by decide +kernel
theorem dRunner_keepRow_41 : decode bRunner_keepRow 41 = .ok (.iconst 1, 1) := by decide +kernel
theorem dRunner_keepRow_42 : decode bRunner_keepRow 42 = .ok (.iadd, 1) := by decide +kernel
theorem dRunner_keepRow_43 : decode bRunner_keepRow 43 = .ok (.aload_n 0, 1) := by decide +kernel
theorem dRunner_keepRow_44 : decode bRunner_keepRow 44 = .ok (.getfield 27, 3) := by decide +kernel
theorem dRunner_keepRow_47 : decode bRunner_keepRow 47 = .ok (.getfield 105, 3) := by decide +kernel
theorem dRunner_keepRow_50 : decode bRunner_keepRow 50 = .ok (.iload_n 2, 1) := by decide +kernel
theorem dRunner_keepRow_51 : decode bRunner_keepRow 51 = .ok (.iaload, 1) := by decide +kernel
theorem dRunner_keepRow_52 : decode bRunner_keepRow 52 = .ok (.iastore, 1) := by decide +kernel
theorem dRunner_keepRow_53 : decode bRunner_keepRow 53 = .ok (.aload_n 0, 1) := by decide +kernel
theorem dRunner_keepRow_54 : decode bRunner_keepRow 54 = .ok (.dup, 1) := by decide +kernel
theorem dRunner_keepRow_55 : decode bRunner_keepRow 55 = .ok (.getfield 41, 3) := by decide +kernel
theorem dRunner_keepRow_58 : decode bRunner_keepRow 58 = .ok (.iconst 2, 1) := by decide +kernel
theorem dRunner_keepRow_59 : decode bRunner_keepRow 59 = .ok (.iadd, 1) := by decide +kernel
theorem dRunner_keepRow_60 : decode bRunner_keepRow 60 = .ok (.putfield 41, 3) := by decide +kernel
theorem dRunner_keepRow_63 : decode bRunner_keepRow 63 = .ok (.aload_n 0, 1) := by decide +kernel
theorem dRunner_keepRow_64 : decode bRunner_keepRow 64 = .ok (.getfield 27, 3) := by decide +kernel
theorem dRunner_keepRow_67 : decode bRunner_keepRow 67 = .ok (.getfield 138, 3) := by decide +kernel
theorem dRunner_keepRow_70 : decode bRunner_keepRow 70 = .ok (.iload_n 2, 1) := by decide +kernel
theorem dRunner_keepRow_71 : decode bRunner_keepRow 71 = .ok (.iaload, 1) := by decide +kernel
theorem dRunner_keepRow_72 : decode bRunner_keepRow 72 = .ok (.istore_n 2, 1) := by decide +kernel
theorem dRunner_keepRow_73 : decode bRunner_keepRow 73 = .ok (.iinc 3 1, 3) := by decide +kernel
theorem dRunner_keepRow_76 : decode bRunner_keepRow 76 = .ok (.goto (-72), 3) := by decide +kernel
theorem dRunner_keepRow_79 : decode bRunner_keepRow 79 = .ok (.return_, 1) := by decide +kernel
def stRunner_keepRow_4 (n : Nat) (ln : Nat → Nat) (post : zM → Prop) (L4 : (Int32 × Int32 × zM) → Prop) : (Int32 × Int32 × zM) → Prop := fun s => match s with
  | (v2, v3, h) => (((10 ≤ v3) → post h) ∧ (¬ (10 ≤ v3) → ((v2 = (-1) → post h) ∧ (¬ v2 = (-1) → (vp_in v2 10 ∧ (vp_in (h 12 7) 20 ∧ ∀ h32 : zM, h32 = zu h 14 (Int32.toNatClampNeg (h 12 7)) (h 16 (Int32.toNatClampNeg v2)) → (vp_in v2 10 ∧ (vp_in ((h32 12 7) + 1) 20 ∧ ∀ h52 : zM, h52 = zu h32 14 (Int32.toNatClampNeg ((h32 12 7) + 1)) (h32 17 (Int32.toNatClampNeg v2)) → ∀ h60 : zM, h60 = zu h52 12 7 ((h52 12 7) + 2) → (vp_in v2 10 ∧ ∀ y72 : Int32, y72 = (h60 18 (Int32.toNatClampNeg v2)) → L4 (y72, (v3 + 1), h60))))))))))
def wpRunner_keepRow (n : Nat) (ln : Nat → Nat) (x1 : Int32) (h : zM) (post : zM → Prop) : Prop := zL (stRunner_keepRow_4 n ln post) (x1, 0, h)
abbrev rmRunner_keepRow : Room := { frames := 0, cells := 0, slots := 0, locals := 0 }
set_option maxHeartbeats 4000000 in
set_option maxRecDepth 100000 in
theorem cRunner_keepRow (l : Launch) (D : va_G) (cI cC cE : ClassId) (ad : Nat → Nat) (n : Nat) (ln : Nat → Nat) (A : Nat → Prop) (hJ : zJ A (34 + 4 * n) ad) (x1 : Int32) (h : zM) (post : zM → Prop) (hw : wpRunner_keepRow n ln x1 h post) : Met l yRunner_keepRow (.code yRunner_keepRow bRunner_keepRow 4 none :: zt) rmRunner_keepRow (va_Pc [.ref (ad 12), .int x1] (zPre D (zty cI cC cE) (34 + 4 * n) ad (zF ad cI cC cE n ln) A h)) (va_Qv post (zPst D (zty cI cC cE) (34 + 4 * n) ad (zF ad cI cC cE n ln)) A) 0 0 A := by
  refine Met.ofW (cc := bRunner_keepRow) (maxL := 4) (ret := none) (by decide) rfl ?_
  intro p e s m args below meth c s₁ B hml hv
  obtain ⟨rfl, hP, hK, hT, hN⟩ := hv
  have hr := B.returns
  have hlk := B.notSynchronized
  have S : zS p m c bRunner_keepRow 4 s _ "CallExplorer$Runner" := ⟨B.exec, B.bytes, hml, findClass_of_methodNamed B.named, fun w hw => atoms_spec (ws := .code yRunner_keepRow bRunner_keepRow 4 none :: zt) B.pre w (List.mem_cons_of_mem _ hw)⟩
  have hS : va_S A s.heap s.heap [] := va_S.rf
  have hl := lv_entry ([.ref (ad 12), .int x1]) (n := 4) (Nat.le_of_ble_eq_true rfl)
  rw [lg_entry_eq]
  generalize (lg_sl ([.ref (ad 12), .int x1]) ++ List.replicate (4 - (lg_sl ([.ref (ad 12), .int x1])).length) Slot.unset).toArray = ls at hl ⊢
  have hl : lv_has ls 4 [(0, .ref (ad 12)), (1, .int x1)] := hl
  show W p l e rmRunner_keepRow s m ([.ref (ad 12), .int x1] : List Value).toArray below meth c s.heap [] 0 0 (zQv post D (zty cI cC cE) (34 + 4 * n) ad (zF ad cI cC cE n ln) A below ([.ref (ad 12), .int x1] : List Value).toArray s) _
  have J4 : ∀ (fu : Nat) (v2 : Int32) (v3 : Int32) (h : zM) (H : Heap) (locs : List Loc) (ls : Array Slot), zl (stRunner_keepRow_4 n ln post) fu (v2, v3, h) → lv_has ls 4 [(0, .ref (ad 12)), (2, .int v2), (3, .int v3)] → va_P D zcl (zW (34 + 4 * n) ad (zF ad cI cC cE n ln) h) H → va_S A s.heap H locs → W p l e rmRunner_keepRow s m ([.ref (ad 12), .int x1] : List Value).toArray below meth c H locs 0 0 (zQv post D (zty cI cC cE) (34 + 4 * n) ad (zF ad cI cC cE n ln) A below ([.ref (ad 12), .int x1] : List Value).toArray s) (F0 m 4 ls []) := by
    intro fu4
    induction fu4 with
    | zero =>
      intro v2 v3 h H locs ls hw
      exact (zl_0 hw).elim
    | succ fu4 ih4 =>
      intro v2 v3 h H locs ls hw hl hP hS
      have hw := zl_s hw
      generalize zl (stRunner_keepRow_4 n ln post) fu4 = L4 at hw ih4
      unfold stRunner_keepRow_4 at hw
      dsimp only at hw
      refine lv_iload_n S.1 S.2.1 dRunner_keepRow_4 rfl (lv_at hl 2 rfl) ?_
      refine lv_bipush (v := 10) S.1 S.2.1 dRunner_keepRow_5 (by decide) ?_
      refine lv_icmp_ge S.1 S.2.1 dRunner_keepRow_7 rfl (fun hc => ?_) (fun hc => ?_)
      · have hw := hw.1 hc
        exact zr_vret S hr hlk hK hP hS hw dRunner_keepRow_79
      · have hw := hw.2 hc
        refine lv_iload_n S.1 S.2.1 dRunner_keepRow_10 rfl (lv_at hl 1 rfl) ?_
        refine lv_iconst (v := (-1)) S.1 S.2.1 dRunner_keepRow_11 (by decide) ?_
        refine lv_icmp_eq S.1 S.2.1 dRunner_keepRow_12 rfl (fun hc => ?_) (fun hc => ?_)
        · have hw := hw.1 hc
          exact zr_vret S hr hlk hK hP hS hw dRunner_keepRow_79
        · have hw := hw.2 hc
          refine lv_aload_n S.1 S.2.1 dRunner_keepRow_15 rfl (lv_at hl 0 rfl) ?_
          refine zr_get S hK hP (zk (by decide)) (zF_12 _) fRunner_row q144 rfl dRunner_keepRow_16 ?_
          refine lv_aload_n S.1 S.2.1 dRunner_keepRow_19 rfl (lv_at hl 0 rfl) ?_
          refine zr_get S hK hP (zk (by decide)) (zF_12 _) fRunner_rowLength q143 rfl dRunner_keepRow_20 ?_
          refine lv_aload_n S.1 S.2.1 dRunner_keepRow_23 rfl (lv_at hl 0 rfl) ?_
          refine zr_get S hK hP (zk (by decide)) (zF_12 _) fRunner_heap q125 rfl dRunner_keepRow_24 ?_
          refine zr_get S hK hP (zk (by decide)) (zF_15 _) fHeap_classes q108 rfl dRunner_keepRow_27 ?_
          refine lv_iload_n S.1 S.2.1 dRunner_keepRow_30 rfl (lv_at hl 1 rfl) ?_
          obtain ⟨z31, hw⟩ := hw
          refine zr_ald S hK hP (zk (by decide)) (zF_16 _) 0 rfl z31 dRunner_keepRow_31 ?_
          obtain ⟨z32, hw⟩ := hw
          refine zr_ast S hK hJ hP hS (zk (by decide)) zF_14 0 rfl z32 dRunner_keepRow_32 (fun h32 H locs e32 hP hS => ?_)
          have hw := hw h32 e32
          refine lv_aload_n S.1 S.2.1 dRunner_keepRow_33 rfl (lv_at hl 0 rfl) ?_
          refine zr_get S hK hP (zk (by decide)) (zF_12 _) fRunner_row q144 rfl dRunner_keepRow_34 ?_
          refine lv_aload_n S.1 S.2.1 dRunner_keepRow_37 rfl (lv_at hl 0 rfl) ?_
          refine zr_get S hK hP (zk (by decide)) (zF_12 _) fRunner_rowLength q143 rfl dRunner_keepRow_38 ?_
          refine lv_iconst (v := 1) S.1 S.2.1 dRunner_keepRow_41 (by decide) ?_
          refine lv_iadd S.1 S.2.1 dRunner_keepRow_42 ?_
          refine lv_aload_n S.1 S.2.1 dRunner_keepRow_43 rfl (lv_at hl 0 rfl) ?_
          refine zr_get S hK hP (zk (by decide)) (zF_12 _) fRunner_heap q125 rfl dRunner_keepRow_44 ?_
          refine zr_get S hK hP (zk (by decide)) (zF_15 _) fHeap_values q110 rfl dRunner_keepRow_47 ?_
          refine lv_iload_n S.1 S.2.1 dRunner_keepRow_50 rfl (lv_at hl 1 rfl) ?_
          obtain ⟨z51, hw⟩ := hw
          refine zr_ald S hK hP (zk (by decide)) (zF_17 _) 0 rfl z51 dRunner_keepRow_51 ?_
          obtain ⟨z52, hw⟩ := hw
          refine zr_ast S hK hJ hP hS (zk (by decide)) zF_14 0 rfl z52 dRunner_keepRow_52 (fun h52 H locs e52 hP hS => ?_)
          have hw := hw h52 e52
          refine lv_aload_n S.1 S.2.1 dRunner_keepRow_53 rfl (lv_at hl 0 rfl) ?_
          refine lv_dup S.1 S.2.1 dRunner_keepRow_54 rfl ?_
          refine zr_get S hK hP (zk (by decide)) (zF_12 _) fRunner_rowLength q143 rfl dRunner_keepRow_55 ?_
          refine lv_iconst (v := 2) S.1 S.2.1 dRunner_keepRow_58 (by decide) ?_
          refine lv_iadd S.1 S.2.1 dRunner_keepRow_59 ?_
          refine zr_put S hK hJ hP hS (zk (by decide)) (zF_12 _) fRunner_rowLength q143 rfl rfl (Nat.le_of_ble_eq_true rfl) (zF_12 _) dRunner_keepRow_60 (fun h60 H locs e60 hP hS => ?_)
          have hw := hw h60 e60
          refine lv_aload_n S.1 S.2.1 dRunner_keepRow_63 rfl (lv_at hl 0 rfl) ?_
          refine zr_get S hK hP (zk (by decide)) (zF_12 _) fRunner_heap q125 rfl dRunner_keepRow_64 ?_
          refine zr_get S hK hP (zk (by decide)) (zF_15 _) fHeap_nexts q112 rfl dRunner_keepRow_67 ?_
          refine lv_iload_n S.1 S.2.1 dRunner_keepRow_70 rfl (lv_at hl 1 rfl) ?_
          obtain ⟨z71, hw⟩ := hw
          refine zr_ald S hK hP (zk (by decide)) (zF_18 _) 0 rfl z71 dRunner_keepRow_71 ?_
          refine lv_topi (fun y72 e72 => ?_)
          have hw := hw y72 e72
          refine lv_istore_n (lv' := [(2, .int y72), (0, .ref (ad 12)), (3, .int v3)]) S.1 S.2.1 dRunner_keepRow_72 rfl hl (by decide) rfl (fun ls hl => ?_)
          refine lv_iinc (v := (v3 + 1)) (lv' := [(3, .int (v3 + 1)), (2, .int y72), (0, .ref (ad 12))]) (k := 2) S.1 S.2.1 dRunner_keepRow_73 hl rfl rfl (by decide) rfl (fun ls hl => ?_)
          refine lv_goto S.1 S.2.1 dRunner_keepRow_76 rfl ?_
          exact ih4 _ _ _ _ _ _ hw (lv_sub hl [2, 1, 0] rfl) hP hS
  unfold wpRunner_keepRow at hw
  refine lv_iload_n S.1 S.2.1 dRunner_keepRow_0 rfl (lv_at hl 1 rfl) ?_
  refine lv_istore_n (lv' := [(2, .int x1), (0, .ref (ad 12)), (1, .int x1)]) S.1 S.2.1 dRunner_keepRow_1 rfl hl (by decide) rfl (fun ls hl => ?_)
  refine lv_iconst (v := 0) S.1 S.2.1 dRunner_keepRow_2 (by decide) ?_
  refine lv_istore_n (lv' := [(3, .int 0), (2, .int x1), (0, .ref (ad 12)), (1, .int x1)]) S.1 S.2.1 dRunner_keepRow_3 rfl hl (by decide) rfl (fun ls hl => ?_)
  obtain ⟨fu, hw⟩ := hw
  exact J4 fu _ _ _ _ _ _ hw (lv_sub hl [2, 1, 0] rfl) hP hS
/-! Runner.keepResult -/
theorem dRunner_keepResult_0 : decode bRunner_keepResult 0 = .ok (.aload_n 1, 1) := by decide +kernel
theorem dRunner_keepResult_1 : decode bRunner_keepResult 1 = .ok (.getfield 44, 3) := by decide +kernel
theorem dRunner_keepResult_4 : decode bRunner_keepResult 4 = .ok (.iconst 1, 1) := by decide +kernel
theorem dRunner_keepResult_5 : decode bRunner_keepResult 5 = .ok (.isub, 1) := by decide +kernel
theorem dRunner_keepResult_6 : decode bRunner_keepResult 6 = .ok (.istore_n 2, 1) := by decide +kernel
theorem dRunner_keepResult_7 : decode bRunner_keepResult 7 = .ok (.iload_n 2, 1) := by decide +kernel
theorem dRunner_keepResult_8 : decode bRunner_keepResult 8 = .ok (.ifCond .ge 4, 3) := by decide +kernel
theorem dRunner_keepResult_11 : decode bRunner_keepResult 11 = .ok (.return_, 1) := by decide +kernel
theorem dRunner_keepResult_12 : decode bRunner_keepResult 12 = .ok (.aload_n 0, 1) := by decide +kernel
theorem dRunner_keepResult_13 : decode bRunner_keepResult 13 = .ok (.getfield 18, 3) := by decide +kernel
theorem dRunner_keepResult_16 : decode bRunner_keepResult 16 = .ok (.getfield 98, 3) := by decide +kernel
theorem dRunner_keepResult_19 : decode bRunner_keepResult 19 = .ok (.aload_n 1, 1) := by decide +kernel
theorem dRunner_keepResult_20 : decode bRunner_keepResult 20 = .ok (.iload_n 2, 1) := by decide +kernel
theorem dRunner_keepResult_21 : decode bRunner_keepResult 21 = .ok (.invokevirtual 75, 3) := by decide +kernel
theorem dRunner_keepResult_24 : decode bRunner_keepResult 24 = .ok (.iaload, 1) := by decide +kernel
theorem dRunner_keepResult_25 : decode bRunner_keepResult 25 = .ok (.ifCond .ne 19, 3) := by decide +kernel
theorem dRunner_keepResult_28 : decode bRunner_keepResult 28 = .ok (.aload_n 0, 1) := by decide +kernel
theorem dRunner_keepResult_29 : decode bRunner_keepResult 29 = .ok (.iconst 1, 1) := by decide +kernel
theorem dRunner_keepResult_30 : decode bRunner_keepResult 30 = .ok (.putfield 35, 3) := by decide +kernel
theorem dRunner_keepResult_33 : decode bRunner_keepResult 33 = .ok (.aload_n 0, 1) := by decide +kernel
theorem dRunner_keepResult_34 : decode bRunner_keepResult 34 = .ok (.aload_n 0, 1) := by decide +kernel
theorem dRunner_keepResult_35 : decode bRunner_keepResult 35 = .ok (.getfield 9, 3) := by decide +kernel
theorem dRunner_keepResult_38 : decode bRunner_keepResult 38 = .ok (.iload_n 2, 1) := by decide +kernel
theorem dRunner_keepResult_39 : decode bRunner_keepResult 39 = .ok (.iaload, 1) := by decide +kernel
theorem dRunner_keepResult_40 : decode bRunner_keepResult 40 = .ok (.putfield 38, 3) := by decide +kernel
theorem dRunner_keepResult_43 : decode bRunner_keepResult 43 = .ok (.return_, 1) := by decide +kernel
theorem dRunner_keepResult_44 : decode bRunner_keepResult 44 = .ok (.aload_n 0, 1) := by decide +kernel
theorem dRunner_keepResult_45 : decode bRunner_keepResult 45 = .ok (.aload_n 0, 1) := by decide +kernel
theorem dRunner_keepResult_46 : decode bRunner_keepResult 46 = .ok (.getfield 9, 3) := by decide +kernel
theorem dRunner_keepResult_49 : decode bRunner_keepResult 49 = .ok (.iload_n 2, 1) := by decide +kernel
theorem dRunner_keepResult_50 : decode bRunner_keepResult 50 = .ok (.iaload, 1) := by decide +kernel
theorem dRunner_keepResult_51 : decode bRunner_keepResult 51 = .ok (.iconst (-1), 1) := by decide +kernel
theorem dRunner_keepResult_52 : decode bRunner_keepResult 52 = .ok (.if_icmp .ne 7, 3) := by decide +kernel
theorem dRunner_keepResult_55 : decode bRunner_keepResult 55 = .ok (.iconst 2, 1) := by decide +kernel
theorem dRunner_keepResult_56 : decode bRunner_keepResult 56 = .ok (.goto 4, 3) := by decide +kernel
theorem dRunner_keepResult_59 : decode bRunner_keepResult 59 = .ok (.iconst 3, 1) := by decide +kernel
theorem dRunner_keepResult_60 : decode bRunner_keepResult 60 = .ok (.putfield 35, 3) := by decide +kernel
theorem dRunner_keepResult_63 : decode bRunner_keepResult 63 = .ok (.aload_n 0, 1) := by decide +kernel
theorem dRunner_keepResult_64 : decode bRunner_keepResult 64 = .ok (.aload_n 0, 1) := by decide +kernel
theorem dRunner_keepResult_65 : decode bRunner_keepResult 65 = .ok (.getfield 9, 3) := by decide +kernel
theorem dRunner_keepResult_68 : decode bRunner_keepResult 68 = .ok (.iload_n 2, 1) := by decide +kernel
theorem dRunner_keepResult_69 : decode bRunner_keepResult 69 = .ok (.iaload, 1) := by decide +kernel
theorem dRunner_keepResult_70 : decode bRunner_keepResult 70 = .ok (.invokevirtual 151, 3) := by decide +kernel
theorem dRunner_keepResult_73 : decode bRunner_keepResult 73 = .ok (.return_, 1) := by decide +kernel
def wbRunner_keepResult_60 (n : Nat) (ln : Nat → Nat) (o1 : Nat) (post : zM → Prop) (v2 : Int32) (k1 : Int32) (h : zM) : Prop := ∀ h60 : zM, h60 = zu h 12 5 k1 → (vp_in v2 10 ∧ wpRunner_keepRow n ln (h60 13 (Int32.toNatClampNeg v2)) h60 (fun h70 => post h70))
def wpRunner_keepResult (n : Nat) (ln : Nat → Nat) (o1 : Nat) (h : zM) (post : zM → Prop) : Prop := ∀ y6 : Int32, y6 = ((h o1 0) - 1) → (((0 ≤ y6) → wpSequence_operationOf o1 y6 h (fun r21 h21 => (vp_in r21 10 ∧ ((¬ (h21 8 (Int32.toNatClampNeg r21)) = 0 → (vp_in y6 10 ∧ ((¬ (h21 13 (Int32.toNatClampNeg y6)) = (-1) → wbRunner_keepResult_60 n ln o1 post y6 3 h21) ∧ ((h21 13 (Int32.toNatClampNeg y6)) = (-1) → wbRunner_keepResult_60 n ln o1 post y6 2 h21)))) ∧ ((h21 8 (Int32.toNatClampNeg r21)) = 0 → ∀ h30 : zM, h30 = zu h21 12 5 1 → (vp_in y6 10 ∧ ∀ h40 : zM, h40 = zu h30 12 6 (h30 13 (Int32.toNatClampNeg y6)) → post h40)))))) ∧ (¬ (0 ≤ y6) → post h))
abbrev rmRunner_keepResult : Room := { frames := 1, cells := 0, slots := 0, locals := 23 }
set_option maxHeartbeats 4000000 in
set_option maxRecDepth 100000 in
theorem cRunner_keepResult (l : Launch) (D : va_G) (cI cC cE : ClassId) (ad : Nat → Nat) (n : Nat) (ln : Nat → Nat) (A : Nat → Prop) (hJ : zJ A (34 + 4 * n) ad) (o1 : Nat) (hq1 : zSeq (34 + 4 * n) ad (zF ad cI cC cE n ln) cI o1) (h : zM) (post : zM → Prop) (hw : wpRunner_keepResult n ln o1 h post) : Met l yRunner_keepResult (.code yRunner_keepResult bRunner_keepResult 3 none :: zt) rmRunner_keepResult (va_Pc [.ref (ad 12), .ref (ad o1)] (zPre D (zty cI cC cE) (34 + 4 * n) ad (zF ad cI cC cE n ln) A h)) (va_Qv post (zPst D (zty cI cC cE) (34 + 4 * n) ad (zF ad cI cC cE n ln)) A) 0 0 A := by
  refine Met.ofW (cc := bRunner_keepResult) (maxL := 3) (ret := none) (by decide) rfl ?_
  intro p e s m args below meth c s₁ B hml hv
  obtain ⟨rfl, hP, hK, hT, hN⟩ := hv
  have hr := B.returns
  have hlk := B.notSynchronized
  have S : zS p m c bRunner_keepResult 3 s _ "CallExplorer$Runner" := ⟨B.exec, B.bytes, hml, findClass_of_methodNamed B.named, fun w hw => atoms_spec (ws := .code yRunner_keepResult bRunner_keepResult 3 none :: zt) B.pre w (List.mem_cons_of_mem _ hw)⟩
  have hS : va_S A s.heap s.heap [] := va_S.rf
  have hl := lv_entry ([.ref (ad 12), .ref (ad o1)]) (n := 3) (Nat.le_of_ble_eq_true rfl)
  rw [lg_entry_eq]
  generalize (lg_sl ([.ref (ad 12), .ref (ad o1)]) ++ List.replicate (3 - (lg_sl ([.ref (ad 12), .ref (ad o1)])).length) Slot.unset).toArray = ls at hl ⊢
  have hl : lv_has ls 3 [(0, .ref (ad 12)), (1, .ref (ad o1))] := hl
  show W p l e rmRunner_keepResult s m ([.ref (ad 12), .ref (ad o1)] : List Value).toArray below meth c s.heap [] 0 0 (zQv post D (zty cI cC cE) (34 + 4 * n) ad (zF ad cI cC cE n ln) A below ([.ref (ad 12), .ref (ad o1)] : List Value).toArray s) _
  have J60 : ∀ (v2 : Int32) (k1 : Int32) (h : zM) (H : Heap) (locs : List Loc) (ls : Array Slot), wbRunner_keepResult_60 n ln o1 post v2 k1 h → lv_has ls 3 [(0, .ref (ad 12)), (2, .int v2)] → va_P D zcl (zW (34 + 4 * n) ad (zF ad cI cC cE n ln) h) H → va_S A s.heap H locs → W p l e rmRunner_keepResult s m ([.ref (ad 12), .ref (ad o1)] : List Value).toArray below meth c H locs 0 0 (zQv post D (zty cI cC cE) (34 + 4 * n) ad (zF ad cI cC cE n ln) A below ([.ref (ad 12), .ref (ad o1)] : List Value).toArray s) (F0 m 60 ls [.int k1, .ref (ad 12)]) := by
    intro v2 k1 h H locs ls hw hl hP hS
    unfold wbRunner_keepResult_60 at hw
    refine zr_put S hK hJ hP hS (zk (by decide)) (zF_12 _) fRunner_gave q137 rfl rfl (Nat.le_of_ble_eq_true rfl) (zF_12 _) dRunner_keepResult_60 (fun h60 H locs e60 hP hS => ?_)
    have hw := hw h60 e60
    refine lv_aload_n S.1 S.2.1 dRunner_keepResult_63 rfl (lv_at hl 0 rfl) ?_
    refine lv_aload_n S.1 S.2.1 dRunner_keepResult_64 rfl (lv_at hl 0 rfl) ?_
    refine zr_get S hK hP (zk (by decide)) (zF_12 _) fRunner_results q126 rfl dRunner_keepResult_65 ?_
    refine lv_iload_n S.1 S.2.1 dRunner_keepResult_68 rfl (lv_at hl 1 rfl) ?_
    obtain ⟨z69, hw⟩ := hw
    refine zr_ald S hK hP (zk (by decide)) (zF_13 _) 0 rfl z69 dRunner_keepResult_69 ?_
    refine zr_v (zr_V (As := [.int (h60 13 (Int32.toNatClampNeg v2))]) (rest := []) S hK hT hN hP hS (zk (by decide)) (zF_12 _) rfl (cRunner_keepRow l D cI cC cE ad n ln A hJ _ _ _ hw) caRunner_151 ⟨Nat.le_of_ble_eq_true rfl, Nat.le_of_ble_eq_true rfl⟩ ⟨rfl, rfl⟩ rfl hl.1 rfl (Nat.le_of_ble_eq_true rfl) dRunner_keepResult_70) hS (fun h70 H locs hw hP hS => ?_)
    exact zr_vret S hr hlk hK hP hS hw dRunner_keepResult_73
  unfold wpRunner_keepResult at hw
  refine lv_aload_n S.1 S.2.1 dRunner_keepResult_0 rfl (lv_at hl 1 rfl) ?_
  refine zr_get S hK hP (Nat.lt_of_succ_lt (hq1).1) ((hq1).2.1 _) fSequence_size q179 rfl dRunner_keepResult_1 ?_
  refine lv_iconst (v := 1) S.1 S.2.1 dRunner_keepResult_4 (by decide) ?_
  refine lv_isub S.1 S.2.1 dRunner_keepResult_5 ?_
  refine lv_topi (fun y6 e6 => ?_)
  have hw := hw y6 e6
  refine lv_istore_n (lv' := [(2, .int y6), (0, .ref (ad 12)), (1, .ref (ad o1))]) S.1 S.2.1 dRunner_keepResult_6 rfl hl (by decide) rfl (fun ls hl => ?_)
  refine lv_iload_n S.1 S.2.1 dRunner_keepResult_7 rfl (lv_at hl 0 rfl) ?_
  refine lv_if_ge S.1 S.2.1 dRunner_keepResult_8 rfl (fun hc => ?_) (fun hc => ?_)
  · have hw := hw.1 hc
    refine lv_aload_n S.1 S.2.1 dRunner_keepResult_12 rfl (lv_at hl 1 rfl) ?_
    refine zr_get S hK hP (zk (by decide)) (zF_12 _) fRunner_catalog q124 rfl dRunner_keepResult_13 ?_
    refine zr_get S hK hP (zk (by decide)) (zF_1 _) fCatalog_resultTypes q46 rfl dRunner_keepResult_16 ?_
    refine lv_aload_n S.1 S.2.1 dRunner_keepResult_19 rfl (lv_at hl 2 rfl) ?_
    refine lv_iload_n S.1 S.2.1 dRunner_keepResult_20 rfl (lv_at hl 0 rfl) ?_
    refine zr_i (zr_V (As := [.int y6]) (rest := [.ref (ad 8)]) S hK hT hN hP hS (Nat.lt_of_succ_lt (hq1).1) ((hq1).2.1 _) rfl (cSequence_operationOf l D (zty cI cC cE) (34 + 4 * n) ad (zF ad cI cC cE n ln) A hJ cI rfl o1 hq1 _ _ _ hw) caRunner_75 ⟨Nat.le_of_ble_eq_true rfl, Nat.le_of_ble_eq_true rfl⟩ ⟨rfl, rfl⟩ rfl hl.1 rfl (Nat.le_of_ble_eq_true rfl) dRunner_keepResult_21) hS (fun r21 h21 H locs hw hP hS => ?_)
    obtain ⟨z24, hw⟩ := hw
    refine zr_ald S hK hP (zk (by decide)) (zF_8 _) 0 rfl z24 dRunner_keepResult_24 ?_
    refine lv_if_ne S.1 S.2.1 dRunner_keepResult_25 rfl (fun hc => ?_) (fun hc => ?_)
    · have hw := hw.1 hc
      refine lv_aload_n S.1 S.2.1 dRunner_keepResult_44 rfl (lv_at hl 1 rfl) ?_
      refine lv_aload_n S.1 S.2.1 dRunner_keepResult_45 rfl (lv_at hl 1 rfl) ?_
      refine zr_get S hK hP (zk (by decide)) (zF_12 _) fRunner_results q126 rfl dRunner_keepResult_46 ?_
      refine lv_iload_n S.1 S.2.1 dRunner_keepResult_49 rfl (lv_at hl 0 rfl) ?_
      obtain ⟨z50, hw⟩ := hw
      refine zr_ald S hK hP (zk (by decide)) (zF_13 _) 0 rfl z50 dRunner_keepResult_50 ?_
      refine lv_iconst (v := (-1)) S.1 S.2.1 dRunner_keepResult_51 (by decide) ?_
      refine lv_icmp_ne S.1 S.2.1 dRunner_keepResult_52 rfl (fun hc => ?_) (fun hc => ?_)
      · have hw := hw.1 hc
        refine lv_iconst (v := 3) S.1 S.2.1 dRunner_keepResult_59 (by decide) ?_
        exact J60 _ _ _ _ _ _ hw (lv_sub hl [1, 0] rfl) hP hS
      · have hw := hw.2 hc
        refine lv_iconst (v := 2) S.1 S.2.1 dRunner_keepResult_55 (by decide) ?_
        refine lv_goto S.1 S.2.1 dRunner_keepResult_56 rfl ?_
        exact J60 _ _ _ _ _ _ hw (lv_sub hl [1, 0] rfl) hP hS
    · have hw := hw.2 hc
      refine lv_aload_n S.1 S.2.1 dRunner_keepResult_28 rfl (lv_at hl 1 rfl) ?_
      refine lv_iconst (v := 1) S.1 S.2.1 dRunner_keepResult_29 (by decide) ?_
      refine zr_put S hK hJ hP hS (zk (by decide)) (zF_12 _) fRunner_gave q137 rfl rfl (Nat.le_of_ble_eq_true rfl) (zF_12 _) dRunner_keepResult_30 (fun h30 H locs e30 hP hS => ?_)
      have hw := hw h30 e30
      refine lv_aload_n S.1 S.2.1 dRunner_keepResult_33 rfl (lv_at hl 1 rfl) ?_
      refine lv_aload_n S.1 S.2.1 dRunner_keepResult_34 rfl (lv_at hl 1 rfl) ?_
      refine zr_get S hK hP (zk (by decide)) (zF_12 _) fRunner_results q126 rfl dRunner_keepResult_35 ?_
      refine lv_iload_n S.1 S.2.1 dRunner_keepResult_38 rfl (lv_at hl 0 rfl) ?_
      obtain ⟨z39, hw⟩ := hw
      refine zr_ald S hK hP (zk (by decide)) (zF_13 _) 0 rfl z39 dRunner_keepResult_39 ?_
      refine zr_put S hK hJ hP hS (zk (by decide)) (zF_12 _) fRunner_number q140 rfl rfl (Nat.le_of_ble_eq_true rfl) (zF_12 _) dRunner_keepResult_40 (fun h40 H locs e40 hP hS => ?_)
      have hw := hw h40 e40
      exact zr_vret S hr hlk hK hP hS hw dRunner_keepResult_43
  · have hw := hw.2 hc
    exact zr_vret S hr hlk hK hP hS hw dRunner_keepResult_11
/-! Runner.endWithTrouble -/
theorem dRunner_endWithTrouble_0 : decode bRunner_endWithTrouble 0 = .ok (.iload_n 3, 1) := by decide +kernel
theorem dRunner_endWithTrouble_1 : decode bRunner_endWithTrouble 1 = .ok (.iconst 5, 1) := by decide +kernel
theorem dRunner_endWithTrouble_2 : decode bRunner_endWithTrouble 2 = .ok (.if_icmp .eq 14, 3) := by decide +kernel
theorem dRunner_endWithTrouble_5 : decode bRunner_endWithTrouble 5 = .ok (.aload_n 0, 1) := by decide +kernel
theorem dRunner_endWithTrouble_6 : decode bRunner_endWithTrouble 6 = .ok (.iconst 2, 1) := by decide +kernel
theorem dRunner_endWithTrouble_7 : decode bRunner_endWithTrouble 7 = .ok (.putfield 68, 3) := by decide +kernel
theorem dRunner_endWithTrouble_10 : decode bRunner_endWithTrouble 10 = .ok (.aload_n 0, 1) := by decide +kernel
theorem dRunner_endWithTrouble_11 : decode bRunner_endWithTrouble 11 = .ok (.iload_n 3, 1) := by decide +kernel
theorem dRunner_endWithTrouble_12 : decode bRunner_endWithTrouble 12 = .ok (.putfield 65, 3) := by decide +kernel
theorem dRunner_endWithTrouble_15 : decode bRunner_endWithTrouble 15 = .ok (.return_, 1) := by decide +kernel
theorem dRunner_endWithTrouble_16 : decode bRunner_endWithTrouble 16 = .ok (.aload_n 0, 1) := by decide +kernel
theorem dRunner_endWithTrouble_17 : decode bRunner_endWithTrouble 17 = .ok (.aload_n 1, 1) := by decide +kernel
theorem dRunner_endWithTrouble_18 : decode bRunner_endWithTrouble 18 = .ok (.iload_n 2, 1) := by decide +kernel
theorem dRunner_endWithTrouble_19 : decode bRunner_endWithTrouble 19 = .ok (.iconst 0, 1) := by decide +kernel
theorem dRunner_endWithTrouble_20 : decode bRunner_endWithTrouble 20 = .ok (.invokevirtual 71, 3) := by decide +kernel
theorem dRunner_endWithTrouble_23 : decode bRunner_endWithTrouble 23 = .ok (.ifCond .ne 13, 3) := by decide +kernel
theorem dRunner_endWithTrouble_26 : decode bRunner_endWithTrouble 26 = .ok (.aload_n 0, 1) := by decide +kernel
theorem dRunner_endWithTrouble_27 : decode bRunner_endWithTrouble 27 = .ok (.aload_n 1, 1) := by decide +kernel
theorem dRunner_endWithTrouble_28 : decode bRunner_endWithTrouble 28 = .ok (.iload_n 2, 1) := by decide +kernel
theorem dRunner_endWithTrouble_29 : decode bRunner_endWithTrouble 29 = .ok (.iconst 1, 1) := by decide +kernel
theorem dRunner_endWithTrouble_30 : decode bRunner_endWithTrouble 30 = .ok (.invokevirtual 71, 3) := by decide +kernel
theorem dRunner_endWithTrouble_33 : decode bRunner_endWithTrouble 33 = .ok (.ifCond .eq 7, 3) := by decide +kernel
theorem dRunner_endWithTrouble_36 : decode bRunner_endWithTrouble 36 = .ok (.iconst 1, 1) := by decide +kernel
theorem dRunner_endWithTrouble_37 : decode bRunner_endWithTrouble 37 = .ok (.goto 4, 3) := by decide +kernel
theorem dRunner_endWithTrouble_40 : decode bRunner_endWithTrouble 40 = .ok (.iconst 0, 1) := by decide +kernel
theorem dRunner_endWithTrouble_41 : decode bRunner_endWithTrouble 41 = .ok (.istore 4, 2) := by decide +kernel
theorem dRunner_endWithTrouble_43 : decode bRunner_endWithTrouble 43 = .ok (.aload_n 0, 1) := by decide +kernel
theorem dRunner_endWithTrouble_44 : decode bRunner_endWithTrouble 44 = .ok (.iload 4, 2) := by decide +kernel
theorem dRunner_endWithTrouble_46 : decode bRunner_endWithTrouble 46 = .ok (.ifCond .eq 7, 3) := by decide +kernel
theorem dRunner_endWithTrouble_49 : decode bRunner_endWithTrouble 49 = .ok (.iconst 4, 1) := by decide +kernel
theorem dRunner_endWithTrouble_50 : decode bRunner_endWithTrouble 50 = .ok (.goto 4, 3) := by decide +kernel
theorem dRunner_endWithTrouble_53 : decode bRunner_endWithTrouble 53 = .ok (.iconst 3, 1) := by decide +kernel
theorem dRunner_endWithTrouble_54 : decode bRunner_endWithTrouble 54 = .ok (.putfield 68, 3) := by decide +kernel
theorem dRunner_endWithTrouble_57 : decode bRunner_endWithTrouble 57 = .ok (.aload_n 0, 1) := by decide +kernel
theorem dRunner_endWithTrouble_58 : decode bRunner_endWithTrouble 58 = .ok (.iconst 4, 1) := by decide +kernel
theorem dRunner_endWithTrouble_59 : decode bRunner_endWithTrouble 59 = .ok (.putfield 65, 3) := by decide +kernel
theorem dRunner_endWithTrouble_62 : decode bRunner_endWithTrouble 62 = .ok (.return_, 1) := by decide +kernel
def wbRunner_endWithTrouble_54 (n : Nat) (ln : Nat → Nat) (o1 : Nat) (post : zM → Prop) (k1 : Int32) (h : zM) : Prop := ∀ h54 : zM, h54 = zu h 12 3 k1 → ∀ h59 : zM, h59 = zu h54 12 4 4 → post h59
def wbRunner_endWithTrouble_41 (n : Nat) (ln : Nat → Nat) (o1 : Nat) (post : zM → Prop) (k0 : Int32) (h : zM) : Prop := ((k0 = 0 → wbRunner_endWithTrouble_54 n ln o1 post 3 h) ∧ (¬ k0 = 0 → wbRunner_endWithTrouble_54 n ln o1 post 4 h))
def wbRunner_endWithTrouble_36 (n : Nat) (ln : Nat → Nat) (o1 : Nat) (post : zM → Prop) (h : zM) : Prop := wbRunner_endWithTrouble_41 n ln o1 post 1 h
def wpRunner_endWithTrouble (n : Nat) (ln : Nat → Nat) (o1 : Nat) (x2 : Int32) (x3 : Int32) (h : zM) (post : zM → Prop) : Prop := ((x3 = 5 → wpRunner_isNull n ln o1 x2 0 h (fun r20 h20 => ((¬ r20 = 0 → wbRunner_endWithTrouble_36 n ln o1 post h20) ∧ (r20 = 0 → wpRunner_isNull n ln o1 x2 1 h20 (fun r30 h30 => ((r30 = 0 → wbRunner_endWithTrouble_41 n ln o1 post 0 h30) ∧ (¬ r30 = 0 → wbRunner_endWithTrouble_36 n ln o1 post h30))))))) ∧ (¬ x3 = 5 → ∀ h7 : zM, h7 = zu h 12 3 2 → ∀ h12 : zM, h12 = zu h7 12 4 x3 → post h12))
abbrev rmRunner_endWithTrouble : Room := { frames := 3, cells := 0, slots := 0, locals := 70 }
set_option maxHeartbeats 4000000 in
set_option maxRecDepth 100000 in
theorem cRunner_endWithTrouble (l : Launch) (D : va_G) (cI cC cE : ClassId) (ad : Nat → Nat) (n : Nat) (ln : Nat → Nat) (A : Nat → Prop) (hJ : zJ A (34 + 4 * n) ad) (o1 : Nat) (hq1 : zSeq (34 + 4 * n) ad (zF ad cI cC cE n ln) cI o1) (x2 : Int32) (x3 : Int32) (h : zM) (post : zM → Prop) (hw : wpRunner_endWithTrouble n ln o1 x2 x3 h post) : Met l yRunner_endWithTrouble (.code yRunner_endWithTrouble bRunner_endWithTrouble 5 none :: zt) rmRunner_endWithTrouble (va_Pc [.ref (ad 12), .ref (ad o1), .int x2, .int x3] (zPre D (zty cI cC cE) (34 + 4 * n) ad (zF ad cI cC cE n ln) A h)) (va_Qv post (zPst D (zty cI cC cE) (34 + 4 * n) ad (zF ad cI cC cE n ln)) A) 0 0 A := by
  refine Met.ofW (cc := bRunner_endWithTrouble) (maxL := 5) (ret := none) (by decide) rfl ?_
  intro p e s m args below meth c s₁ B hml hv
  obtain ⟨rfl, hP, hK, hT, hN⟩ := hv
  have hr := B.returns
  have hlk := B.notSynchronized
  have S : zS p m c bRunner_endWithTrouble 5 s _ "CallExplorer$Runner" := ⟨B.exec, B.bytes, hml, findClass_of_methodNamed B.named, fun w hw => atoms_spec (ws := .code yRunner_endWithTrouble bRunner_endWithTrouble 5 none :: zt) B.pre w (List.mem_cons_of_mem _ hw)⟩
  have hS : va_S A s.heap s.heap [] := va_S.rf
  have hl := lv_entry ([.ref (ad 12), .ref (ad o1), .int x2, .int x3]) (n := 5) (Nat.le_of_ble_eq_true rfl)
  rw [lg_entry_eq]
  generalize (lg_sl ([.ref (ad 12), .ref (ad o1), .int x2, .int x3]) ++ List.replicate (5 - (lg_sl ([.ref (ad 12), .ref (ad o1), .int x2, .int x3])).length) Slot.unset).toArray = ls at hl ⊢
  have hl : lv_has ls 5 [(0, .ref (ad 12)), (1, .ref (ad o1)), (2, .int x2), (3, .int x3)] := hl
  show W p l e rmRunner_endWithTrouble s m ([.ref (ad 12), .ref (ad o1), .int x2, .int x3] : List Value).toArray below meth c s.heap [] 0 0 (zQv post D (zty cI cC cE) (34 + 4 * n) ad (zF ad cI cC cE n ln) A below ([.ref (ad 12), .ref (ad o1), .int x2, .int x3] : List Value).toArray s) _
  have J54 : ∀ (k1 : Int32) (h : zM) (H : Heap) (locs : List Loc) (ls : Array Slot), wbRunner_endWithTrouble_54 n ln o1 post k1 h → lv_has ls 5 [(0, .ref (ad 12))] → va_P D zcl (zW (34 + 4 * n) ad (zF ad cI cC cE n ln) h) H → va_S A s.heap H locs → W p l e rmRunner_endWithTrouble s m ([.ref (ad 12), .ref (ad o1), .int x2, .int x3] : List Value).toArray below meth c H locs 0 0 (zQv post D (zty cI cC cE) (34 + 4 * n) ad (zF ad cI cC cE n ln) A below ([.ref (ad 12), .ref (ad o1), .int x2, .int x3] : List Value).toArray s) (F0 m 54 ls [.int k1, .ref (ad 12)]) := by
    intro k1 h H locs ls hw hl hP hS
    unfold wbRunner_endWithTrouble_54 at hw
    refine zr_put S hK hJ hP hS (zk (by decide)) (zF_12 _) fRunner_outcome q127 rfl rfl (Nat.le_of_ble_eq_true rfl) (zF_12 _) dRunner_endWithTrouble_54 (fun h54 H locs e54 hP hS => ?_)
    have hw := hw h54 e54
    refine lv_aload_n S.1 S.2.1 dRunner_endWithTrouble_57 rfl (lv_at hl 0 rfl) ?_
    refine lv_iconst (v := 4) S.1 S.2.1 dRunner_endWithTrouble_58 (by decide) ?_
    refine zr_put S hK hJ hP hS (zk (by decide)) (zF_12 _) fRunner_detail q133 rfl rfl (Nat.le_of_ble_eq_true rfl) (zF_12 _) dRunner_endWithTrouble_59 (fun h59 H locs e59 hP hS => ?_)
    have hw := hw h59 e59
    exact zr_vret S hr hlk hK hP hS hw dRunner_endWithTrouble_62
  have J41 : ∀ (k0 : Int32) (h : zM) (H : Heap) (locs : List Loc) (ls : Array Slot), wbRunner_endWithTrouble_41 n ln o1 post k0 h → lv_has ls 5 [(0, .ref (ad 12))] → va_P D zcl (zW (34 + 4 * n) ad (zF ad cI cC cE n ln) h) H → va_S A s.heap H locs → W p l e rmRunner_endWithTrouble s m ([.ref (ad 12), .ref (ad o1), .int x2, .int x3] : List Value).toArray below meth c H locs 0 0 (zQv post D (zty cI cC cE) (34 + 4 * n) ad (zF ad cI cC cE n ln) A below ([.ref (ad 12), .ref (ad o1), .int x2, .int x3] : List Value).toArray s) (F0 m 41 ls [.int k0]) := by
    intro k0 h H locs ls hw hl hP hS
    unfold wbRunner_endWithTrouble_41 at hw
    refine lv_istore (lv' := [(4, .int k0), (0, .ref (ad 12))]) S.1 S.2.1 dRunner_endWithTrouble_41 hl (by decide) rfl (fun ls hl => ?_)
    refine lv_aload_n S.1 S.2.1 dRunner_endWithTrouble_43 rfl (lv_at hl 1 rfl) ?_
    refine lv_iload S.1 S.2.1 dRunner_endWithTrouble_44 (lv_at hl 0 rfl) ?_
    refine lv_if_eq S.1 S.2.1 dRunner_endWithTrouble_46 rfl (fun hc => ?_) (fun hc => ?_)
    · have hw := hw.1 hc
      refine lv_iconst (v := 3) S.1 S.2.1 dRunner_endWithTrouble_53 (by decide) ?_
      exact J54 _ _ _ _ _ hw (lv_sub hl [1] rfl) hP hS
    · have hw := hw.2 hc
      refine lv_iconst (v := 4) S.1 S.2.1 dRunner_endWithTrouble_49 (by decide) ?_
      refine lv_goto S.1 S.2.1 dRunner_endWithTrouble_50 rfl ?_
      exact J54 _ _ _ _ _ hw (lv_sub hl [1] rfl) hP hS
  have J36 : ∀ (h : zM) (H : Heap) (locs : List Loc) (ls : Array Slot), wbRunner_endWithTrouble_36 n ln o1 post h → lv_has ls 5 [(0, .ref (ad 12))] → va_P D zcl (zW (34 + 4 * n) ad (zF ad cI cC cE n ln) h) H → va_S A s.heap H locs → W p l e rmRunner_endWithTrouble s m ([.ref (ad 12), .ref (ad o1), .int x2, .int x3] : List Value).toArray below meth c H locs 0 0 (zQv post D (zty cI cC cE) (34 + 4 * n) ad (zF ad cI cC cE n ln) A below ([.ref (ad 12), .ref (ad o1), .int x2, .int x3] : List Value).toArray s) (F0 m 36 ls []) := by
    intro  h H locs ls hw hl hP hS
    unfold wbRunner_endWithTrouble_36 at hw
    refine lv_iconst (v := 1) S.1 S.2.1 dRunner_endWithTrouble_36 (by decide) ?_
    refine lv_goto S.1 S.2.1 dRunner_endWithTrouble_37 rfl ?_
    exact J41 _ _ _ _ _ hw (lv_sub hl [0] rfl) hP hS
  unfold wpRunner_endWithTrouble at hw
  refine lv_iload_n S.1 S.2.1 dRunner_endWithTrouble_0 rfl (lv_at hl 3 rfl) ?_
  refine lv_iconst (v := 5) S.1 S.2.1 dRunner_endWithTrouble_1 (by decide) ?_
  refine lv_icmp_eq S.1 S.2.1 dRunner_endWithTrouble_2 rfl (fun hc => ?_) (fun hc => ?_)
  · have hw := hw.1 hc
    refine lv_aload_n S.1 S.2.1 dRunner_endWithTrouble_16 rfl (lv_at hl 0 rfl) ?_
    refine lv_aload_n S.1 S.2.1 dRunner_endWithTrouble_17 rfl (lv_at hl 1 rfl) ?_
    refine lv_iload_n S.1 S.2.1 dRunner_endWithTrouble_18 rfl (lv_at hl 2 rfl) ?_
    refine lv_iconst (v := 0) S.1 S.2.1 dRunner_endWithTrouble_19 (by decide) ?_
    refine zr_i (zr_V (As := [.ref (ad o1), .int x2, .int 0]) (rest := []) S hK hT hN hP hS (zk (by decide)) (zF_12 _) rfl (cRunner_isNull l D cI cC cE ad n ln A hJ o1 hq1 _ _ _ _ hw) caRunner_71 ⟨Nat.le_of_ble_eq_true rfl, Nat.le_of_ble_eq_true rfl⟩ ⟨rfl, rfl⟩ rfl hl.1 rfl (Nat.le_of_ble_eq_true rfl) dRunner_endWithTrouble_20) hS (fun r20 h20 H locs hw hP hS => ?_)
    refine lv_if_ne S.1 S.2.1 dRunner_endWithTrouble_23 rfl (fun hc => ?_) (fun hc => ?_)
    · have hw := hw.1 hc
      exact J36  _ _ _ _ hw (lv_sub hl [0] rfl) hP hS
    · have hw := hw.2 hc
      refine lv_aload_n S.1 S.2.1 dRunner_endWithTrouble_26 rfl (lv_at hl 0 rfl) ?_
      refine lv_aload_n S.1 S.2.1 dRunner_endWithTrouble_27 rfl (lv_at hl 1 rfl) ?_
      refine lv_iload_n S.1 S.2.1 dRunner_endWithTrouble_28 rfl (lv_at hl 2 rfl) ?_
      refine lv_iconst (v := 1) S.1 S.2.1 dRunner_endWithTrouble_29 (by decide) ?_
      refine zr_i (zr_V (As := [.ref (ad o1), .int x2, .int 1]) (rest := []) S hK hT hN hP hS (zk (by decide)) (zF_12 _) rfl (cRunner_isNull l D cI cC cE ad n ln A hJ o1 hq1 _ _ _ _ hw) caRunner_71 ⟨Nat.le_of_ble_eq_true rfl, Nat.le_of_ble_eq_true rfl⟩ ⟨rfl, rfl⟩ rfl hl.1 rfl (Nat.le_of_ble_eq_true rfl) dRunner_endWithTrouble_30) hS (fun r30 h30 H locs hw hP hS => ?_)
      refine lv_if_eq S.1 S.2.1 dRunner_endWithTrouble_33 rfl (fun hc => ?_) (fun hc => ?_)
      · have hw := hw.1 hc
        refine lv_iconst (v := 0) S.1 S.2.1 dRunner_endWithTrouble_40 (by decide) ?_
        exact J41 _ _ _ _ _ hw (lv_sub hl [0] rfl) hP hS
      · have hw := hw.2 hc
        exact J36  _ _ _ _ hw (lv_sub hl [0] rfl) hP hS
  · have hw := hw.2 hc
    refine lv_aload_n S.1 S.2.1 dRunner_endWithTrouble_5 rfl (lv_at hl 0 rfl) ?_
    refine lv_iconst (v := 2) S.1 S.2.1 dRunner_endWithTrouble_6 (by decide) ?_
    refine zr_put S hK hJ hP hS (zk (by decide)) (zF_12 _) fRunner_outcome q127 rfl rfl (Nat.le_of_ble_eq_true rfl) (zF_12 _) dRunner_endWithTrouble_7 (fun h7 H locs e7 hP hS => ?_)
    have hw := hw h7 e7
    refine lv_aload_n S.1 S.2.1 dRunner_endWithTrouble_10 rfl (lv_at hl 0 rfl) ?_
    refine lv_iload_n S.1 S.2.1 dRunner_endWithTrouble_11 rfl (lv_at hl 3 rfl) ?_
    refine zr_put S hK hJ hP hS (zk (by decide)) (zF_12 _) fRunner_detail q133 rfl rfl (Nat.le_of_ble_eq_true rfl) (zF_12 _) dRunner_endWithTrouble_12 (fun h12 H locs e12 hP hS => ?_)
    have hw := hw h12 e12
    exact zr_vret S hr hlk hK hP hS hw dRunner_endWithTrouble_15
/-! Runner.run -/
theorem dRunner_run_0 : decode bRunner_run 0 = .ok (.aload_n 0, 1) := by decide +kernel
theorem dRunner_run_1 : decode bRunner_run 1 = .ok (.getfield 27, 3) := by decide +kernel
theorem dRunner_run_4 : decode bRunner_run 4 = .ok (.iconst 0, 1) := by decide +kernel
theorem dRunner_run_5 : decode bRunner_run 5 = .ok (.putfield 31, 3) := by decide +kernel
theorem dRunner_run_8 : decode bRunner_run 8 = .ok (.aload_n 0, 1) := by decide +kernel
theorem dRunner_run_9 : decode bRunner_run 9 = .ok (.iconst 0, 1) := by decide +kernel
theorem dRunner_run_10 : decode bRunner_run 10 = .ok (.putfield 35, 3) := by decide +kernel
theorem dRunner_run_13 : decode bRunner_run 13 = .ok (.aload_n 0, 1) := by decide +kernel
theorem dRunner_run_14 : decode bRunner_run 14 = .ok (.iconst 0, 1) := by decide +kernel
theorem dRunner_run_15 : decode bRunner_run 15 = .ok (.putfield 38, 3) := by decide +kernel
theorem dRunner_run_18 : decode bRunner_run 18 = .ok (.aload_n 0, 1) := by decide +kernel
theorem dRunner_run_19 : decode bRunner_run 19 = .ok (.iconst 0, 1) := by decide +kernel
theorem dRunner_run_20 : decode bRunner_run 20 = .ok (.putfield 41, 3) := by decide +kernel
theorem dRunner_run_23 : decode bRunner_run 23 = .ok (.iconst 0, 1) := by decide +kernel
theorem dRunner_run_24 : decode bRunner_run 24 = .ok (.istore_n 2, 1) := by decide +kernel
theorem dRunner_run_25 : decode bRunner_run 25 = .ok (.iload_n 2, 1) := by decide +kernel
theorem dRunner_run_26 : decode bRunner_run 26 = .ok (.aload_n 1, 1) := by decide +kernel
theorem dRunner_run_27 : decode bRunner_run 27 = .ok (.getfield 44, 3) := by decide +kernel
theorem dRunner_run_30 : decode bRunner_run 30 = .ok (.if_icmp .ge 28, 3) := by decide +kernel
theorem dRunner_run_33 : decode bRunner_run 33 = .ok (.aload_n 0, 1) := by decide +kernel
theorem dRunner_run_34 : decode bRunner_run 34 = .ok (.aload_n 1, 1) := by decide +kernel
theorem dRunner_run_35 : decode bRunner_run 35 = .ok (.iload_n 2, 1) := by decide +kernel
theorem dRunner_run_36 : decode bRunner_run 36 = .ok (.invokevirtual 49, 3) := by decide +kernel
theorem dRunner_run_39 : decode bRunner_run 39 = .ok (.istore_n 3, 1) := by decide +kernel
theorem dRunner_run_40 : decode bRunner_run 40 = .ok (.iload_n 3, 1) := by decide +kernel
theorem dRunner_run_41 : decode bRunner_run 41 = .ok (.ifCond .eq 11, 3) := by decide +kernel
theorem dRunner_run_44 : decode bRunner_run 44 = .ok (.aload_n 0, 1) := by decide +kernel
theorem dRunner_run_45 : decode bRunner_run 45 = .ok (.aload_n 1, 1) := by decide +kernel
theorem dRunner_run_46 : decode bRunner_run 46 = .ok (.iload_n 2, 1) := by decide +kernel
theorem dRunner_run_47 : decode bRunner_run 47 = .ok (.iload_n 3, 1) := by decide +kernel
theorem dRunner_run_48 : decode bRunner_run 48 = .ok (.invokevirtual 53, 3) := by decide +kernel
theorem dRunner_run_51 : decode bRunner_run 51 = .ok (.return_, 1) := by decide +kernel
theorem dRunner_run_52 : decode bRunner_run 52 = .ok (.iinc 2 1, 3) := by decide +kernel
theorem dRunner_run_55 : decode bRunner_run 55 = .ok (.goto (-30), 3) := by decide +kernel
theorem dRunner_run_58 : decode bRunner_run 58 = .ok (.aload_n 0, 1) := by decide +kernel
theorem dRunner_run_59 : decode bRunner_run 59 = .ok (.aload_n 1, 1) := by decide +kernel
theorem dRunner_run_60 : decode bRunner_run 60 = .ok (.invokevirtual 57, 3) := by decide +kernel
theorem dRunner_run_63 : decode bRunner_run 63 = .ok (.aload_n 0, 1) := by decide +kernel
theorem dRunner_run_64 : decode bRunner_run 64 = .ok (.aload_n 0, 1) := by decide +kernel
theorem dRunner_run_65 : decode bRunner_run 65 = .ok (.getfield 27, 3) := by decide +kernel
theorem dRunner_run_68 : decode bRunner_run 68 = .ok (.invokevirtual 61, 3) := by decide +kernel
theorem dRunner_run_71 : decode bRunner_run 71 = .ok (.putfield 65, 3) := by decide +kernel
theorem dRunner_run_74 : decode bRunner_run 74 = .ok (.aload_n 0, 1) := by decide +kernel
theorem dRunner_run_75 : decode bRunner_run 75 = .ok (.aload_n 0, 1) := by decide +kernel
theorem dRunner_run_76 : decode bRunner_run 76 = .ok (.getfield 65, 3) := by decide +kernel
theorem dRunner_run_79 : decode bRunner_run 79 = .ok (.ifCond .ne 7, 3) := by decide +kernel
theorem dRunner_run_82 : decode bRunner_run 82 = .ok (.iconst 0, 1) := by decide +kernel
theorem dRunner_run_83 : decode bRunner_run 83 = .ok (.goto 4, 3) := by decide +kernel
theorem dRunner_run_86 : decode bRunner_run 86 = .ok (.iconst 3, 1) := by decide +kernel
theorem dRunner_run_87 : decode bRunner_run 87 = .ok (.putfield 68, 3) := by decide +kernel
theorem dRunner_run_90 : decode bRunner_run 90 = .ok (.return_, 1) := by decide +kernel
def wbRunner_run_87 (n : Nat) (ln : Nat → Nat) (o1 : Nat) (post : zM → Prop) (k1 : Int32) (h : zM) : Prop := ∀ h87 : zM, h87 = zu h 12 3 k1 → post h87
def stRunner_run_25 (n : Nat) (ln : Nat → Nat) (o1 : Nat) (post : zM → Prop) (L25 : (Int32 × zM) → Prop) : (Int32 × zM) → Prop := fun s => match s with
  | (v2, h) => ((((h o1 0) ≤ v2) → wpRunner_keepResult n ln o1 h (fun h60 => wpHeap_findFault n ln h60 (fun r68 h68 => ∀ h71 : zM, h71 = zu h68 12 4 r68 → ((¬ (h71 12 4) = 0 → wbRunner_run_87 n ln o1 post 3 h71) ∧ ((h71 12 4) = 0 → wbRunner_run_87 n ln o1 post 0 h71))))) ∧ (¬ ((h o1 0) ≤ v2) → wpRunner_execute n ln o1 v2 h (fun r36 h36 => ((r36 = 0 → L25 ((v2 + 1), h36)) ∧ (¬ r36 = 0 → wpRunner_endWithTrouble n ln o1 v2 r36 h36 (fun h48 => post h48))))))
def wpRunner_run (n : Nat) (ln : Nat → Nat) (o1 : Nat) (h : zM) (post : zM → Prop) : Prop := ∀ h5 : zM, h5 = zu h 15 1 0 → ∀ h10 : zM, h10 = zu h5 12 5 0 → ∀ h15 : zM, h15 = zu h10 12 6 0 → ∀ h20 : zM, h20 = zu h15 12 7 0 → zL (stRunner_run_25 n ln o1 post) (0, h20)
abbrev rmRunner_run : Room := { frames := 4, cells := 0, slots := 0, locals := 97 }
set_option maxHeartbeats 4000000 in
set_option maxRecDepth 100000 in
theorem cRunner_run (l : Launch) (D : va_G) (cI cC cE : ClassId) (ad : Nat → Nat) (n : Nat) (ln : Nat → Nat) (A : Nat → Prop) (hJ : zJ A (34 + 4 * n) ad) (o1 : Nat) (hq1 : zSeq (34 + 4 * n) ad (zF ad cI cC cE n ln) cI o1) (h : zM) (post : zM → Prop) (hw : wpRunner_run n ln o1 h post) : Met l yRunner_run (.code yRunner_run bRunner_run 4 none :: zt) rmRunner_run (va_Pc [.ref (ad 12), .ref (ad o1)] (zPre D (zty cI cC cE) (34 + 4 * n) ad (zF ad cI cC cE n ln) A h)) (va_Qv post (zPst D (zty cI cC cE) (34 + 4 * n) ad (zF ad cI cC cE n ln)) A) 0 0 A := by
  refine Met.ofW (cc := bRunner_run) (maxL := 4) (ret := none) (by decide) rfl ?_
  intro p e s m args below meth c s₁ B hml hv
  obtain ⟨rfl, hP, hK, hT, hN⟩ := hv
  have hr := B.returns
  have hlk := B.notSynchronized
  have S : zS p m c bRunner_run 4 s _ "CallExplorer$Runner" := ⟨B.exec, B.bytes, hml, findClass_of_methodNamed B.named, fun w hw => atoms_spec (ws := .code yRunner_run bRunner_run 4 none :: zt) B.pre w (List.mem_cons_of_mem _ hw)⟩
  have hS : va_S A s.heap s.heap [] := va_S.rf
  have hl := lv_entry ([.ref (ad 12), .ref (ad o1)]) (n := 4) (Nat.le_of_ble_eq_true rfl)
  rw [lg_entry_eq]
  generalize (lg_sl ([.ref (ad 12), .ref (ad o1)]) ++ List.replicate (4 - (lg_sl ([.ref (ad 12), .ref (ad o1)])).length) Slot.unset).toArray = ls at hl ⊢
  have hl : lv_has ls 4 [(0, .ref (ad 12)), (1, .ref (ad o1))] := hl
  show W p l e rmRunner_run s m ([.ref (ad 12), .ref (ad o1)] : List Value).toArray below meth c s.heap [] 0 0 (zQv post D (zty cI cC cE) (34 + 4 * n) ad (zF ad cI cC cE n ln) A below ([.ref (ad 12), .ref (ad o1)] : List Value).toArray s) _
  have J87 : ∀ (k1 : Int32) (h : zM) (H : Heap) (locs : List Loc) (ls : Array Slot), wbRunner_run_87 n ln o1 post k1 h → lv_has ls 4 [] → va_P D zcl (zW (34 + 4 * n) ad (zF ad cI cC cE n ln) h) H → va_S A s.heap H locs → W p l e rmRunner_run s m ([.ref (ad 12), .ref (ad o1)] : List Value).toArray below meth c H locs 0 0 (zQv post D (zty cI cC cE) (34 + 4 * n) ad (zF ad cI cC cE n ln) A below ([.ref (ad 12), .ref (ad o1)] : List Value).toArray s) (F0 m 87 ls [.int k1, .ref (ad 12)]) := by
    intro k1 h H locs ls hw hl hP hS
    unfold wbRunner_run_87 at hw
    refine zr_put S hK hJ hP hS (zk (by decide)) (zF_12 _) fRunner_outcome q127 rfl rfl (Nat.le_of_ble_eq_true rfl) (zF_12 _) dRunner_run_87 (fun h87 H locs e87 hP hS => ?_)
    have hw := hw h87 e87
    exact zr_vret S hr hlk hK hP hS hw dRunner_run_90
  have J25 : ∀ (fu : Nat) (v2 : Int32) (h : zM) (H : Heap) (locs : List Loc) (ls : Array Slot), zl (stRunner_run_25 n ln o1 post) fu (v2, h) → lv_has ls 4 [(0, .ref (ad 12)), (1, .ref (ad o1)), (2, .int v2)] → va_P D zcl (zW (34 + 4 * n) ad (zF ad cI cC cE n ln) h) H → va_S A s.heap H locs → W p l e rmRunner_run s m ([.ref (ad 12), .ref (ad o1)] : List Value).toArray below meth c H locs 0 0 (zQv post D (zty cI cC cE) (34 + 4 * n) ad (zF ad cI cC cE n ln) A below ([.ref (ad 12), .ref (ad o1)] : List Value).toArray s) (F0 m 25 ls []) := by
    intro fu25
    induction fu25 with
    | zero =>
      intro v2 h H locs ls hw
      exact (zl_0 hw).elim
    | succ fu25 ih25 =>
      intro v2 h H locs ls hw hl hP hS
      have hw := zl_s hw
      generalize zl (stRunner_run_25 n ln o1 post) fu25 = L25 at hw ih25
      unfold stRunner_run_25 at hw
      dsimp only at hw
      refine lv_iload_n S.1 S.2.1 dRunner_run_25 rfl (lv_at hl 2 rfl) ?_
      refine lv_aload_n S.1 S.2.1 dRunner_run_26 rfl (lv_at hl 1 rfl) ?_
      refine zr_get S hK hP (Nat.lt_of_succ_lt (hq1).1) ((hq1).2.1 _) fSequence_size q179 rfl dRunner_run_27 ?_
      refine lv_icmp_ge S.1 S.2.1 dRunner_run_30 rfl (fun hc => ?_) (fun hc => ?_)
      · have hw := hw.1 hc
        refine lv_aload_n S.1 S.2.1 dRunner_run_58 rfl (lv_at hl 0 rfl) ?_
        refine lv_aload_n S.1 S.2.1 dRunner_run_59 rfl (lv_at hl 1 rfl) ?_
        refine zr_v (zr_V (As := [.ref (ad o1)]) (rest := []) S hK hT hN hP hS (zk (by decide)) (zF_12 _) rfl (cRunner_keepResult l D cI cC cE ad n ln A hJ o1 hq1 _ _ hw) caRunner_57 ⟨Nat.le_of_ble_eq_true rfl, Nat.le_of_ble_eq_true rfl⟩ ⟨rfl, rfl⟩ rfl hl.1 rfl (Nat.le_of_ble_eq_true rfl) dRunner_run_60) hS (fun h60 H locs hw hP hS => ?_)
        refine lv_aload_n S.1 S.2.1 dRunner_run_63 rfl (lv_at hl 0 rfl) ?_
        refine lv_aload_n S.1 S.2.1 dRunner_run_64 rfl (lv_at hl 0 rfl) ?_
        refine zr_get S hK hP (zk (by decide)) (zF_12 _) fRunner_heap q125 rfl dRunner_run_65 ?_
        refine zr_i (zr_V (As := []) (rest := [.ref (ad 12)]) S hK hT hN hP hS (zk (by decide)) (zF_15 _) rfl (cHeap_findFault l D cI cC cE ad n ln A hJ _ _ hw) caRunner_61 ⟨Nat.le_of_ble_eq_true rfl, Nat.le_of_ble_eq_true rfl⟩ ⟨rfl, rfl⟩ rfl hl.1 rfl (Nat.le_of_ble_eq_true rfl) dRunner_run_68) hS (fun r68 h68 H locs hw hP hS => ?_)
        refine zr_put S hK hJ hP hS (zk (by decide)) (zF_12 _) fRunner_detail q133 rfl rfl (Nat.le_of_ble_eq_true rfl) (zF_12 _) dRunner_run_71 (fun h71 H locs e71 hP hS => ?_)
        have hw := hw h71 e71
        refine lv_aload_n S.1 S.2.1 dRunner_run_74 rfl (lv_at hl 0 rfl) ?_
        refine lv_aload_n S.1 S.2.1 dRunner_run_75 rfl (lv_at hl 0 rfl) ?_
        refine zr_get S hK hP (zk (by decide)) (zF_12 _) fRunner_detail q133 rfl dRunner_run_76 ?_
        refine lv_if_ne S.1 S.2.1 dRunner_run_79 rfl (fun hc => ?_) (fun hc => ?_)
        · have hw := hw.1 hc
          refine lv_iconst (v := 3) S.1 S.2.1 dRunner_run_86 (by decide) ?_
          exact J87 _ _ _ _ _ hw (lv_sub hl [] rfl) hP hS
        · have hw := hw.2 hc
          refine lv_iconst (v := 0) S.1 S.2.1 dRunner_run_82 (by decide) ?_
          refine lv_goto S.1 S.2.1 dRunner_run_83 rfl ?_
          exact J87 _ _ _ _ _ hw (lv_sub hl [] rfl) hP hS
      · have hw := hw.2 hc
        refine lv_aload_n S.1 S.2.1 dRunner_run_33 rfl (lv_at hl 0 rfl) ?_
        refine lv_aload_n S.1 S.2.1 dRunner_run_34 rfl (lv_at hl 1 rfl) ?_
        refine lv_iload_n S.1 S.2.1 dRunner_run_35 rfl (lv_at hl 2 rfl) ?_
        refine zr_i (zr_V (As := [.ref (ad o1), .int v2]) (rest := []) S hK hT hN hP hS (zk (by decide)) (zF_12 _) rfl (cRunner_execute l D cI cC cE ad n ln A hJ o1 hq1 _ _ _ hw) caRunner_49 ⟨Nat.le_of_ble_eq_true rfl, Nat.le_of_ble_eq_true rfl⟩ ⟨rfl, rfl⟩ rfl hl.1 rfl (Nat.le_of_ble_eq_true rfl) dRunner_run_36) hS (fun r36 h36 H locs hw hP hS => ?_)
        refine lv_istore_n (lv' := [(3, .int r36), (0, .ref (ad 12)), (1, .ref (ad o1)), (2, .int v2)]) S.1 S.2.1 dRunner_run_39 rfl hl (by decide) rfl (fun ls hl => ?_)
        refine lv_iload_n S.1 S.2.1 dRunner_run_40 rfl (lv_at hl 0 rfl) ?_
        refine lv_if_eq S.1 S.2.1 dRunner_run_41 rfl (fun hc => ?_) (fun hc => ?_)
        · have hw := hw.1 hc
          refine lv_iinc (v := (v2 + 1)) (lv' := [(2, .int (v2 + 1)), (3, .int r36), (0, .ref (ad 12)), (1, .ref (ad o1))]) (k := 3) S.1 S.2.1 dRunner_run_52 hl rfl rfl (by decide) rfl (fun ls hl => ?_)
          refine lv_goto S.1 S.2.1 dRunner_run_55 rfl ?_
          exact ih25 _ _ _ _ _ hw (lv_sub hl [2, 3, 0] rfl) hP hS
        · have hw := hw.2 hc
          refine lv_aload_n S.1 S.2.1 dRunner_run_44 rfl (lv_at hl 1 rfl) ?_
          refine lv_aload_n S.1 S.2.1 dRunner_run_45 rfl (lv_at hl 2 rfl) ?_
          refine lv_iload_n S.1 S.2.1 dRunner_run_46 rfl (lv_at hl 3 rfl) ?_
          refine lv_iload_n S.1 S.2.1 dRunner_run_47 rfl (lv_at hl 0 rfl) ?_
          refine zr_v (zr_V (As := [.ref (ad o1), .int v2, .int r36]) (rest := []) S hK hT hN hP hS (zk (by decide)) (zF_12 _) rfl (cRunner_endWithTrouble l D cI cC cE ad n ln A hJ o1 hq1 _ _ _ _ hw) caRunner_53 ⟨Nat.le_of_ble_eq_true rfl, Nat.le_of_ble_eq_true rfl⟩ ⟨rfl, rfl⟩ rfl hl.1 rfl (Nat.le_of_ble_eq_true rfl) dRunner_run_48) hS (fun h48 H locs hw hP hS => ?_)
          exact zr_vret S hr hlk hK hP hS hw dRunner_run_51
  unfold wpRunner_run at hw
  refine lv_aload_n S.1 S.2.1 dRunner_run_0 rfl (lv_at hl 0 rfl) ?_
  refine zr_get S hK hP (zk (by decide)) (zF_12 _) fRunner_heap q125 rfl dRunner_run_1 ?_
  refine lv_iconst (v := 0) S.1 S.2.1 dRunner_run_4 (by decide) ?_
  refine zr_put S hK hJ hP hS (zk (by decide)) (zF_15 _) fHeap_count q106 rfl rfl (Nat.le_of_ble_eq_true rfl) (zF_15 _) dRunner_run_5 (fun h5 H locs e5 hP hS => ?_)
  have hw := hw h5 e5
  refine lv_aload_n S.1 S.2.1 dRunner_run_8 rfl (lv_at hl 0 rfl) ?_
  refine lv_iconst (v := 0) S.1 S.2.1 dRunner_run_9 (by decide) ?_
  refine zr_put S hK hJ hP hS (zk (by decide)) (zF_12 _) fRunner_gave q137 rfl rfl (Nat.le_of_ble_eq_true rfl) (zF_12 _) dRunner_run_10 (fun h10 H locs e10 hP hS => ?_)
  have hw := hw h10 e10
  refine lv_aload_n S.1 S.2.1 dRunner_run_13 rfl (lv_at hl 0 rfl) ?_
  refine lv_iconst (v := 0) S.1 S.2.1 dRunner_run_14 (by decide) ?_
  refine zr_put S hK hJ hP hS (zk (by decide)) (zF_12 _) fRunner_number q140 rfl rfl (Nat.le_of_ble_eq_true rfl) (zF_12 _) dRunner_run_15 (fun h15 H locs e15 hP hS => ?_)
  have hw := hw h15 e15
  refine lv_aload_n S.1 S.2.1 dRunner_run_18 rfl (lv_at hl 0 rfl) ?_
  refine lv_iconst (v := 0) S.1 S.2.1 dRunner_run_19 (by decide) ?_
  refine zr_put S hK hJ hP hS (zk (by decide)) (zF_12 _) fRunner_rowLength q143 rfl rfl (Nat.le_of_ble_eq_true rfl) (zF_12 _) dRunner_run_20 (fun h20 H locs e20 hP hS => ?_)
  have hw := hw h20 e20
  refine lv_iconst (v := 0) S.1 S.2.1 dRunner_run_23 (by decide) ?_
  refine lv_istore_n (lv' := [(2, .int 0), (0, .ref (ad 12)), (1, .ref (ad o1))]) S.1 S.2.1 dRunner_run_24 rfl hl (by decide) rfl (fun ls hl => ?_)
  obtain ⟨fu, hw⟩ := hw
  exact J25 fu _ _ _ _ _ hw (lv_sub hl [1, 2, 0] rfl) hP hS
