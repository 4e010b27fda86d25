/-! predicates and contracts, printed by wip/whole/gen -/
/-! Mod.peek -/
theorem dMod_peek_0 : decode bMod_peek 0 = .ok (.aload_n 0, 1) := by decide +kernel
theorem dMod_peek_1 : decode bMod_peek 1 = .ok (.getfield 281, 3) := by decide +kernel
theorem dMod_peek_4 : decode bMod_peek 4 = .ok (.aload_n 0, 1) := by decide +kernel
theorem dMod_peek_5 : decode bMod_peek 5 = .ok (.getfield 276, 3) := by decide +kernel
theorem dMod_peek_8 : decode bMod_peek 8 = .ok (.if_icmp .ge 15, 3) := by decide +kernel
theorem dMod_peek_11 : decode bMod_peek 11 = .ok (.aload_n 0, 1) := by decide +kernel
theorem dMod_peek_12 : decode bMod_peek 12 = .ok (.getfield 89, 3) := by decide +kernel
theorem dMod_peek_15 : decode bMod_peek 15 = .ok (.aload_n 0, 1) := by decide +kernel
theorem dMod_peek_16 : decode bMod_peek 16 = .ok (.getfield 281, 3) := by decide +kernel
theorem dMod_peek_19 : decode bMod_peek 19 = .ok (.iaload, 1) := by decide +kernel
theorem dMod_peek_20 : decode bMod_peek 20 = .ok (.goto 4, 3) := by decide +kernel
theorem dMod_peek_23 : decode bMod_peek 23 = .ok (.iconst 0, 1) := by decide +kernel
theorem dMod_peek_24 : decode bMod_peek 24 = .ok (.ireturn, 1) := by decide +kernel
def wpMod_peek (h : zM) (post : Int32 → zM → Prop) : Prop := ((((h 0 37) ≤ (h 0 41)) → post 0 h) ∧ (¬ ((h 0 37) ≤ (h 0 41)) → (vp_in (h 0 41) 200 ∧ post (h 26 (Int32.toNatClampNeg (h 0 41))) h)))
abbrev rmMod_peek : Room := { frames := 0, cells := 0, slots := 0, locals := 0 }
set_option maxHeartbeats 4000000 in
set_option maxRecDepth 100000 in
theorem cMod_peek (l : Launch) (D : va_G) (cI cC cE : ClassId) (ad : Nat → Nat) (A : Nat → Prop) (hJ : zJ A 28 ad) (h : zM) (post : Int32 → zM → Prop) (hw : wpMod_peek h post) : Met l yMod_peek (.code yMod_peek bMod_peek 1 (some .int) :: zt) rmMod_peek (va_Pc [.ref (ad 0)] (zPre D (zty cI cC cE) 28 ad (mF ad cI) A h)) (va_Qi post (zPst D (zty cI cC cE) 28 ad (mF ad cI)) A) 0 0 A := by
  refine Met.ofW (cc := bMod_peek) (maxL := 1) (ret := (some .int)) (by decide) rfl ?_
  intro p e s m args below meth c s₁ B hml hv
  obtain ⟨rfl, hP, hK, hT, hN⟩ := hv
  have hr := B.returns
  have hlk := B.notSynchronized
  have S : zS p m c bMod_peek 1 s _ "CallExplorerModel" := ⟨B.exec, B.bytes, hml, findClass_of_methodNamed B.named, fun w hw => atoms_spec (ws := .code yMod_peek bMod_peek 1 (some .int) :: zt) B.pre w (List.mem_cons_of_mem _ hw)⟩
  have hS : va_S A s.heap s.heap [] := va_S.rf
  have hl := lv_entry ([.ref (ad 0)]) (n := 1) (Nat.le_of_ble_eq_true rfl)
  rw [lg_entry_eq]
  generalize (lg_sl ([.ref (ad 0)]) ++ List.replicate (1 - (lg_sl ([.ref (ad 0)])).length) Slot.unset).toArray = ls at hl ⊢
  have hl : lv_has ls 1 [(0, .ref (ad 0))] := hl
  show W p l e rmMod_peek s m ([.ref (ad 0)] : List Value).toArray below meth c s.heap [] 0 0 (zQi post D (zty cI cC cE) 28 ad (mF ad cI) A below ([.ref (ad 0)] : List Value).toArray s) _
  unfold wpMod_peek at hw
  refine lv_aload_n S.1 S.2.1 dMod_peek_0 rfl (lv_at hl 0 rfl) ?_
  refine zr_get S hK hP (by decide) (mF_0 _) fMod_at q869 rfl dMod_peek_1 ?_
  refine lv_aload_n S.1 S.2.1 dMod_peek_4 rfl (lv_at hl 0 rfl) ?_
  refine zr_get S hK hP (by decide) (mF_0 _) fMod_drafted q865 rfl dMod_peek_5 ?_
  refine lv_icmp_ge S.1 S.2.1 dMod_peek_8 rfl (fun hc => ?_) (fun hc => ?_)
  · have hw := hw.1 hc
    refine lv_iconst (v := 0) S.1 S.2.1 dMod_peek_23 (by decide) ?_
    exact zr_iret S hr hlk hK hP hS rfl hw dMod_peek_24
  · have hw := hw.2 hc
    refine lv_aload_n S.1 S.2.1 dMod_peek_11 rfl (lv_at hl 0 rfl) ?_
    refine zr_get S hK hP (by decide) (mF_0 _) fMod_draft q866 rfl dMod_peek_12 ?_
    refine lv_aload_n S.1 S.2.1 dMod_peek_15 rfl (lv_at hl 0 rfl) ?_
    refine zr_get S hK hP (by decide) (mF_0 _) fMod_at q869 rfl dMod_peek_16 ?_
    obtain ⟨z19, hw⟩ := hw
    refine zr_ald S hK hP (by decide) (mF_26 _) 0 rfl z19 dMod_peek_19 ?_
    refine lv_goto S.1 S.2.1 dMod_peek_20 rfl ?_
    exact zr_iret S hr hlk hK hP hS rfl hw dMod_peek_24
/-! Mod.expect -/
theorem dMod_expect_0 : decode bMod_expect 0 = .ok (.aload_n 0, 1) := by decide +kernel
theorem dMod_expect_1 : decode bMod_expect 1 = .ok (.aload_n 0, 1) := by decide +kernel
theorem dMod_expect_2 : decode bMod_expect 2 = .ok (.getfield 284, 3) := by decide +kernel
theorem dMod_expect_5 : decode bMod_expect 5 = .ok (.ifCond .ne 11, 3) := by decide +kernel
theorem dMod_expect_8 : decode bMod_expect 8 = .ok (.aload_n 0, 1) := by decide +kernel
theorem dMod_expect_9 : decode bMod_expect 9 = .ok (.invokevirtual 288, 3) := by decide +kernel
theorem dMod_expect_12 : decode bMod_expect 12 = .ok (.iload_n 1, 1) := by decide +kernel
theorem dMod_expect_13 : decode bMod_expect 13 = .ok (.if_icmp .eq 7, 3) := by decide +kernel
theorem dMod_expect_16 : decode bMod_expect 16 = .ok (.iconst 1, 1) := by decide +kernel
theorem dMod_expect_17 : decode bMod_expect 17 = .ok (.goto 4, 3) := by decide +kernel
theorem dMod_expect_20 : decode bMod_expect 20 = .ok (.iconst 0, 1) := by decide +kernel
theorem dMod_expect_21 : decode bMod_expect 21 = .ok (.putfield 284, 3) := by decide +kernel
theorem dMod_expect_24 : decode bMod_expect 24 = .ok (.aload_n 0, 1) := by decide +kernel
theorem dMod_expect_25 : decode bMod_expect 25 = .ok (.dup, 1) := by decide +kernel
theorem dMod_expect_26 : decode bMod_expect 26 = .ok (.getfield 281, 3) := by decide +kernel
theorem dMod_expect_29 : decode bMod_expect 29 = .ok (.iconst 1, 1) := by decide +kernel
theorem dMod_expect_30 : decode bMod_expect 30 = .ok (.iadd, 1) := by decide +kernel
theorem dMod_expect_31 : decode bMod_expect 31 = .ok (.putfield 281, 3) := by decide +kernel
theorem dMod_expect_34 : decode bMod_expect 34 = .ok (.return_, 1) := by decide +kernel
def wbMod_expect_21 (post : zM → Prop) (k1 : Int32) (h : zM) : Prop := ((k1 = 0 ∨ k1 = 1) ∧ ∀ h21 : zM, h21 = zu h 0 42 k1 → ∀ h31 : zM, h31 = zu h21 0 41 ((h21 0 41) + 1) → post h31)
def wbMod_expect_16 (post : zM → Prop) (h : zM) : Prop := wbMod_expect_21 post 1 h
def wpMod_expect (x1 : Int32) (h : zM) (post : zM → Prop) : Prop := ((¬ (h 0 42) = 0 → wbMod_expect_16 post h) ∧ ((h 0 42) = 0 → wpMod_peek h (fun r9 h9 => ((r9 = x1 → wbMod_expect_21 post 0 h9) ∧ (¬ r9 = x1 → wbMod_expect_16 post h9)))))
abbrev rmMod_expect : Room := { frames := 1, cells := 0, slots := 0, locals := 20 }
set_option maxHeartbeats 4000000 in
set_option maxRecDepth 100000 in
theorem cMod_expect (l : Launch) (D : va_G) (cI cC cE : ClassId) (ad : Nat → Nat) (A : Nat → Prop) (hJ : zJ A 28 ad) (x1 : Int32) (h : zM) (post : zM → Prop) (hw : wpMod_expect x1 h post) : Met l yMod_expect (.code yMod_expect bMod_expect 2 none :: zt) rmMod_expect (va_Pc [.ref (ad 0), .int x1] (zPre D (zty cI cC cE) 28 ad (mF ad cI) A h)) (va_Qv post (zPst D (zty cI cC cE) 28 ad (mF ad cI)) A) 0 0 A := by
  refine Met.ofW (cc := bMod_expect) (maxL := 2) (ret := none) (by decide) rfl ?_
  intro p e s m args below meth c s₁ B hml hv
  obtain ⟨rfl, hP, hK, hT, hN⟩ := hv
  have hr := B.returns
  have hlk := B.notSynchronized
  have S : zS p m c bMod_expect 2 s _ "CallExplorerModel" := ⟨B.exec, B.bytes, hml, findClass_of_methodNamed B.named, fun w hw => atoms_spec (ws := .code yMod_expect bMod_expect 2 none :: zt) B.pre w (List.mem_cons_of_mem _ hw)⟩
  have hS : va_S A s.heap s.heap [] := va_S.rf
  have hl := lv_entry ([.ref (ad 0), .int x1]) (n := 2) (Nat.le_of_ble_eq_true rfl)
  rw [lg_entry_eq]
  generalize (lg_sl ([.ref (ad 0), .int x1]) ++ List.replicate (2 - (lg_sl ([.ref (ad 0), .int x1])).length) Slot.unset).toArray = ls at hl ⊢
  have hl : lv_has ls 2 [(0, .ref (ad 0)), (1, .int x1)] := hl
  show W p l e rmMod_expect s m ([.ref (ad 0), .int x1] : List Value).toArray below meth c s.heap [] 0 0 (zQv post D (zty cI cC cE) 28 ad (mF ad cI) A below ([.ref (ad 0), .int x1] : List Value).toArray s) _
  have J21 : ∀ (k1 : Int32) (h : zM) (H : Heap) (locs : List Loc) (ls : Array Slot), wbMod_expect_21 post k1 h → lv_has ls 2 [(0, .ref (ad 0))] → va_P D zcl (zW 28 ad (mF ad cI) h) H → va_S A s.heap H locs → W p l e rmMod_expect s m ([.ref (ad 0), .int x1] : List Value).toArray below meth c H locs 0 0 (zQv post D (zty cI cC cE) 28 ad (mF ad cI) A below ([.ref (ad 0), .int x1] : List Value).toArray s) (F0 m 21 ls [.int k1, .ref (ad 0)]) := by
    intro k1 h H locs ls hw hl hP hS
    unfold wbMod_expect_21 at hw
    obtain ⟨z21, hw⟩ := hw
    refine zr_put S hK hJ hP hS (by decide) (mF_0 _) fMod_bad q870 (zbn z21) (zbf z21) (Nat.le_of_ble_eq_true rfl) (mF_0 _) dMod_expect_21 (fun h21 H locs e21 hP hS => ?_)
    have hw := hw h21 e21
    refine lv_aload_n S.1 S.2.1 dMod_expect_24 rfl (lv_at hl 0 rfl) ?_
    refine lv_dup S.1 S.2.1 dMod_expect_25 rfl ?_
    refine zr_get S hK hP (by decide) (mF_0 _) fMod_at q869 rfl dMod_expect_26 ?_
    refine lv_iconst (v := 1) S.1 S.2.1 dMod_expect_29 (by decide) ?_
    refine lv_iadd S.1 S.2.1 dMod_expect_30 ?_
    refine zr_put S hK hJ hP hS (by decide) (mF_0 _) fMod_at q869 rfl rfl (Nat.le_of_ble_eq_true rfl) (mF_0 _) dMod_expect_31 (fun h31 H locs e31 hP hS => ?_)
    have hw := hw h31 e31
    exact zr_vret S hr hlk hK hP hS hw dMod_expect_34
  have J16 : ∀ (h : zM) (H : Heap) (locs : List Loc) (ls : Array Slot), wbMod_expect_16 post h → lv_has ls 2 [(0, .ref (ad 0))] → va_P D zcl (zW 28 ad (mF ad cI) h) H → va_S A s.heap H locs → W p l e rmMod_expect s m ([.ref (ad 0), .int x1] : List Value).toArray below meth c H locs 0 0 (zQv post D (zty cI cC cE) 28 ad (mF ad cI) A below ([.ref (ad 0), .int x1] : List Value).toArray s) (F0 m 16 ls [.ref (ad 0)]) := by
    intro  h H locs ls hw hl hP hS
    unfold wbMod_expect_16 at hw
    refine lv_iconst (v := 1) S.1 S.2.1 dMod_expect_16 (by decide) ?_
    refine lv_goto S.1 S.2.1 dMod_expect_17 rfl ?_
    exact J21 _ _ _ _ _ hw (lv_sub hl [0] rfl) hP hS
  unfold wpMod_expect at hw
  refine lv_aload_n S.1 S.2.1 dMod_expect_0 rfl (lv_at hl 0 rfl) ?_
  refine lv_aload_n S.1 S.2.1 dMod_expect_1 rfl (lv_at hl 0 rfl) ?_
  refine zr_get S hK hP (by decide) (mF_0 _) fMod_bad q870 rfl dMod_expect_2 ?_
  refine lv_if_ne S.1 S.2.1 dMod_expect_5 rfl (fun hc => ?_) (fun hc => ?_)
  · have hw := hw.1 hc
    exact J16  _ _ _ _ hw (lv_sub hl [0] rfl) hP hS
  · have hw := hw.2 hc
    refine lv_aload_n S.1 S.2.1 dMod_expect_8 rfl (lv_at hl 0 rfl) ?_
    refine zr_i (zr_V (As := []) (rest := [.ref (ad 0)]) S hK hT hN hP hS (by decide) (mF_0 _) rfl (cMod_peek l D cI cC cE ad A hJ _ _ hw) caMod_288 ⟨Nat.le_of_ble_eq_true rfl, Nat.le_of_ble_eq_true rfl⟩ ⟨rfl, rfl⟩ rfl hl.1 rfl (Nat.le_of_ble_eq_true rfl) dMod_expect_9) hS (fun r9 h9 H locs hw hP hS => ?_)
    refine lv_iload_n S.1 S.2.1 dMod_expect_12 rfl (lv_at hl 1 rfl) ?_
    refine lv_icmp_eq S.1 S.2.1 dMod_expect_13 rfl (fun hc => ?_) (fun hc => ?_)
    · have hw := hw.1 hc
      refine lv_iconst (v := 0) S.1 S.2.1 dMod_expect_20 (by decide) ?_
      exact J21 _ _ _ _ _ hw (lv_sub hl [0] rfl) hP hS
    · have hw := hw.2 hc
      exact J16  _ _ _ _ hw (lv_sub hl [0] rfl) hP hS
/-! Mod.digit -/
theorem dMod_digit_0 : decode bMod_digit 0 = .ok (.iload_n 0, 1) := by decide +kernel
theorem dMod_digit_1 : decode bMod_digit 1 = .ok (.bipush 48, 2) := by decide +kernel
theorem dMod_digit_3 : decode bMod_digit 3 = .ok (.if_icmp .lt 13, 3) := by decide +kernel
theorem dMod_digit_6 : decode bMod_digit 6 = .ok (.iload_n 0, 1) := by decide +kernel
theorem dMod_digit_7 : decode bMod_digit 7 = .ok (.bipush 57, 2) := by decide +kernel
theorem dMod_digit_9 : decode bMod_digit 9 = .ok (.if_icmp .gt 7, 3) := by decide +kernel
theorem dMod_digit_12 : decode bMod_digit 12 = .ok (.iconst 1, 1) := by decide +kernel
theorem dMod_digit_13 : decode bMod_digit 13 = .ok (.goto 4, 3) := by decide +kernel
theorem dMod_digit_16 : decode bMod_digit 16 = .ok (.iconst 0, 1) := by decide +kernel
theorem dMod_digit_17 : decode bMod_digit 17 = .ok (.ireturn, 1) := by decide +kernel
def wpMod_digit (x0 : Int32) (h : zM) (post : Int32 → zM → Prop) : Prop := (((x0 < 48) → post 0 h) ∧ (¬ (x0 < 48) → (((57 < x0) → post 0 h) ∧ (¬ (57 < x0) → post 1 h))))
abbrev rmMod_digit : Room := { frames := 0, cells := 0, slots := 0, locals := 0 }
set_option maxHeartbeats 4000000 in
set_option maxRecDepth 100000 in
theorem cMod_digit (l : Launch) (D : va_G) (cI cC cE : ClassId) (ad : Nat → Nat) (A : Nat → Prop) (hJ : zJ A 28 ad) (x0 : Int32) (h : zM) (post : Int32 → zM → Prop) (hw : wpMod_digit x0 h post) : Met l yMod_digit (.code yMod_digit bMod_digit 1 (some .boolean) :: zt) rmMod_digit (va_Pc [.int x0] (zPre D (zty cI cC cE) 28 ad (mF ad cI) A h)) (va_Qi post (zPst D (zty cI cC cE) 28 ad (mF ad cI)) A) 0 0 A := by
  refine Met.ofW (cc := bMod_digit) (maxL := 1) (ret := (some .boolean)) (by decide) rfl ?_
  intro p e s m args below meth c s₁ B hml hv
  obtain ⟨rfl, hP, hK, hT, hN⟩ := hv
  have hr := B.returns
  have hlk := B.notSynchronized
  have S : zS p m c bMod_digit 1 s _ "CallExplorerModel" := ⟨B.exec, B.bytes, hml, findClass_of_methodNamed B.named, fun w hw => atoms_spec (ws := .code yMod_digit bMod_digit 1 (some .boolean) :: zt) B.pre w (List.mem_cons_of_mem _ hw)⟩
  have hS : va_S A s.heap s.heap [] := va_S.rf
  have hl := lv_entry ([.int x0]) (n := 1) (Nat.le_of_ble_eq_true rfl)
  rw [lg_entry_eq]
  generalize (lg_sl ([.int x0]) ++ List.replicate (1 - (lg_sl ([.int x0])).length) Slot.unset).toArray = ls at hl ⊢
  have hl : lv_has ls 1 [(0, .int x0)] := hl
  show W p l e rmMod_digit s m ([.int x0] : List Value).toArray below meth c s.heap [] 0 0 (zQi post D (zty cI cC cE) 28 ad (mF ad cI) A below ([.int x0] : List Value).toArray s) _
  unfold wpMod_digit at hw
  refine lv_iload_n S.1 S.2.1 dMod_digit_0 rfl (lv_at hl 0 rfl) ?_
  refine lv_bipush (v := 48) S.1 S.2.1 dMod_digit_1 (by decide) ?_
  refine lv_icmp_lt S.1 S.2.1 dMod_digit_3 rfl (fun hc => ?_) (fun hc => ?_)
  · have hw := hw.1 hc
    refine lv_iconst (v := 0) S.1 S.2.1 dMod_digit_16 (by decide) ?_
    exact zr_iret S hr hlk hK hP hS rfl hw dMod_digit_17
  · have hw := hw.2 hc
    refine lv_iload_n S.1 S.2.1 dMod_digit_6 rfl (lv_at hl 0 rfl) ?_
    refine lv_bipush (v := 57) S.1 S.2.1 dMod_digit_7 (by decide) ?_
    refine lv_icmp_gt S.1 S.2.1 dMod_digit_9 rfl (fun hc => ?_) (fun hc => ?_)
    · have hw := hw.1 hc
      refine lv_iconst (v := 0) S.1 S.2.1 dMod_digit_16 (by decide) ?_
      exact zr_iret S hr hlk hK hP hS rfl hw dMod_digit_17
    · have hw := hw.2 hc
      refine lv_iconst (v := 1) S.1 S.2.1 dMod_digit_12 (by decide) ?_
      refine lv_goto S.1 S.2.1 dMod_digit_13 rfl ?_
      exact zr_iret S hr hlk hK hP hS rfl hw dMod_digit_17
/-! Mod.number -/
theorem dMod_number_0 : decode bMod_number 0 = .ok (.iload_n 1, 1) := by decide +kernel
theorem dMod_number_1 : decode bMod_number 1 = .ok (.ifCond .eq 16, 3) := by decide +kernel
theorem dMod_number_4 : decode bMod_number 4 = .ok (.aload_n 0, 1) := by decide +kernel
theorem dMod_number_5 : decode bMod_number 5 = .ok (.invokevirtual 288, 3) := by decide +kernel
theorem dMod_number_8 : decode bMod_number 8 = .ok (.bipush 45, 2) := by decide +kernel
theorem dMod_number_10 : decode bMod_number 10 = .ok (.if_icmp .ne 7, 3) := by decide +kernel
theorem dMod_number_13 : decode bMod_number 13 = .ok (.iconst 1, 1) := by decide +kernel
theorem dMod_number_14 : decode bMod_number 14 = .ok (.goto 4, 3) := by decide +kernel
theorem dMod_number_17 : decode bMod_number 17 = .ok (.iconst 0, 1) := by decide +kernel
theorem dMod_number_18 : decode bMod_number 18 = .ok (.istore_n 2, 1) := by decide +kernel
theorem dMod_number_19 : decode bMod_number 19 = .ok (.iload_n 2, 1) := by decide +kernel
theorem dMod_number_20 : decode bMod_number 20 = .ok (.ifCond .eq 13, 3) := by decide +kernel
theorem dMod_number_23 : decode bMod_number 23 = .ok (.aload_n 0, 1) := by decide +kernel
theorem dMod_number_24 : decode bMod_number 24 = .ok (.dup, 1) := by decide +kernel
theorem dMod_number_25 : decode bMod_number 25 = .ok (.getfield 281, 3) := by decide +kernel
theorem dMod_number_28 : decode bMod_number 28 = .ok (.iconst 1, 1) := by decide +kernel
theorem dMod_number_29 : decode bMod_number 29 = .ok (.iadd, 1) := by decide +kernel
theorem dMod_number_30 : decode bMod_number 30 = .ok (.putfield 281, 3) := by decide +kernel
theorem dMod_number_33 : decode bMod_number 33 = .ok (.aload_n 0, 1) := by decide +kernel
theorem dMod_number_34 : decode bMod_number 34 = .ok (.getfield 281, 3) := by decide +kernel
theorem dMod_number_37 : decode bMod_number 37 = .ok (.istore_n 3, 1) := by decide +kernel
theorem dMod_number_38 : decode bMod_number 38 = .ok (.lconst 0, 1) := by decide +kernel
theorem dMod_number_39 : decode bMod_number 39 = .ok (.lstore 4, 2) := by decide +kernel
theorem dMod_number_41 : decode bMod_number 41 = .ok (.aload_n 0, 1) := by decide +kernel
theorem dMod_number_42 : decode bMod_number 42 = .ok (.invokevirtual 288, 3) := by decide +kernel
theorem dMod_number_45 : decode bMod_number 45 = .ok (.invokestatic 291, 3) := by decide +kernel
theorem dMod_number_48 : decode bMod_number 48 = .ok (.ifCond .eq 45, 3) := by decide +kernel
theorem dMod_number_51 : decode bMod_number 51 = .ok (.aload_n 0, 1) := by decide +kernel
theorem dMod_number_52 : decode bMod_number 52 = .ok (.getfield 281, 3) := by decide +kernel
theorem dMod_number_55 : decode bMod_number 55 = .ok (.iload_n 3, 1) := by decide +kernel
theorem dMod_number_56 : decode bMod_number 56 = .ok (.isub, 1) := by decide +kernel
theorem dMod_number_57 : decode bMod_number 57 = .ok (.bipush 11, 2) := by decide +kernel
theorem dMod_number_59 : decode bMod_number 59 = .ok (.if_icmp .ge 34, 3) := by decide +kernel
theorem dMod_number_62 : decode bMod_number 62 = .ok (.ldc2_w 266, 3) := by decide +kernel
theorem dMod_number_65 : decode bMod_number 65 = .ok (.lload 4, 2) := by decide +kernel
theorem dMod_number_67 : decode bMod_number 67 = .ok (.lmul, 1) := by decide +kernel
theorem dMod_number_68 : decode bMod_number 68 = .ok (.aload_n 0, 1) := by decide +kernel
theorem dMod_number_69 : decode bMod_number 69 = .ok (.invokevirtual 288, 3) := by decide +kernel
theorem dMod_number_72 : decode bMod_number 72 = .ok (.i2l, 1) := by decide +kernel
theorem dMod_number_73 : decode bMod_number 73 = .ok (.ladd, 1) := by decide +kernel
theorem dMod_number_74 : decode bMod_number 74 = .ok (.ldc2_w 268, 3) := by decide +kernel
theorem dMod_number_77 : decode bMod_number 77 = .ok (.lsub, 1) := by decide +kernel
theorem dMod_number_78 : decode bMod_number 78 = .ok (.lstore 4, 2) := by decide +kernel
theorem dMod_number_80 : decode bMod_number 80 = .ok (.aload_n 0, 1) := by decide +kernel
theorem dMod_number_81 : decode bMod_number 81 = .ok (.dup, 1) := by decide +kernel
theorem dMod_number_82 : decode bMod_number 82 = .ok (.getfield 281, 3) := by decide +kernel
theorem dMod_number_85 : decode bMod_number 85 = .ok (.iconst 1, 1) := by decide +kernel
theorem dMod_number_86 : decode bMod_number 86 = .ok (.iadd, 1) := by decide +kernel
theorem dMod_number_87 : decode bMod_number 87 = .ok (.putfield 281, 3) := by decide +kernel
theorem dMod_number_90 : decode bMod_number 90 = .ok (.goto (-49), 3) := by decide +kernel
theorem dMod_number_93 : decode bMod_number 93 = .ok (.aload_n 0, 1) := by decide +kernel
theorem dMod_number_94 : decode bMod_number 94 = .ok (.getfield 281, 3) := by decide +kernel
theorem dMod_number_97 : decode bMod_number 97 = .ok (.iload_n 3, 1) := by decide +kernel
theorem dMod_number_98 : decode bMod_number 98 = .ok (.isub, 1) := by decide +kernel
theorem dMod_number_99 : decode bMod_number 99 = .ok (.iconst 1, 1) := by decide +kernel
theorem dMod_number_100 : decode bMod_number 100 = .ok (.if_icmp .le 14, 3) := by decide +kernel
theorem dMod_number_103 : decode bMod_number 103 = .ok (.aload_n 0, 1) := by decide +kernel
theorem dMod_number_104 : decode bMod_number 104 = .ok (.getfield 89, 3) := by decide +kernel
theorem dMod_number_107 : decode bMod_number 107 = .ok (.iload_n 3, 1) := by decide +kernel
theorem dMod_number_108 : decode bMod_number 108 = .ok (.iaload, 1) := by decide +kernel
theorem dMod_number_109 : decode bMod_number 109 = .ok (.bipush 48, 2) := by decide +kernel
theorem dMod_number_111 : decode bMod_number 111 = .ok (.if_icmp .eq 14, 3) := by decide +kernel
theorem dMod_number_114 : decode bMod_number 114 = .ok (.iload_n 2, 1) := by decide +kernel
theorem dMod_number_115 : decode bMod_number 115 = .ok (.ifCond .eq 14, 3) := by decide +kernel
theorem dMod_number_118 : decode bMod_number 118 = .ok (.lload 4, 2) := by decide +kernel
theorem dMod_number_120 : decode bMod_number 120 = .ok (.lconst 0, 1) := by decide +kernel
theorem dMod_number_121 : decode bMod_number 121 = .ok (.lcmp, 1) := by decide +kernel
theorem dMod_number_122 : decode bMod_number 122 = .ok (.ifCond .ne 7, 3) := by decide +kernel
theorem dMod_number_125 : decode bMod_number 125 = .ok (.iconst 1, 1) := by decide +kernel
theorem dMod_number_126 : decode bMod_number 126 = .ok (.goto 4, 3) := by decide +kernel
theorem dMod_number_129 : decode bMod_number 129 = .ok (.iconst 0, 1) := by decide +kernel
theorem dMod_number_130 : decode bMod_number 130 = .ok (.istore 6, 2) := by decide +kernel
theorem dMod_number_132 : decode bMod_number 132 = .ok (.iload_n 2, 1) := by decide +kernel
theorem dMod_number_133 : decode bMod_number 133 = .ok (.ifCond .eq 9, 3) := by decide +kernel
theorem dMod_number_136 : decode bMod_number 136 = .ok (.lload 4, 2) := by decide +kernel
theorem dMod_number_138 : decode bMod_number 138 = .ok (.lneg, 1) := by decide +kernel
theorem dMod_number_139 : decode bMod_number 139 = .ok (.goto 5, 3) := by decide +kernel
theorem dMod_number_142 : decode bMod_number 142 = .ok (.lload 4, 2) := by decide +kernel
theorem dMod_number_144 : decode bMod_number 144 = .ok (.lstore 7, 2) := by decide +kernel
theorem dMod_number_146 : decode bMod_number 146 = .ok (.aload_n 0, 1) := by decide +kernel
theorem dMod_number_147 : decode bMod_number 147 = .ok (.aload_n 0, 1) := by decide +kernel
theorem dMod_number_148 : decode bMod_number 148 = .ok (.getfield 284, 3) := by decide +kernel
theorem dMod_number_151 : decode bMod_number 151 = .ok (.ifCond .ne 36, 3) := by decide +kernel
theorem dMod_number_154 : decode bMod_number 154 = .ok (.aload_n 0, 1) := by decide +kernel
theorem dMod_number_155 : decode bMod_number 155 = .ok (.getfield 281, 3) := by decide +kernel
theorem dMod_number_158 : decode bMod_number 158 = .ok (.iload_n 3, 1) := by decide +kernel
theorem dMod_number_159 : decode bMod_number 159 = .ok (.if_icmp .eq 28, 3) := by decide +kernel
theorem dMod_number_162 : decode bMod_number 162 = .ok (.aload_n 0, 1) := by decide +kernel
theorem dMod_number_163 : decode bMod_number 163 = .ok (.invokevirtual 288, 3) := by decide +kernel
theorem dMod_number_166 : decode bMod_number 166 = .ok (.invokestatic 291, 3) := by decide +kernel
theorem dMod_number_169 : decode bMod_number 169 = .ok (.ifCond .ne 18, 3) := by decide +kernel
theorem dMod_number_172 : decode bMod_number 172 = .ok (.iload 6, 2) := by decide +kernel
theorem dMod_number_174 : decode bMod_number 174 = .ok (.ifCond .ne 13, 3) := by decide +kernel
theorem dMod_number_177 : decode bMod_number 177 = .ok (.lload 7, 2) := by decide +kernel
theorem dMod_number_179 : decode bMod_number 179 = .ok (.lload 7, 2) := by decide +kernel
theorem dMod_number_181 : decode bMod_number 181 = .ok (.l2i, 1) := by decide +kernel
theorem dMod_number_182 : decode bMod_number 182 = .ok (.i2l, 1) := by decide +kernel
theorem dMod_number_183 : decode bMod_number 183 = .ok (.lcmp, 1) := by decide +kernel
theorem dMod_number_184 : decode bMod_number 184 = .ok (.ifCond .eq 7, 3) := by decide +kernel
theorem dMod_number_187 : decode bMod_number 187 = .ok (.iconst 1, 1) := by decide +kernel
theorem dMod_number_188 : decode bMod_number 188 = .ok (.goto 4, 3) := by decide +kernel
theorem dMod_number_191 : decode bMod_number 191 = .ok (.iconst 0, 1) := by decide +kernel
theorem dMod_number_192 : decode bMod_number 192 = .ok (.putfield 284, 3) := by decide +kernel
theorem dMod_number_195 : decode bMod_number 195 = .ok (.lload 7, 2) := by decide +kernel
theorem dMod_number_197 : decode bMod_number 197 = .ok (.l2i, 1) := by decide +kernel
theorem dMod_number_198 : decode bMod_number 198 = .ok (.ireturn, 1) := by decide +kernel
def wbMod_number_192 (post : Int32 → zM → Prop) (u7 : Int64) (k1 : Int32) (h : zM) : Prop := ((k1 = 0 ∨ k1 = 1) ∧ ∀ h192 : zM, h192 = zu h 0 42 k1 → post (Int64.toInt32 u7) h192)
def wbMod_number_187 (post : Int32 → zM → Prop) (u7 : Int64) (h : zM) : Prop := wbMod_number_192 post u7 1 h
def wbMod_number_144 (post : Int32 → zM → Prop) (v3 : Int32) (v6 : Int32) (k0 : Int64) (h : zM) : Prop := ((¬ (h 0 42) = 0 → wbMod_number_187 post k0 h) ∧ ((h 0 42) = 0 → (((h 0 41) = v3 → wbMod_number_187 post k0 h) ∧ (¬ (h 0 41) = v3 → wpMod_peek h (fun r163 h163 => wpMod_digit r163 h163 (fun r166 h166 => ((¬ r166 = 0 → wbMod_number_187 post k0 h166) ∧ (r166 = 0 → ((¬ v6 = 0 → wbMod_number_187 post k0 h166) ∧ (v6 = 0 → (((lg_cmp k0 (Int32.toInt64 (Int64.toInt32 k0))) = 0 → wbMod_number_192 post k0 0 h166) ∧ (¬ (lg_cmp k0 (Int32.toInt64 (Int64.toInt32 k0))) = 0 → wbMod_number_187 post k0 h166))))))))))))
def wbMod_number_130 (post : Int32 → zM → Prop) (v2 : Int32) (v3 : Int32) (u4 : Int64) (k0 : Int32) (h : zM) : Prop := ((v2 = 0 → wbMod_number_144 post v3 k0 u4 h) ∧ (¬ v2 = 0 → wbMod_number_144 post v3 k0 (-u4) h))
def wbMod_number_129 (post : Int32 → zM → Prop) (v2 : Int32) (v3 : Int32) (u4 : Int64) (h : zM) : Prop := wbMod_number_130 post v2 v3 u4 0 h
def wbMod_number_125 (post : Int32 → zM → Prop) (v2 : Int32) (v3 : Int32) (u4 : Int64) (h : zM) : Prop := wbMod_number_130 post v2 v3 u4 1 h
def wbMod_number_114 (post : Int32 → zM → Prop) (v2 : Int32) (v3 : Int32) (u4 : Int64) (h : zM) : Prop := ((v2 = 0 → wbMod_number_129 post v2 v3 u4 h) ∧ (¬ v2 = 0 → ((¬ (lg_cmp u4 0) = 0 → wbMod_number_129 post v2 v3 u4 h) ∧ ((lg_cmp u4 0) = 0 → wbMod_number_125 post v2 v3 u4 h))))
def wbMod_number_93 (post : Int32 → zM → Prop) (v2 : Int32) (v3 : Int32) (u4 : Int64) (h : zM) : Prop := (((((h 0 41) - v3) ≤ 1) → wbMod_number_114 post v2 v3 u4 h) ∧ (¬ (((h 0 41) - v3) ≤ 1) → (vp_in v3 200 ∧ (((h 26 (Int32.toNatClampNeg v3)) = 48 → wbMod_number_125 post v2 v3 u4 h) ∧ (¬ (h 26 (Int32.toNatClampNeg v3)) = 48 → wbMod_number_114 post v2 v3 u4 h)))))
def stMod_number_41 (post : Int32 → zM → Prop) (L41 : (Int32 × Int32 × Int64 × zM) → Prop) : (Int32 × Int32 × Int64 × zM) → Prop := fun s => match s with
  | (v2, v3, u4, h) => wpMod_peek h (fun r42 h42 => wpMod_digit r42 h42 (fun r45 h45 => ((r45 = 0 → wbMod_number_93 post v2 v3 u4 h45) ∧ (¬ r45 = 0 → (((11 ≤ ((h45 0 41) - v3)) → wbMod_number_93 post v2 v3 u4 h45) ∧ (¬ (11 ≤ ((h45 0 41) - v3)) → wpMod_peek h45 (fun r69 h69 => ∀ y78 : Int64, y78 = (((10 * u4) + (Int32.toInt64 r69)) - 48) → ∀ h87 : zM, h87 = zu h69 0 41 ((h69 0 41) + 1) → L41 (v2, v3, y78, h87))))))))
def wbMod_number_33 (post : Int32 → zM → Prop) (v2 : Int32) (h : zM) : Prop := ∀ y37 : Int32, y37 = (h 0 41) → zL (stMod_number_41 post) (v2, y37, 0, h)
def wbMod_number_18 (post : Int32 → zM → Prop) (k0 : Int32) (h : zM) : Prop := ((k0 = 0 → wbMod_number_33 post k0 h) ∧ (¬ k0 = 0 → ∀ h30 : zM, h30 = zu h 0 41 ((h 0 41) + 1) → wbMod_number_33 post k0 h30))
def wbMod_number_17 (post : Int32 → zM → Prop) (h : zM) : Prop := wbMod_number_18 post 0 h
def wpMod_number (x1 : Int32) (h : zM) (post : Int32 → zM → Prop) : Prop := ((x1 = 0 → wbMod_number_17 post h) ∧ (¬ x1 = 0 → wpMod_peek h (fun r5 h5 => ((¬ r5 = 45 → wbMod_number_17 post h5) ∧ (r5 = 45 → wbMod_number_18 post 1 h5)))))
abbrev rmMod_number : Room := { frames := 1, cells := 0, slots := 0, locals := 20 }
set_option maxHeartbeats 4000000 in
set_option maxRecDepth 100000 in
theorem cMod_number (l : Launch) (D : va_G) (cI cC cE : ClassId) (ad : Nat → Nat) (A : Nat → Prop) (hJ : zJ A 28 ad) (x1 : Int32) (h : zM) (post : Int32 → zM → Prop) (hw : wpMod_number x1 h post) : Met l yMod_number (.code yMod_number bMod_number 9 (some .int) :: zt) rmMod_number (va_Pc [.ref (ad 0), .int x1] (zPre D (zty cI cC cE) 28 ad (mF ad cI) A h)) (va_Qi post (zPst D (zty cI cC cE) 28 ad (mF ad cI)) A) 0 0 A := by
  refine Met.ofW (cc := bMod_number) (maxL := 9) (ret := (some .int)) (by decide) rfl ?_
  intro p e s m args below meth c s₁ B hml hv
  obtain ⟨rfl, hP, hK, hT, hN⟩ := hv
  have hr := B.returns
  have hlk := B.notSynchronized
  have S : zS p m c bMod_number 9 s _ "CallExplorerModel" := ⟨B.exec, B.bytes, hml, findClass_of_methodNamed B.named, fun w hw => atoms_spec (ws := .code yMod_number bMod_number 9 (some .int) :: zt) B.pre w (List.mem_cons_of_mem _ hw)⟩
  have hS : va_S A s.heap s.heap [] := va_S.rf
  have hl := lv_entry ([.ref (ad 0), .int x1]) (n := 9) (Nat.le_of_ble_eq_true rfl)
  rw [lg_entry_eq]
  generalize (lg_sl ([.ref (ad 0), .int x1]) ++ List.replicate (9 - (lg_sl ([.ref (ad 0), .int x1])).length) Slot.unset).toArray = ls at hl ⊢
  have hl : lv_has ls 9 [(0, .ref (ad 0)), (1, .int x1)] := hl
  show W p l e rmMod_number s m ([.ref (ad 0), .int x1] : List Value).toArray below meth c s.heap [] 0 0 (zQi post D (zty cI cC cE) 28 ad (mF ad cI) A below ([.ref (ad 0), .int x1] : List Value).toArray s) _
  have J192 : ∀ (u7 : Int64) (k1 : Int32) (h : zM) (H : Heap) (locs : List Loc) (ls : Array Slot), wbMod_number_192 post u7 k1 h → lv_has ls 9 [(7, .long u7)] → va_P D zcl (zW 28 ad (mF ad cI) h) H → va_S A s.heap H locs → W p l e rmMod_number s m ([.ref (ad 0), .int x1] : List Value).toArray below meth c H locs 0 0 (zQi post D (zty cI cC cE) 28 ad (mF ad cI) A below ([.ref (ad 0), .int x1] : List Value).toArray s) (F0 m 192 ls [.int k1, .ref (ad 0)]) := by
    intro u7 k1 h H locs ls hw hl hP hS
    unfold wbMod_number_192 at hw
    obtain ⟨z192, hw⟩ := hw
    refine zr_put S hK hJ hP hS (by decide) (mF_0 _) fMod_bad q870 (zbn z192) (zbf z192) (Nat.le_of_ble_eq_true rfl) (mF_0 _) dMod_number_192 (fun h192 H locs e192 hP hS => ?_)
    have hw := hw h192 e192
    refine lv_lload S.1 S.2.1 dMod_number_195 (lv_at hl 0 rfl) ?_
    refine lv_l2i S.1 S.2.1 dMod_number_197 rfl ?_
    exact zr_iret S hr hlk hK hP hS rfl hw dMod_number_198
  have J187 : ∀ (u7 : Int64) (h : zM) (H : Heap) (locs : List Loc) (ls : Array Slot), wbMod_number_187 post u7 h → lv_has ls 9 [(7, .long u7)] → va_P D zcl (zW 28 ad (mF ad cI) h) H → va_S A s.heap H locs → W p l e rmMod_number s m ([.ref (ad 0), .int x1] : List Value).toArray below meth c H locs 0 0 (zQi post D (zty cI cC cE) 28 ad (mF ad cI) A below ([.ref (ad 0), .int x1] : List Value).toArray s) (F0 m 187 ls [.ref (ad 0)]) := by
    intro u7 h H locs ls hw hl hP hS
    unfold wbMod_number_187 at hw
    refine lv_iconst (v := 1) S.1 S.2.1 dMod_number_187 (by decide) ?_
    refine lv_goto S.1 S.2.1 dMod_number_188 rfl ?_
    exact J192 _ _ _ _ _ _ hw (lv_sub hl [0] rfl) hP hS
  have J144 : ∀ (v3 : Int32) (v6 : Int32) (k0 : Int64) (h : zM) (H : Heap) (locs : List Loc) (ls : Array Slot), wbMod_number_144 post v3 v6 k0 h → lv_has ls 9 [(0, .ref (ad 0)), (3, .int v3), (6, .int v6)] → va_P D zcl (zW 28 ad (mF ad cI) h) H → va_S A s.heap H locs → W p l e rmMod_number s m ([.ref (ad 0), .int x1] : List Value).toArray below meth c H locs 0 0 (zQi post D (zty cI cC cE) 28 ad (mF ad cI) A below ([.ref (ad 0), .int x1] : List Value).toArray s) (F0 m 144 ls [.long k0]) := by
    intro v3 v6 k0 h H locs ls hw hl hP hS
    unfold wbMod_number_144 at hw
    refine lv_lstore (lv' := [(7, .long k0), (0, .ref (ad 0)), (3, .int v3), (6, .int v6)]) S.1 S.2.1 dMod_number_144 hl (by decide) rfl (fun ls hl => ?_)
    refine lv_aload_n S.1 S.2.1 dMod_number_146 rfl (lv_at hl 1 rfl) ?_
    refine lv_aload_n S.1 S.2.1 dMod_number_147 rfl (lv_at hl 1 rfl) ?_
    refine zr_get S hK hP (by decide) (mF_0 _) fMod_bad q870 rfl dMod_number_148 ?_
    refine lv_if_ne S.1 S.2.1 dMod_number_151 rfl (fun hc => ?_) (fun hc => ?_)
    · have hw := hw.1 hc
      exact J187 _ _ _ _ _ hw (lv_sub hl [0] rfl) hP hS
    · have hw := hw.2 hc
      refine lv_aload_n S.1 S.2.1 dMod_number_154 rfl (lv_at hl 1 rfl) ?_
      refine zr_get S hK hP (by decide) (mF_0 _) fMod_at q869 rfl dMod_number_155 ?_
      refine lv_iload_n S.1 S.2.1 dMod_number_158 rfl (lv_at hl 2 rfl) ?_
      refine lv_icmp_eq S.1 S.2.1 dMod_number_159 rfl (fun hc => ?_) (fun hc => ?_)
      · have hw := hw.1 hc
        exact J187 _ _ _ _ _ hw (lv_sub hl [0] rfl) hP hS
      · have hw := hw.2 hc
        refine lv_aload_n S.1 S.2.1 dMod_number_162 rfl (lv_at hl 1 rfl) ?_
        refine zr_i (zr_V (As := []) (rest := [.ref (ad 0)]) S hK hT hN hP hS (by decide) (mF_0 _) rfl (cMod_peek l D cI cC cE ad A hJ _ _ hw) caMod_288 ⟨Nat.le_of_ble_eq_true rfl, Nat.le_of_ble_eq_true rfl⟩ ⟨rfl, rfl⟩ rfl hl.1 rfl (Nat.le_of_ble_eq_true rfl) dMod_number_163) hS (fun r163 h163 H locs hw hP hS => ?_)
        refine zr_i (zr_T (As := [.int r163]) (rest := [.ref (ad 0)]) S hK hT hN hP hS (cMod_digit l D cI cC cE ad A hJ _ _ _ hw) caMod_291 ⟨Nat.le_of_ble_eq_true rfl, Nat.le_of_ble_eq_true rfl⟩ ⟨rfl, rfl⟩ rfl hl.1 rfl (Nat.le_of_ble_eq_true rfl) dMod_number_166) hS (fun r166 h166 H locs hw hP hS => ?_)
        refine lv_if_ne S.1 S.2.1 dMod_number_169 rfl (fun hc => ?_) (fun hc => ?_)
        · have hw := hw.1 hc
          exact J187 _ _ _ _ _ hw (lv_sub hl [0] rfl) hP hS
        · have hw := hw.2 hc
          refine lv_iload S.1 S.2.1 dMod_number_172 (lv_at hl 3 rfl) ?_
          refine lv_if_ne S.1 S.2.1 dMod_number_174 rfl (fun hc => ?_) (fun hc => ?_)
          · have hw := hw.1 hc
            exact J187 _ _ _ _ _ hw (lv_sub hl [0] rfl) hP hS
          · have hw := hw.2 hc
            refine lv_lload S.1 S.2.1 dMod_number_177 (lv_at hl 0 rfl) ?_
            refine lv_lload S.1 S.2.1 dMod_number_179 (lv_at hl 0 rfl) ?_
            refine lv_l2i S.1 S.2.1 dMod_number_181 rfl ?_
            refine lv_i2l S.1 S.2.1 dMod_number_182 rfl ?_
            refine W.lcmp S.1 S.2.1 dMod_number_183 ?_
            refine lv_if_eq S.1 S.2.1 dMod_number_184 rfl (fun hc => ?_) (fun hc => ?_)
            · have hw := hw.1 hc
              refine lv_iconst (v := 0) S.1 S.2.1 dMod_number_191 (by decide) ?_
              exact J192 _ _ _ _ _ _ hw (lv_sub hl [0] rfl) hP hS
            · have hw := hw.2 hc
              exact J187 _ _ _ _ _ hw (lv_sub hl [0] rfl) hP hS
  have J130 : ∀ (v2 : Int32) (v3 : Int32) (u4 : Int64) (k0 : Int32) (h : zM) (H : Heap) (locs : List Loc) (ls : Array Slot), wbMod_number_130 post v2 v3 u4 k0 h → lv_has ls 9 [(0, .ref (ad 0)), (2, .int v2), (3, .int v3), (4, .long u4)] → va_P D zcl (zW 28 ad (mF ad cI) h) H → va_S A s.heap H locs → W p l e rmMod_number s m ([.ref (ad 0), .int x1] : List Value).toArray below meth c H locs 0 0 (zQi post D (zty cI cC cE) 28 ad (mF ad cI) A below ([.ref (ad 0), .int x1] : List Value).toArray s) (F0 m 130 ls [.int k0]) := by
    intro v2 v3 u4 k0 h H locs ls hw hl hP hS
    unfold wbMod_number_130 at hw
    refine lv_istore (lv' := [(6, .int k0), (0, .ref (ad 0)), (2, .int v2), (3, .int v3), (4, .long u4)]) S.1 S.2.1 dMod_number_130 hl (by decide) rfl (fun ls hl => ?_)
    refine lv_iload_n S.1 S.2.1 dMod_number_132 rfl (lv_at hl 2 rfl) ?_
    refine lv_if_eq S.1 S.2.1 dMod_number_133 rfl (fun hc => ?_) (fun hc => ?_)
    · have hw := hw.1 hc
      refine lv_lload S.1 S.2.1 dMod_number_142 (lv_at hl 4 rfl) ?_
      exact J144 _ _ _ _ _ _ _ hw (lv_sub hl [1, 3, 0] rfl) hP hS
    · have hw := hw.2 hc
      refine lv_lload S.1 S.2.1 dMod_number_136 (lv_at hl 4 rfl) ?_
      refine lv_lneg S.1 S.2.1 dMod_number_138 ?_
      refine lv_goto S.1 S.2.1 dMod_number_139 rfl ?_
      exact J144 _ _ _ _ _ _ _ hw (lv_sub hl [1, 3, 0] rfl) hP hS
  have J129 : ∀ (v2 : Int32) (v3 : Int32) (u4 : Int64) (h : zM) (H : Heap) (locs : List Loc) (ls : Array Slot), wbMod_number_129 post v2 v3 u4 h → lv_has ls 9 [(0, .ref (ad 0)), (2, .int v2), (3, .int v3), (4, .long u4)] → va_P D zcl (zW 28 ad (mF ad cI) h) H → va_S A s.heap H locs → W p l e rmMod_number s m ([.ref (ad 0), .int x1] : List Value).toArray below meth c H locs 0 0 (zQi post D (zty cI cC cE) 28 ad (mF ad cI) A below ([.ref (ad 0), .int x1] : List Value).toArray s) (F0 m 129 ls []) := by
    intro v2 v3 u4 h H locs ls hw hl hP hS
    unfold wbMod_number_129 at hw
    refine lv_iconst (v := 0) S.1 S.2.1 dMod_number_129 (by decide) ?_
    exact J130 _ _ _ _ _ _ _ _ hw (lv_sub hl [0, 1, 2, 3] rfl) hP hS
  have J125 : ∀ (v2 : Int32) (v3 : Int32) (u4 : Int64) (h : zM) (H : Heap) (locs : List Loc) (ls : Array Slot), wbMod_number_125 post v2 v3 u4 h → lv_has ls 9 [(0, .ref (ad 0)), (2, .int v2), (3, .int v3), (4, .long u4)] → va_P D zcl (zW 28 ad (mF ad cI) h) H → va_S A s.heap H locs → W p l e rmMod_number s m ([.ref (ad 0), .int x1] : List Value).toArray below meth c H locs 0 0 (zQi post D (zty cI cC cE) 28 ad (mF ad cI) A below ([.ref (ad 0), .int x1] : List Value).toArray s) (F0 m 125 ls []) := by
    intro v2 v3 u4 h H locs ls hw hl hP hS
    unfold wbMod_number_125 at hw
    refine lv_iconst (v := 1) S.1 S.2.1 dMod_number_125 (by decide) ?_
    refine lv_goto S.1 S.2.1 dMod_number_126 rfl ?_
    exact J130 _ _ _ _ _ _ _ _ hw (lv_sub hl [0, 1, 2, 3] rfl) hP hS
  have J114 : ∀ (v2 : Int32) (v3 : Int32) (u4 : Int64) (h : zM) (H : Heap) (locs : List Loc) (ls : Array Slot), wbMod_number_114 post v2 v3 u4 h → lv_has ls 9 [(0, .ref (ad 0)), (2, .int v2), (3, .int v3), (4, .long u4)] → va_P D zcl (zW 28 ad (mF ad cI) h) H → va_S A s.heap H locs → W p l e rmMod_number s m ([.ref (ad 0), .int x1] : List Value).toArray below meth c H locs 0 0 (zQi post D (zty cI cC cE) 28 ad (mF ad cI) A below ([.ref (ad 0), .int x1] : List Value).toArray s) (F0 m 114 ls []) := by
    intro v2 v3 u4 h H locs ls hw hl hP hS
    unfold wbMod_number_114 at hw
    refine lv_iload_n S.1 S.2.1 dMod_number_114 rfl (lv_at hl 1 rfl) ?_
    refine lv_if_eq S.1 S.2.1 dMod_number_115 rfl (fun hc => ?_) (fun hc => ?_)
    · have hw := hw.1 hc
      exact J129 _ _ _ _ _ _ _ hw (lv_sub hl [0, 1, 2, 3] rfl) hP hS
    · have hw := hw.2 hc
      refine lv_lload S.1 S.2.1 dMod_number_118 (lv_at hl 3 rfl) ?_
      refine lv_lconst (v := 0) S.1 S.2.1 dMod_number_120 (by decide) ?_
      refine W.lcmp S.1 S.2.1 dMod_number_121 ?_
      refine lv_if_ne S.1 S.2.1 dMod_number_122 rfl (fun hc => ?_) (fun hc => ?_)
      · have hw := hw.1 hc
        exact J129 _ _ _ _ _ _ _ hw (lv_sub hl [0, 1, 2, 3] rfl) hP hS
      · have hw := hw.2 hc
        exact J125 _ _ _ _ _ _ _ hw (lv_sub hl [0, 1, 2, 3] rfl) hP hS
  have J93 : ∀ (v2 : Int32) (v3 : Int32) (u4 : Int64) (h : zM) (H : Heap) (locs : List Loc) (ls : Array Slot), wbMod_number_93 post v2 v3 u4 h → lv_has ls 9 [(0, .ref (ad 0)), (2, .int v2), (3, .int v3), (4, .long u4)] → va_P D zcl (zW 28 ad (mF ad cI) h) H → va_S A s.heap H locs → W p l e rmMod_number s m ([.ref (ad 0), .int x1] : List Value).toArray below meth c H locs 0 0 (zQi post D (zty cI cC cE) 28 ad (mF ad cI) A below ([.ref (ad 0), .int x1] : List Value).toArray s) (F0 m 93 ls []) := by
    intro v2 v3 u4 h H locs ls hw hl hP hS
    unfold wbMod_number_93 at hw
    refine lv_aload_n S.1 S.2.1 dMod_number_93 rfl (lv_at hl 0 rfl) ?_
    refine zr_get S hK hP (by decide) (mF_0 _) fMod_at q869 rfl dMod_number_94 ?_
    refine lv_iload_n S.1 S.2.1 dMod_number_97 rfl (lv_at hl 2 rfl) ?_
    refine lv_isub S.1 S.2.1 dMod_number_98 ?_
    refine lv_iconst (v := 1) S.1 S.2.1 dMod_number_99 (by decide) ?_
    refine lv_icmp_le S.1 S.2.1 dMod_number_100 rfl (fun hc => ?_) (fun hc => ?_)
    · have hw := hw.1 hc
      exact J114 _ _ _ _ _ _ _ hw (lv_sub hl [0, 1, 2, 3] rfl) hP hS
    · have hw := hw.2 hc
      refine lv_aload_n S.1 S.2.1 dMod_number_103 rfl (lv_at hl 0 rfl) ?_
      refine zr_get S hK hP (by decide) (mF_0 _) fMod_draft q866 rfl dMod_number_104 ?_
      refine lv_iload_n S.1 S.2.1 dMod_number_107 rfl (lv_at hl 2 rfl) ?_
      obtain ⟨z108, hw⟩ := hw
      refine zr_ald S hK hP (by decide) (mF_26 _) 0 rfl z108 dMod_number_108 ?_
      refine lv_bipush (v := 48) S.1 S.2.1 dMod_number_109 (by decide) ?_
      refine lv_icmp_eq S.1 S.2.1 dMod_number_111 rfl (fun hc => ?_) (fun hc => ?_)
      · have hw := hw.1 hc
        exact J125 _ _ _ _ _ _ _ hw (lv_sub hl [0, 1, 2, 3] rfl) hP hS
      · have hw := hw.2 hc
        exact J114 _ _ _ _ _ _ _ hw (lv_sub hl [0, 1, 2, 3] rfl) hP hS
  have J41 : ∀ (fu : Nat) (v2 : Int32) (v3 : Int32) (u4 : Int64) (h : zM) (H : Heap) (locs : List Loc) (ls : Array Slot), zl (stMod_number_41 post) fu (v2, v3, u4, h) → lv_has ls 9 [(0, .ref (ad 0)), (2, .int v2), (3, .int v3), (4, .long u4)] → va_P D zcl (zW 28 ad (mF ad cI) h) H → va_S A s.heap H locs → W p l e rmMod_number s m ([.ref (ad 0), .int x1] : List Value).toArray below meth c H locs 0 0 (zQi post D (zty cI cC cE) 28 ad (mF ad cI) A below ([.ref (ad 0), .int x1] : List Value).toArray s) (F0 m 41 ls []) := by
    intro fu41
    induction fu41 with
    | zero =>
      intro v2 v3 u4 h H locs ls hw
      exact (zl_0 hw).elim
    | succ fu41 ih41 =>
      intro v2 v3 u4 h H locs ls hw hl hP hS
      have hw := zl_s hw
      generalize zl (stMod_number_41 post) fu41 = L41 at hw ih41
      unfold stMod_number_41 at hw
      dsimp only at hw
      refine lv_aload_n S.1 S.2.1 dMod_number_41 rfl (lv_at hl 0 rfl) ?_
      refine zr_i (zr_V (As := []) (rest := []) S hK hT hN hP hS (by decide) (mF_0 _) rfl (cMod_peek l D cI cC cE ad A hJ _ _ hw) caMod_288 ⟨Nat.le_of_ble_eq_true rfl, Nat.le_of_ble_eq_true rfl⟩ ⟨rfl, rfl⟩ rfl hl.1 rfl (Nat.le_of_ble_eq_true rfl) dMod_number_42) hS (fun r42 h42 H locs hw hP hS => ?_)
      refine zr_i (zr_T (As := [.int r42]) (rest := []) S hK hT hN hP hS (cMod_digit l D cI cC cE ad A hJ _ _ _ hw) caMod_291 ⟨Nat.le_of_ble_eq_true rfl, Nat.le_of_ble_eq_true rfl⟩ ⟨rfl, rfl⟩ rfl hl.1 rfl (Nat.le_of_ble_eq_true rfl) dMod_number_45) hS (fun r45 h45 H locs hw hP hS => ?_)
      refine lv_if_eq S.1 S.2.1 dMod_number_48 rfl (fun hc => ?_) (fun hc => ?_)
      · have hw := hw.1 hc
        exact J93 _ _ _ _ _ _ _ hw (lv_sub hl [0, 1, 2, 3] rfl) hP hS
      · have hw := hw.2 hc
        refine lv_aload_n S.1 S.2.1 dMod_number_51 rfl (lv_at hl 0 rfl) ?_
        refine zr_get S hK hP (by decide) (mF_0 _) fMod_at q869 rfl dMod_number_52 ?_
        refine lv_iload_n S.1 S.2.1 dMod_number_55 rfl (lv_at hl 2 rfl) ?_
        refine lv_isub S.1 S.2.1 dMod_number_56 ?_
        refine lv_bipush (v := 11) S.1 S.2.1 dMod_number_57 (by decide) ?_
        refine lv_icmp_ge S.1 S.2.1 dMod_number_59 rfl (fun hc => ?_) (fun hc => ?_)
        · have hw := hw.1 hc
          exact J93 _ _ _ _ _ _ _ hw (lv_sub hl [0, 1, 2, 3] rfl) hP hS
        · have hw := hw.2 hc
          refine lv_ldc2 (v := 10) S.1 S.2.1 S.2.2.2.1 (S.2.2.2.2 _ q1160) dMod_number_62 ?_
          refine lv_lload S.1 S.2.1 dMod_number_65 (lv_at hl 3 rfl) ?_
          refine lv_lmul S.1 S.2.1 dMod_number_67 ?_
          refine lv_aload_n S.1 S.2.1 dMod_number_68 rfl (lv_at hl 0 rfl) ?_
          refine zr_i (zr_V (As := []) (rest := [.long (10 * u4)]) S hK hT hN hP hS (by decide) (mF_0 _) rfl (cMod_peek l D cI cC cE ad A hJ _ _ hw) caMod_288 ⟨Nat.le_of_ble_eq_true rfl, Nat.le_of_ble_eq_true rfl⟩ ⟨rfl, rfl⟩ rfl hl.1 rfl (Nat.le_of_ble_eq_true rfl) dMod_number_69) hS (fun r69 h69 H locs hw hP hS => ?_)
          refine lv_i2l S.1 S.2.1 dMod_number_72 rfl ?_
          refine lv_ladd S.1 S.2.1 dMod_number_73 ?_
          refine lv_ldc2 (v := 48) S.1 S.2.1 S.2.2.2.1 (S.2.2.2.2 _ q1161) dMod_number_74 ?_
          refine lv_lsub S.1 S.2.1 dMod_number_77 ?_
          refine lv_topl (fun y78 e78 => ?_)
          have hw := hw y78 e78
          refine lv_lstore (lv' := [(4, .long y78), (0, .ref (ad 0)), (2, .int v2), (3, .int v3)]) S.1 S.2.1 dMod_number_78 hl (by decide) rfl (fun ls hl => ?_)
          refine lv_aload_n S.1 S.2.1 dMod_number_80 rfl (lv_at hl 1 rfl) ?_
          refine lv_dup S.1 S.2.1 dMod_number_81 rfl ?_
          refine zr_get S hK hP (by decide) (mF_0 _) fMod_at q869 rfl dMod_number_82 ?_
          refine lv_iconst (v := 1) S.1 S.2.1 dMod_number_85 (by decide) ?_
          refine lv_iadd S.1 S.2.1 dMod_number_86 ?_
          refine zr_put S hK hJ hP hS (by decide) (mF_0 _) fMod_at q869 rfl rfl (Nat.le_of_ble_eq_true rfl) (mF_0 _) dMod_number_87 (fun h87 H locs e87 hP hS => ?_)
          have hw := hw h87 e87
          refine lv_goto S.1 S.2.1 dMod_number_90 rfl ?_
          exact ih41 _ _ _ _ _ _ _ hw (lv_sub hl [1, 2, 3, 0] rfl) hP hS
  have J33 : ∀ (v2 : Int32) (h : zM) (H : Heap) (locs : List Loc) (ls : Array Slot), wbMod_number_33 post v2 h → lv_has ls 9 [(0, .ref (ad 0)), (2, .int v2)] → va_P D zcl (zW 28 ad (mF ad cI) h) H → va_S A s.heap H locs → W p l e rmMod_number s m ([.ref (ad 0), .int x1] : List Value).toArray below meth c H locs 0 0 (zQi post D (zty cI cC cE) 28 ad (mF ad cI) A below ([.ref (ad 0), .int x1] : List Value).toArray s) (F0 m 33 ls []) := by
    intro v2 h H locs ls hw hl hP hS
    unfold wbMod_number_33 at hw
    refine lv_aload_n S.1 S.2.1 dMod_number_33 rfl (lv_at hl 0 rfl) ?_
    refine zr_get S hK hP (by decide) (mF_0 _) fMod_at q869 rfl dMod_number_34 ?_
    refine lv_topi (fun y37 e37 => ?_)
    have hw := hw y37 e37
    refine lv_istore_n (lv' := [(3, .int y37), (0, .ref (ad 0)), (2, .int v2)]) S.1 S.2.1 dMod_number_37 rfl hl (by decide) rfl (fun ls hl => ?_)
    refine lv_lconst (v := 0) S.1 S.2.1 dMod_number_38 (by decide) ?_
    refine lv_lstore (lv' := [(4, .long 0), (3, .int y37), (0, .ref (ad 0)), (2, .int v2)]) S.1 S.2.1 dMod_number_39 hl (by decide) rfl (fun ls hl => ?_)
    obtain ⟨fu, hw⟩ := hw
    exact J41 fu _ _ _ _ _ _ _ hw (lv_sub hl [2, 3, 1, 0] rfl) hP hS
  have J18 : ∀ (k0 : Int32) (h : zM) (H : Heap) (locs : List Loc) (ls : Array Slot), wbMod_number_18 post k0 h → lv_has ls 9 [(0, .ref (ad 0))] → va_P D zcl (zW 28 ad (mF ad cI) h) H → va_S A s.heap H locs → W p l e rmMod_number s m ([.ref (ad 0), .int x1] : List Value).toArray below meth c H locs 0 0 (zQi post D (zty cI cC cE) 28 ad (mF ad cI) A below ([.ref (ad 0), .int x1] : List Value).toArray s) (F0 m 18 ls [.int k0]) := by
    intro k0 h H locs ls hw hl hP hS
    unfold wbMod_number_18 at hw
    refine lv_istore_n (lv' := [(2, .int k0), (0, .ref (ad 0))]) S.1 S.2.1 dMod_number_18 rfl hl (by decide) rfl (fun ls hl => ?_)
    refine lv_iload_n S.1 S.2.1 dMod_number_19 rfl (lv_at hl 0 rfl) ?_
    refine lv_if_eq S.1 S.2.1 dMod_number_20 rfl (fun hc => ?_) (fun hc => ?_)
    · have hw := hw.1 hc
      exact J33 _ _ _ _ _ hw (lv_sub hl [1, 0] rfl) hP hS
    · have hw := hw.2 hc
      refine lv_aload_n S.1 S.2.1 dMod_number_23 rfl (lv_at hl 1 rfl) ?_
      refine lv_dup S.1 S.2.1 dMod_number_24 rfl ?_
      refine zr_get S hK hP (by decide) (mF_0 _) fMod_at q869 rfl dMod_number_25 ?_
      refine lv_iconst (v := 1) S.1 S.2.1 dMod_number_28 (by decide) ?_
      refine lv_iadd S.1 S.2.1 dMod_number_29 ?_
      refine zr_put S hK hJ hP hS (by decide) (mF_0 _) fMod_at q869 rfl rfl (Nat.le_of_ble_eq_true rfl) (mF_0 _) dMod_number_30 (fun h30 H locs e30 hP hS => ?_)
      have hw := hw h30 e30
      exact J33 _ _ _ _ _ hw (lv_sub hl [1, 0] rfl) hP hS
  have J17 : ∀ (h : zM) (H : Heap) (locs : List Loc) (ls : Array Slot), wbMod_number_17 post h → lv_has ls 9 [(0, .ref (ad 0))] → va_P D zcl (zW 28 ad (mF ad cI) h) H → va_S A s.heap H locs → W p l e rmMod_number s m ([.ref (ad 0), .int x1] : List Value).toArray below meth c H locs 0 0 (zQi post D (zty cI cC cE) 28 ad (mF ad cI) A below ([.ref (ad 0), .int x1] : List Value).toArray s) (F0 m 17 ls []) := by
    intro  h H locs ls hw hl hP hS
    unfold wbMod_number_17 at hw
    refine lv_iconst (v := 0) S.1 S.2.1 dMod_number_17 (by decide) ?_
    exact J18 _ _ _ _ _ hw (lv_sub hl [0] rfl) hP hS
  unfold wpMod_number at hw
  refine lv_iload_n S.1 S.2.1 dMod_number_0 rfl (lv_at hl 1 rfl) ?_
  refine lv_if_eq S.1 S.2.1 dMod_number_1 rfl (fun hc => ?_) (fun hc => ?_)
  · have hw := hw.1 hc
    exact J17  _ _ _ _ hw (lv_sub hl [0] rfl) hP hS
  · have hw := hw.2 hc
    refine lv_aload_n S.1 S.2.1 dMod_number_4 rfl (lv_at hl 0 rfl) ?_
    refine zr_i (zr_V (As := []) (rest := []) S hK hT hN hP hS (by decide) (mF_0 _) rfl (cMod_peek l D cI cC cE ad A hJ _ _ hw) caMod_288 ⟨Nat.le_of_ble_eq_true rfl, Nat.le_of_ble_eq_true rfl⟩ ⟨rfl, rfl⟩ rfl hl.1 rfl (Nat.le_of_ble_eq_true rfl) dMod_number_5) hS (fun r5 h5 H locs hw hP hS => ?_)
    refine lv_bipush (v := 45) S.1 S.2.1 dMod_number_8 (by decide) ?_
    refine lv_icmp_ne S.1 S.2.1 dMod_number_10 rfl (fun hc => ?_) (fun hc => ?_)
    · have hw := hw.1 hc
      exact J17  _ _ _ _ hw (lv_sub hl [0] rfl) hP hS
    · have hw := hw.2 hc
      refine lv_iconst (v := 1) S.1 S.2.1 dMod_number_13 (by decide) ?_
      refine lv_goto S.1 S.2.1 dMod_number_14 rfl ?_
      exact J18 _ _ _ _ _ hw (lv_sub hl [0] rfl) hP hS
/-! Mod.readArgument -/
theorem dMod_readArgument_0 : decode bMod_readArgument 0 = .ok (.aload_n 0, 1) := by decide +kernel
theorem dMod_readArgument_1 : decode bMod_readArgument 1 = .ok (.invokevirtual 288, 3) := by decide +kernel
theorem dMod_readArgument_4 : decode bMod_readArgument 4 = .ok (.bipush 118, 2) := by decide +kernel
theorem dMod_readArgument_6 : decode bMod_readArgument 6 = .ok (.if_icmp .ne 114, 3) := by decide +kernel
theorem dMod_readArgument_9 : decode bMod_readArgument 9 = .ok (.aload_n 0, 1) := by decide +kernel
theorem dMod_readArgument_10 : decode bMod_readArgument 10 = .ok (.dup, 1) := by decide +kernel
theorem dMod_readArgument_11 : decode bMod_readArgument 11 = .ok (.getfield 281, 3) := by decide +kernel
theorem dMod_readArgument_14 : decode bMod_readArgument 14 = .ok (.iconst 1, 1) := by decide +kernel
theorem dMod_readArgument_15 : decode bMod_readArgument 15 = .ok (.iadd, 1) := by decide +kernel
theorem dMod_readArgument_16 : decode bMod_readArgument 16 = .ok (.putfield 281, 3) := by decide +kernel
theorem dMod_readArgument_19 : decode bMod_readArgument 19 = .ok (.aload_n 0, 1) := by decide +kernel
theorem dMod_readArgument_20 : decode bMod_readArgument 20 = .ok (.iconst 0, 1) := by decide +kernel
theorem dMod_readArgument_21 : decode bMod_readArgument 21 = .ok (.invokevirtual 294, 3) := by decide +kernel
theorem dMod_readArgument_24 : decode bMod_readArgument 24 = .ok (.istore_n 3, 1) := by decide +kernel
theorem dMod_readArgument_25 : decode bMod_readArgument 25 = .ok (.aload_n 0, 1) := by decide +kernel
theorem dMod_readArgument_26 : decode bMod_readArgument 26 = .ok (.aload_n 0, 1) := by decide +kernel
theorem dMod_readArgument_27 : decode bMod_readArgument 27 = .ok (.getfield 284, 3) := by decide +kernel
theorem dMod_readArgument_30 : decode bMod_readArgument 30 = .ok (.ifCond .ne 11, 3) := by decide +kernel
theorem dMod_readArgument_33 : decode bMod_readArgument 33 = .ok (.iload_n 3, 1) := by decide +kernel
theorem dMod_readArgument_34 : decode bMod_readArgument 34 = .ok (.aload_n 0, 1) := by decide +kernel
theorem dMod_readArgument_35 : decode bMod_readArgument 35 = .ok (.getfield 156, 3) := by decide +kernel
theorem dMod_readArgument_38 : decode bMod_readArgument 38 = .ok (.if_icmp .lt 7, 3) := by decide +kernel
theorem dMod_readArgument_41 : decode bMod_readArgument 41 = .ok (.iconst 1, 1) := by decide +kernel
theorem dMod_readArgument_42 : decode bMod_readArgument 42 = .ok (.goto 4, 3) := by decide +kernel
theorem dMod_readArgument_45 : decode bMod_readArgument 45 = .ok (.iconst 0, 1) := by decide +kernel
theorem dMod_readArgument_46 : decode bMod_readArgument 46 = .ok (.putfield 284, 3) := by decide +kernel
theorem dMod_readArgument_49 : decode bMod_readArgument 49 = .ok (.aload_n 0, 1) := by decide +kernel
theorem dMod_readArgument_50 : decode bMod_readArgument 50 = .ok (.getfield 284, 3) := by decide +kernel
theorem dMod_readArgument_53 : decode bMod_readArgument 53 = .ok (.ifCond .eq 7, 3) := by decide +kernel
theorem dMod_readArgument_56 : decode bMod_readArgument 56 = .ok (.iconst 0, 1) := by decide +kernel
theorem dMod_readArgument_57 : decode bMod_readArgument 57 = .ok (.goto 13, 3) := by decide +kernel
theorem dMod_readArgument_60 : decode bMod_readArgument 60 = .ok (.aload_n 0, 1) := by decide +kernel
theorem dMod_readArgument_61 : decode bMod_readArgument 61 = .ok (.aload_n 0, 1) := by decide +kernel
theorem dMod_readArgument_62 : decode bMod_readArgument 62 = .ok (.getfield 35, 3) := by decide +kernel
theorem dMod_readArgument_65 : decode bMod_readArgument 65 = .ok (.iload_n 3, 1) := by decide +kernel
theorem dMod_readArgument_66 : decode bMod_readArgument 66 = .ok (.iaload, 1) := by decide +kernel
theorem dMod_readArgument_67 : decode bMod_readArgument 67 = .ok (.invokevirtual 181, 3) := by decide +kernel
theorem dMod_readArgument_70 : decode bMod_readArgument 70 = .ok (.istore 4, 2) := by decide +kernel
theorem dMod_readArgument_72 : decode bMod_readArgument 72 = .ok (.aload_n 0, 1) := by decide +kernel
theorem dMod_readArgument_73 : decode bMod_readArgument 73 = .ok (.aload_n 0, 1) := by decide +kernel
theorem dMod_readArgument_74 : decode bMod_readArgument 74 = .ok (.getfield 284, 3) := by decide +kernel
theorem dMod_readArgument_77 : decode bMod_readArgument 77 = .ok (.ifCond .ne 25, 3) := by decide +kernel
theorem dMod_readArgument_80 : decode bMod_readArgument 80 = .ok (.iload_n 1, 1) := by decide +kernel
theorem dMod_readArgument_81 : decode bMod_readArgument 81 = .ok (.ifCond .ne 11, 3) := by decide +kernel
theorem dMod_readArgument_84 : decode bMod_readArgument 84 = .ok (.iload 4, 2) := by decide +kernel
theorem dMod_readArgument_86 : decode bMod_readArgument 86 = .ok (.ifCond .eq 20, 3) := by decide +kernel
theorem dMod_readArgument_89 : decode bMod_readArgument 89 = .ok (.goto 13, 3) := by decide +kernel
theorem dMod_readArgument_92 : decode bMod_readArgument 92 = .ok (.aload_n 0, 1) := by decide +kernel
theorem dMod_readArgument_93 : decode bMod_readArgument 93 = .ok (.iload 4, 2) := by decide +kernel
theorem dMod_readArgument_95 : decode bMod_readArgument 95 = .ok (.iload_n 1, 1) := by decide +kernel
theorem dMod_readArgument_96 : decode bMod_readArgument 96 = .ok (.invokevirtual 138, 3) := by decide +kernel
theorem dMod_readArgument_99 : decode bMod_readArgument 99 = .ok (.ifCond .ne 7, 3) := by decide +kernel
theorem dMod_readArgument_102 : decode bMod_readArgument 102 = .ok (.iconst 1, 1) := by decide +kernel
theorem dMod_readArgument_103 : decode bMod_readArgument 103 = .ok (.goto 4, 3) := by decide +kernel
theorem dMod_readArgument_106 : decode bMod_readArgument 106 = .ok (.iconst 0, 1) := by decide +kernel
theorem dMod_readArgument_107 : decode bMod_readArgument 107 = .ok (.putfield 284, 3) := by decide +kernel
theorem dMod_readArgument_110 : decode bMod_readArgument 110 = .ok (.aload_n 0, 1) := by decide +kernel
theorem dMod_readArgument_111 : decode bMod_readArgument 111 = .ok (.iload_n 2, 1) := by decide +kernel
theorem dMod_readArgument_112 : decode bMod_readArgument 112 = .ok (.iconst 0, 1) := by decide +kernel
theorem dMod_readArgument_113 : decode bMod_readArgument 113 = .ok (.iload_n 3, 1) := by decide +kernel
theorem dMod_readArgument_114 : decode bMod_readArgument 114 = .ok (.invokevirtual 221, 3) := by decide +kernel
theorem dMod_readArgument_117 : decode bMod_readArgument 117 = .ok (.goto 34, 3) := by decide +kernel
theorem dMod_readArgument_120 : decode bMod_readArgument 120 = .ok (.iload_n 1, 1) := by decide +kernel
theorem dMod_readArgument_121 : decode bMod_readArgument 121 = .ok (.ifCond .ne 17, 3) := by decide +kernel
theorem dMod_readArgument_124 : decode bMod_readArgument 124 = .ok (.aload_n 0, 1) := by decide +kernel
theorem dMod_readArgument_125 : decode bMod_readArgument 125 = .ok (.iload_n 2, 1) := by decide +kernel
theorem dMod_readArgument_126 : decode bMod_readArgument 126 = .ok (.iconst 1, 1) := by decide +kernel
theorem dMod_readArgument_127 : decode bMod_readArgument 127 = .ok (.aload_n 0, 1) := by decide +kernel
theorem dMod_readArgument_128 : decode bMod_readArgument 128 = .ok (.iconst 1, 1) := by decide +kernel
theorem dMod_readArgument_129 : decode bMod_readArgument 129 = .ok (.invokevirtual 294, 3) := by decide +kernel
theorem dMod_readArgument_132 : decode bMod_readArgument 132 = .ok (.invokevirtual 221, 3) := by decide +kernel
theorem dMod_readArgument_135 : decode bMod_readArgument 135 = .ok (.goto 16, 3) := by decide +kernel
theorem dMod_readArgument_138 : decode bMod_readArgument 138 = .ok (.aload_n 0, 1) := by decide +kernel
theorem dMod_readArgument_139 : decode bMod_readArgument 139 = .ok (.bipush 110, 2) := by decide +kernel
theorem dMod_readArgument_141 : decode bMod_readArgument 141 = .ok (.invokevirtual 298, 3) := by decide +kernel
theorem dMod_readArgument_144 : decode bMod_readArgument 144 = .ok (.aload_n 0, 1) := by decide +kernel
theorem dMod_readArgument_145 : decode bMod_readArgument 145 = .ok (.iload_n 2, 1) := by decide +kernel
theorem dMod_readArgument_146 : decode bMod_readArgument 146 = .ok (.iconst 2, 1) := by decide +kernel
theorem dMod_readArgument_147 : decode bMod_readArgument 147 = .ok (.iconst 0, 1) := by decide +kernel
theorem dMod_readArgument_148 : decode bMod_readArgument 148 = .ok (.invokevirtual 221, 3) := by decide +kernel
theorem dMod_readArgument_151 : decode bMod_readArgument 151 = .ok (.return_, 1) := by decide +kernel
def wbMod_readArgument_107 (post : zM → Prop) (v2 : Int32) (v3 : Int32) (k1 : Int32) (h : zM) : Prop := ((k1 = 0 ∨ k1 = 1) ∧ ∀ h107 : zM, h107 = zu h 0 42 k1 → wpMod_choose v2 0 v3 h107 (fun h114 => post h114))
def wbMod_readArgument_102 (post : zM → Prop) (v2 : Int32) (v3 : Int32) (h : zM) : Prop := wbMod_readArgument_107 post v2 v3 1 h
def wbMod_readArgument_106 (post : zM → Prop) (v2 : Int32) (v3 : Int32) (h : zM) : Prop := wbMod_readArgument_107 post v2 v3 0 h
def wbMod_readArgument_70 (post : zM → Prop) (v1 : Int32) (v2 : Int32) (v3 : Int32) (k0 : Int32) (h : zM) : Prop := ((¬ (h 0 42) = 0 → wbMod_readArgument_102 post v2 v3 h) ∧ ((h 0 42) = 0 → ((¬ v1 = 0 → wpMod_is k0 v1 h (fun r96 h96 => ((¬ r96 = 0 → wbMod_readArgument_106 post v2 v3 h96) ∧ (r96 = 0 → wbMod_readArgument_102 post v2 v3 h96)))) ∧ (v1 = 0 → ((k0 = 0 → wbMod_readArgument_106 post v2 v3 h) ∧ (¬ k0 = 0 → wbMod_readArgument_102 post v2 v3 h))))))
def wbMod_readArgument_46 (post : zM → Prop) (v1 : Int32) (v2 : Int32) (v3 : Int32) (k1 : Int32) (h : zM) : Prop := ((k1 = 0 ∨ k1 = 1) ∧ ∀ h46 : zM, h46 = zu h 0 42 k1 → (((h46 0 42) = 0 → (vp_in v3 20 ∧ wpMod_gives (h46 8 (Int32.toNatClampNeg v3)) h46 (fun r67 h67 => wbMod_readArgument_70 post v1 v2 v3 r67 h67))) ∧ (¬ (h46 0 42) = 0 → wbMod_readArgument_70 post v1 v2 v3 0 h46)))
def wbMod_readArgument_41 (post : zM → Prop) (v1 : Int32) (v2 : Int32) (v3 : Int32) (h : zM) : Prop := wbMod_readArgument_46 post v1 v2 v3 1 h
def wpMod_readArgument (x1 : Int32) (x2 : Int32) (h : zM) (post : zM → Prop) : Prop := wpMod_peek h (fun r1 h1 => ((¬ r1 = 118 → ((¬ x1 = 0 → wpMod_expect 110 h1 (fun h141 => wpMod_choose x2 2 0 h141 (fun h148 => post h148))) ∧ (x1 = 0 → wpMod_number 1 h1 (fun r129 h129 => wpMod_choose x2 1 r129 h129 (fun h132 => post h132))))) ∧ (r1 = 118 → ∀ h16 : zM, h16 = zu h1 0 41 ((h1 0 41) + 1) → wpMod_number 0 h16 (fun r21 h21 => ((¬ (h21 0 42) = 0 → wbMod_readArgument_41 post x1 x2 r21 h21) ∧ ((h21 0 42) = 0 → (((r21 < (h21 0 11)) → wbMod_readArgument_46 post x1 x2 r21 0 h21) ∧ (¬ (r21 < (h21 0 11)) → wbMod_readArgument_41 post x1 x2 r21 h21))))))))
abbrev rmMod_readArgument : Room := { frames := 2, cells := 0, slots := 0, locals := 48 }
set_option maxHeartbeats 4000000 in
set_option maxRecDepth 100000 in
theorem cMod_readArgument (l : Launch) (D : va_G) (cI cC cE : ClassId) (ad : Nat → Nat) (A : Nat → Prop) (hJ : zJ A 28 ad) (x1 : Int32) (x2 : Int32) (h : zM) (post : zM → Prop) (hw : wpMod_readArgument x1 x2 h post) : Met l yMod_readArgument (.code yMod_readArgument bMod_readArgument 5 none :: zt) rmMod_readArgument (va_Pc [.ref (ad 0), .int x1, .int x2] (zPre D (zty cI cC cE) 28 ad (mF ad cI) A h)) (va_Qv post (zPst D (zty cI cC cE) 28 ad (mF ad cI)) A) 0 0 A := by
  refine Met.ofW (cc := bMod_readArgument) (maxL := 5) (ret := none) (by decide) rfl ?_
  intro p e s m args below meth c s₁ B hml hv
  obtain ⟨rfl, hP, hK, hT, hN⟩ := hv
  have hr := B.returns
  have hlk := B.notSynchronized
  have S : zS p m c bMod_readArgument 5 s _ "CallExplorerModel" := ⟨B.exec, B.bytes, hml, findClass_of_methodNamed B.named, fun w hw => atoms_spec (ws := .code yMod_readArgument bMod_readArgument 5 none :: zt) B.pre w (List.mem_cons_of_mem _ hw)⟩
  have hS : va_S A s.heap s.heap [] := va_S.rf
  have hl := lv_entry ([.ref (ad 0), .int x1, .int x2]) (n := 5) (Nat.le_of_ble_eq_true rfl)
  rw [lg_entry_eq]
  generalize (lg_sl ([.ref (ad 0), .int x1, .int x2]) ++ List.replicate (5 - (lg_sl ([.ref (ad 0), .int x1, .int x2])).length) Slot.unset).toArray = ls at hl ⊢
  have hl : lv_has ls 5 [(0, .ref (ad 0)), (1, .int x1), (2, .int x2)] := hl
  show W p l e rmMod_readArgument s m ([.ref (ad 0), .int x1, .int x2] : List Value).toArray below meth c s.heap [] 0 0 (zQv post D (zty cI cC cE) 28 ad (mF ad cI) A below ([.ref (ad 0), .int x1, .int x2] : List Value).toArray s) _
  have J107 : ∀ (v2 : Int32) (v3 : Int32) (k1 : Int32) (h : zM) (H : Heap) (locs : List Loc) (ls : Array Slot), wbMod_readArgument_107 post v2 v3 k1 h → lv_has ls 5 [(0, .ref (ad 0)), (2, .int v2), (3, .int v3)] → va_P D zcl (zW 28 ad (mF ad cI) h) H → va_S A s.heap H locs → W p l e rmMod_readArgument s m ([.ref (ad 0), .int x1, .int x2] : List Value).toArray below meth c H locs 0 0 (zQv post D (zty cI cC cE) 28 ad (mF ad cI) A below ([.ref (ad 0), .int x1, .int x2] : List Value).toArray s) (F0 m 107 ls [.int k1, .ref (ad 0)]) := by
    intro v2 v3 k1 h H locs ls hw hl hP hS
    unfold wbMod_readArgument_107 at hw
    obtain ⟨z107, hw⟩ := hw
    refine zr_put S hK hJ hP hS (by decide) (mF_0 _) fMod_bad q870 (zbn z107) (zbf z107) (Nat.le_of_ble_eq_true rfl) (mF_0 _) dMod_readArgument_107 (fun h107 H locs e107 hP hS => ?_)
    have hw := hw h107 e107
    refine lv_aload_n S.1 S.2.1 dMod_readArgument_110 rfl (lv_at hl 0 rfl) ?_
    refine lv_iload_n S.1 S.2.1 dMod_readArgument_111 rfl (lv_at hl 1 rfl) ?_
    refine lv_iconst (v := 0) S.1 S.2.1 dMod_readArgument_112 (by decide) ?_
    refine lv_iload_n S.1 S.2.1 dMod_readArgument_113 rfl (lv_at hl 2 rfl) ?_
    refine zr_v (zr_V (As := [.int v2, .int 0, .int v3]) (rest := []) S hK hT hN hP hS (by decide) (mF_0 _) rfl (cMod_choose l D cI cC cE ad A hJ _ _ _ _ _ hw) caMod_221 ⟨Nat.le_of_ble_eq_true rfl, Nat.le_of_ble_eq_true rfl⟩ ⟨rfl, rfl⟩ rfl hl.1 rfl (Nat.le_of_ble_eq_true rfl) dMod_readArgument_114) hS (fun h114 H locs hw hP hS => ?_)
    refine lv_goto S.1 S.2.1 dMod_readArgument_117 rfl ?_
    exact zr_vret S hr hlk hK hP hS hw dMod_readArgument_151
  have J102 : ∀ (v2 : Int32) (v3 : Int32) (h : zM) (H : Heap) (locs : List Loc) (ls : Array Slot), wbMod_readArgument_102 post v2 v3 h → lv_has ls 5 [(0, .ref (ad 0)), (2, .int v2), (3, .int v3)] → va_P D zcl (zW 28 ad (mF ad cI) h) H → va_S A s.heap H locs → W p l e rmMod_readArgument s m ([.ref (ad 0), .int x1, .int x2] : List Value).toArray below meth c H locs 0 0 (zQv post D (zty cI cC cE) 28 ad (mF ad cI) A below ([.ref (ad 0), .int x1, .int x2] : List Value).toArray s) (F0 m 102 ls [.ref (ad 0)]) := by
    intro v2 v3 h H locs ls hw hl hP hS
    unfold wbMod_readArgument_102 at hw
    refine lv_iconst (v := 1) S.1 S.2.1 dMod_readArgument_102 (by decide) ?_
    refine lv_goto S.1 S.2.1 dMod_readArgument_103 rfl ?_
    exact J107 _ _ _ _ _ _ _ hw (lv_sub hl [0, 1, 2] rfl) hP hS
  have J106 : ∀ (v2 : Int32) (v3 : Int32) (h : zM) (H : Heap) (locs : List Loc) (ls : Array Slot), wbMod_readArgument_106 post v2 v3 h → lv_has ls 5 [(0, .ref (ad 0)), (2, .int v2), (3, .int v3)] → va_P D zcl (zW 28 ad (mF ad cI) h) H → va_S A s.heap H locs → W p l e rmMod_readArgument s m ([.ref (ad 0), .int x1, .int x2] : List Value).toArray below meth c H locs 0 0 (zQv post D (zty cI cC cE) 28 ad (mF ad cI) A below ([.ref (ad 0), .int x1, .int x2] : List Value).toArray s) (F0 m 106 ls [.ref (ad 0)]) := by
    intro v2 v3 h H locs ls hw hl hP hS
    unfold wbMod_readArgument_106 at hw
    refine lv_iconst (v := 0) S.1 S.2.1 dMod_readArgument_106 (by decide) ?_
    exact J107 _ _ _ _ _ _ _ hw (lv_sub hl [0, 1, 2] rfl) hP hS
  have J70 : ∀ (v1 : Int32) (v2 : Int32) (v3 : Int32) (k0 : Int32) (h : zM) (H : Heap) (locs : List Loc) (ls : Array Slot), wbMod_readArgument_70 post v1 v2 v3 k0 h → lv_has ls 5 [(0, .ref (ad 0)), (1, .int v1), (2, .int v2), (3, .int v3)] → va_P D zcl (zW 28 ad (mF ad cI) h) H → va_S A s.heap H locs → W p l e rmMod_readArgument s m ([.ref (ad 0), .int x1, .int x2] : List Value).toArray below meth c H locs 0 0 (zQv post D (zty cI cC cE) 28 ad (mF ad cI) A below ([.ref (ad 0), .int x1, .int x2] : List Value).toArray s) (F0 m 70 ls [.int k0]) := by
    intro v1 v2 v3 k0 h H locs ls hw hl hP hS
    unfold wbMod_readArgument_70 at hw
    refine lv_istore (lv' := [(4, .int k0), (0, .ref (ad 0)), (1, .int v1), (2, .int v2), (3, .int v3)]) S.1 S.2.1 dMod_readArgument_70 hl (by decide) rfl (fun ls hl => ?_)
    refine lv_aload_n S.1 S.2.1 dMod_readArgument_72 rfl (lv_at hl 1 rfl) ?_
    refine lv_aload_n S.1 S.2.1 dMod_readArgument_73 rfl (lv_at hl 1 rfl) ?_
    refine zr_get S hK hP (by decide) (mF_0 _) fMod_bad q870 rfl dMod_readArgument_74 ?_
    refine lv_if_ne S.1 S.2.1 dMod_readArgument_77 rfl (fun hc => ?_) (fun hc => ?_)
    · have hw := hw.1 hc
      exact J102 _ _ _ _ _ _ hw (lv_sub hl [1, 3, 4] rfl) hP hS
    · have hw := hw.2 hc
      refine lv_iload_n S.1 S.2.1 dMod_readArgument_80 rfl (lv_at hl 2 rfl) ?_
      refine lv_if_ne S.1 S.2.1 dMod_readArgument_81 rfl (fun hc => ?_) (fun hc => ?_)
      · have hw := hw.1 hc
        refine lv_aload_n S.1 S.2.1 dMod_readArgument_92 rfl (lv_at hl 1 rfl) ?_
        refine lv_iload S.1 S.2.1 dMod_readArgument_93 (lv_at hl 0 rfl) ?_
        refine lv_iload_n S.1 S.2.1 dMod_readArgument_95 rfl (lv_at hl 2 rfl) ?_
        refine zr_i (zr_V (As := [.int k0, .int v1]) (rest := [.ref (ad 0)]) S hK hT hN hP hS (by decide) (mF_0 _) rfl (cMod_is l D cI cC cE ad A hJ _ _ _ _ hw) caMod_138 ⟨Nat.le_of_ble_eq_true rfl, Nat.le_of_ble_eq_true rfl⟩ ⟨rfl, rfl⟩ rfl hl.1 rfl (Nat.le_of_ble_eq_true rfl) dMod_readArgument_96) hS (fun r96 h96 H locs hw hP hS => ?_)
        refine lv_if_ne S.1 S.2.1 dMod_readArgument_99 rfl (fun hc => ?_) (fun hc => ?_)
        · have hw := hw.1 hc
          exact J106 _ _ _ _ _ _ hw (lv_sub hl [1, 3, 4] rfl) hP hS
        · have hw := hw.2 hc
          exact J102 _ _ _ _ _ _ hw (lv_sub hl [1, 3, 4] rfl) hP hS
      · have hw := hw.2 hc
        refine lv_iload S.1 S.2.1 dMod_readArgument_84 (lv_at hl 0 rfl) ?_
        refine lv_if_eq S.1 S.2.1 dMod_readArgument_86 rfl (fun hc => ?_) (fun hc => ?_)
        · have hw := hw.1 hc
          exact J106 _ _ _ _ _ _ hw (lv_sub hl [1, 3, 4] rfl) hP hS
        · have hw := hw.2 hc
          refine lv_goto S.1 S.2.1 dMod_readArgument_89 rfl ?_
          exact J102 _ _ _ _ _ _ hw (lv_sub hl [1, 3, 4] rfl) hP hS
  have J46 : ∀ (v1 : Int32) (v2 : Int32) (v3 : Int32) (k1 : Int32) (h : zM) (H : Heap) (locs : List Loc) (ls : Array Slot), wbMod_readArgument_46 post v1 v2 v3 k1 h → lv_has ls 5 [(0, .ref (ad 0)), (1, .int v1), (2, .int v2), (3, .int v3)] → va_P D zcl (zW 28 ad (mF ad cI) h) H → va_S A s.heap H locs → W p l e rmMod_readArgument s m ([.ref (ad 0), .int x1, .int x2] : List Value).toArray below meth c H locs 0 0 (zQv post D (zty cI cC cE) 28 ad (mF ad cI) A below ([.ref (ad 0), .int x1, .int x2] : List Value).toArray s) (F0 m 46 ls [.int k1, .ref (ad 0)]) := by
    intro v1 v2 v3 k1 h H locs ls hw hl hP hS
    unfold wbMod_readArgument_46 at hw
    obtain ⟨z46, hw⟩ := hw
    refine zr_put S hK hJ hP hS (by decide) (mF_0 _) fMod_bad q870 (zbn z46) (zbf z46) (Nat.le_of_ble_eq_true rfl) (mF_0 _) dMod_readArgument_46 (fun h46 H locs e46 hP hS => ?_)
    have hw := hw h46 e46
    refine lv_aload_n S.1 S.2.1 dMod_readArgument_49 rfl (lv_at hl 0 rfl) ?_
    refine zr_get S hK hP (by decide) (mF_0 _) fMod_bad q870 rfl dMod_readArgument_50 ?_
    refine lv_if_eq S.1 S.2.1 dMod_readArgument_53 rfl (fun hc => ?_) (fun hc => ?_)
    · have hw := hw.1 hc
      refine lv_aload_n S.1 S.2.1 dMod_readArgument_60 rfl (lv_at hl 0 rfl) ?_
      refine lv_aload_n S.1 S.2.1 dMod_readArgument_61 rfl (lv_at hl 0 rfl) ?_
      refine zr_get S hK hP (by decide) (mF_0 _) fMod_op q840 rfl dMod_readArgument_62 ?_
      refine lv_iload_n S.1 S.2.1 dMod_readArgument_65 rfl (lv_at hl 3 rfl) ?_
      obtain ⟨z66, hw⟩ := hw
      refine zr_ald S hK hP (by decide) (mF_8 _) 0 rfl z66 dMod_readArgument_66 ?_
      refine zr_i (zr_V (As := [.int (h46 8 (Int32.toNatClampNeg v3))]) (rest := []) S hK hT hN hP hS (by decide) (mF_0 _) rfl (cMod_gives l D cI cC cE ad A hJ _ _ _ hw) caMod_181 ⟨Nat.le_of_ble_eq_true rfl, Nat.le_of_ble_eq_true rfl⟩ ⟨rfl, rfl⟩ rfl hl.1 rfl (Nat.le_of_ble_eq_true rfl) dMod_readArgument_67) hS (fun r67 h67 H locs hw hP hS => ?_)
      exact J70 _ _ _ _ _ _ _ _ hw (lv_sub hl [0, 1, 2, 3] rfl) hP hS
    · have hw := hw.2 hc
      refine lv_iconst (v := 0) S.1 S.2.1 dMod_readArgument_56 (by decide) ?_
      refine lv_goto S.1 S.2.1 dMod_readArgument_57 rfl ?_
      exact J70 _ _ _ _ _ _ _ _ hw (lv_sub hl [0, 1, 2, 3] rfl) hP hS
  have J41 : ∀ (v1 : Int32) (v2 : Int32) (v3 : Int32) (h : zM) (H : Heap) (locs : List Loc) (ls : Array Slot), wbMod_readArgument_41 post v1 v2 v3 h → lv_has ls 5 [(0, .ref (ad 0)), (1, .int v1), (2, .int v2), (3, .int v3)] → va_P D zcl (zW 28 ad (mF ad cI) h) H → va_S A s.heap H locs → W p l e rmMod_readArgument s m ([.ref (ad 0), .int x1, .int x2] : List Value).toArray below meth c H locs 0 0 (zQv post D (zty cI cC cE) 28 ad (mF ad cI) A below ([.ref (ad 0), .int x1, .int x2] : List Value).toArray s) (F0 m 41 ls [.ref (ad 0)]) := by
    intro v1 v2 v3 h H locs ls hw hl hP hS
    unfold wbMod_readArgument_41 at hw
    refine lv_iconst (v := 1) S.1 S.2.1 dMod_readArgument_41 (by decide) ?_
    refine lv_goto S.1 S.2.1 dMod_readArgument_42 rfl ?_
    exact J46 _ _ _ _ _ _ _ _ hw (lv_sub hl [0, 1, 2, 3] rfl) hP hS
  unfold wpMod_readArgument at hw
  refine lv_aload_n S.1 S.2.1 dMod_readArgument_0 rfl (lv_at hl 0 rfl) ?_
  refine zr_i (zr_V (As := []) (rest := []) S hK hT hN hP hS (by decide) (mF_0 _) rfl (cMod_peek l D cI cC cE ad A hJ _ _ hw) caMod_288 ⟨Nat.le_of_ble_eq_true rfl, Nat.le_of_ble_eq_true rfl⟩ ⟨rfl, rfl⟩ rfl hl.1 rfl (Nat.le_of_ble_eq_true rfl) dMod_readArgument_1) hS (fun r1 h1 H locs hw hP hS => ?_)
  refine lv_bipush (v := 118) S.1 S.2.1 dMod_readArgument_4 (by decide) ?_
  refine lv_icmp_ne S.1 S.2.1 dMod_readArgument_6 rfl (fun hc => ?_) (fun hc => ?_)
  · have hw := hw.1 hc
    refine lv_iload_n S.1 S.2.1 dMod_readArgument_120 rfl (lv_at hl 1 rfl) ?_
    refine lv_if_ne S.1 S.2.1 dMod_readArgument_121 rfl (fun hc => ?_) (fun hc => ?_)
    · have hw := hw.1 hc
      refine lv_aload_n S.1 S.2.1 dMod_readArgument_138 rfl (lv_at hl 0 rfl) ?_
      refine lv_bipush (v := 110) S.1 S.2.1 dMod_readArgument_139 (by decide) ?_
      refine zr_v (zr_V (As := [.int 110]) (rest := []) S hK hT hN hP hS (by decide) (mF_0 _) rfl (cMod_expect l D cI cC cE ad A hJ _ _ _ hw) caMod_298 ⟨Nat.le_of_ble_eq_true rfl, Nat.le_of_ble_eq_true rfl⟩ ⟨rfl, rfl⟩ rfl hl.1 rfl (Nat.le_of_ble_eq_true rfl) dMod_readArgument_141) hS (fun h141 H locs hw hP hS => ?_)
      refine lv_aload_n S.1 S.2.1 dMod_readArgument_144 rfl (lv_at hl 0 rfl) ?_
      refine lv_iload_n S.1 S.2.1 dMod_readArgument_145 rfl (lv_at hl 2 rfl) ?_
      refine lv_iconst (v := 2) S.1 S.2.1 dMod_readArgument_146 (by decide) ?_
      refine lv_iconst (v := 0) S.1 S.2.1 dMod_readArgument_147 (by decide) ?_
      refine zr_v (zr_V (As := [.int x2, .int 2, .int 0]) (rest := []) S hK hT hN hP hS (by decide) (mF_0 _) rfl (cMod_choose l D cI cC cE ad A hJ _ _ _ _ _ hw) caMod_221 ⟨Nat.le_of_ble_eq_true rfl, Nat.le_of_ble_eq_true rfl⟩ ⟨rfl, rfl⟩ rfl hl.1 rfl (Nat.le_of_ble_eq_true rfl) dMod_readArgument_148) hS (fun h148 H locs hw hP hS => ?_)
      exact zr_vret S hr hlk hK hP hS hw dMod_readArgument_151
    · have hw := hw.2 hc
      refine lv_aload_n S.1 S.2.1 dMod_readArgument_124 rfl (lv_at hl 0 rfl) ?_
      refine lv_iload_n S.1 S.2.1 dMod_readArgument_125 rfl (lv_at hl 2 rfl) ?_
      refine lv_iconst (v := 1) S.1 S.2.1 dMod_readArgument_126 (by decide) ?_
      refine lv_aload_n S.1 S.2.1 dMod_readArgument_127 rfl (lv_at hl 0 rfl) ?_
      refine lv_iconst (v := 1) S.1 S.2.1 dMod_readArgument_128 (by decide) ?_
      refine zr_i (zr_V (As := [.int 1]) (rest := [.int 1, .int x2, .ref (ad 0)]) S hK hT hN hP hS (by decide) (mF_0 _) rfl (cMod_number l D cI cC cE ad A hJ _ _ _ hw) caMod_294 ⟨Nat.le_of_ble_eq_true rfl, Nat.le_of_ble_eq_true rfl⟩ ⟨rfl, rfl⟩ rfl hl.1 rfl (Nat.le_of_ble_eq_true rfl) dMod_readArgument_129) hS (fun r129 h129 H locs hw hP hS => ?_)
      refine zr_v (zr_V (As := [.int x2, .int 1, .int r129]) (rest := []) S hK hT hN hP hS (by decide) (mF_0 _) rfl (cMod_choose l D cI cC cE ad A hJ _ _ _ _ _ hw) caMod_221 ⟨Nat.le_of_ble_eq_true rfl, Nat.le_of_ble_eq_true rfl⟩ ⟨rfl, rfl⟩ rfl hl.1 rfl (Nat.le_of_ble_eq_true rfl) dMod_readArgument_132) hS (fun h132 H locs hw hP hS => ?_)
      refine lv_goto S.1 S.2.1 dMod_readArgument_135 rfl ?_
      exact zr_vret S hr hlk hK hP hS hw dMod_readArgument_151
  · have hw := hw.2 hc
    refine lv_aload_n S.1 S.2.1 dMod_readArgument_9 rfl (lv_at hl 0 rfl) ?_
    refine lv_dup S.1 S.2.1 dMod_readArgument_10 rfl ?_
    refine zr_get S hK hP (by decide) (mF_0 _) fMod_at q869 rfl dMod_readArgument_11 ?_
    refine lv_iconst (v := 1) S.1 S.2.1 dMod_readArgument_14 (by decide) ?_
    refine lv_iadd S.1 S.2.1 dMod_readArgument_15 ?_
    refine zr_put S hK hJ hP hS (by decide) (mF_0 _) fMod_at q869 rfl rfl (Nat.le_of_ble_eq_true rfl) (mF_0 _) dMod_readArgument_16 (fun h16 H locs e16 hP hS => ?_)
    have hw := hw h16 e16
    refine lv_aload_n S.1 S.2.1 dMod_readArgument_19 rfl (lv_at hl 0 rfl) ?_
    refine lv_iconst (v := 0) S.1 S.2.1 dMod_readArgument_20 (by decide) ?_
    refine zr_i (zr_V (As := [.int 0]) (rest := []) S hK hT hN hP hS (by decide) (mF_0 _) rfl (cMod_number l D cI cC cE ad A hJ _ _ _ hw) caMod_294 ⟨Nat.le_of_ble_eq_true rfl, Nat.le_of_ble_eq_true rfl⟩ ⟨rfl, rfl⟩ rfl hl.1 rfl (Nat.le_of_ble_eq_true rfl) dMod_readArgument_21) hS (fun r21 h21 H locs hw hP hS => ?_)
    refine lv_istore_n (lv' := [(3, .int r21), (0, .ref (ad 0)), (1, .int x1), (2, .int x2)]) S.1 S.2.1 dMod_readArgument_24 rfl hl (by decide) rfl (fun ls hl => ?_)
    refine lv_aload_n S.1 S.2.1 dMod_readArgument_25 rfl (lv_at hl 1 rfl) ?_
    refine lv_aload_n S.1 S.2.1 dMod_readArgument_26 rfl (lv_at hl 1 rfl) ?_
    refine zr_get S hK hP (by decide) (mF_0 _) fMod_bad q870 rfl dMod_readArgument_27 ?_
    refine lv_if_ne S.1 S.2.1 dMod_readArgument_30 rfl (fun hc => ?_) (fun hc => ?_)
    · have hw := hw.1 hc
      exact J41 _ _ _ _ _ _ _ hw (lv_sub hl [1, 2, 3, 0] rfl) hP hS
    · have hw := hw.2 hc
      refine lv_iload_n S.1 S.2.1 dMod_readArgument_33 rfl (lv_at hl 0 rfl) ?_
      refine lv_aload_n S.1 S.2.1 dMod_readArgument_34 rfl (lv_at hl 1 rfl) ?_
      refine zr_get S hK hP (by decide) (mF_0 _) fMod_size q839 rfl dMod_readArgument_35 ?_
      refine lv_icmp_lt S.1 S.2.1 dMod_readArgument_38 rfl (fun hc => ?_) (fun hc => ?_)
      · have hw := hw.1 hc
        refine lv_iconst (v := 0) S.1 S.2.1 dMod_readArgument_45 (by decide) ?_
        exact J46 _ _ _ _ _ _ _ _ hw (lv_sub hl [1, 2, 3, 0] rfl) hP hS
      · have hw := hw.2 hc
        exact J41 _ _ _ _ _ _ _ hw (lv_sub hl [1, 2, 3, 0] rfl) hP hS
/-! Mod.readStatement -/
theorem dMod_readStatement_0 : decode bMod_readStatement 0 = .ok (.aload_n 0, 1) := by decide +kernel
theorem dMod_readStatement_1 : decode bMod_readStatement 1 = .ok (.invokevirtual 288, 3) := by decide +kernel
theorem dMod_readStatement_4 : decode bMod_readStatement 4 = .ok (.bipush 97, 2) := by decide +kernel
theorem dMod_readStatement_6 : decode bMod_readStatement 6 = .ok (.isub, 1) := by decide +kernel
theorem dMod_readStatement_7 : decode bMod_readStatement 7 = .ok (.istore_n 1, 1) := by decide +kernel
theorem dMod_readStatement_8 : decode bMod_readStatement 8 = .ok (.aload_n 0, 1) := by decide +kernel
theorem dMod_readStatement_9 : decode bMod_readStatement 9 = .ok (.dup, 1) := by decide +kernel
theorem dMod_readStatement_10 : decode bMod_readStatement 10 = .ok (.getfield 281, 3) := by decide +kernel
theorem dMod_readStatement_13 : decode bMod_readStatement 13 = .ok (.iconst 1, 1) := by decide +kernel
theorem dMod_readStatement_14 : decode bMod_readStatement 14 = .ok (.iadd, 1) := by decide +kernel
theorem dMod_readStatement_15 : decode bMod_readStatement 15 = .ok (.putfield 281, 3) := by decide +kernel
theorem dMod_readStatement_18 : decode bMod_readStatement 18 = .ok (.aload_n 0, 1) := by decide +kernel
theorem dMod_readStatement_19 : decode bMod_readStatement 19 = .ok (.aload_n 0, 1) := by decide +kernel
theorem dMod_readStatement_20 : decode bMod_readStatement 20 = .ok (.getfield 284, 3) := by decide +kernel
theorem dMod_readStatement_23 : decode bMod_readStatement 23 = .ok (.ifCond .ne 24, 3) := by decide +kernel
theorem dMod_readStatement_26 : decode bMod_readStatement 26 = .ok (.iload_n 1, 1) := by decide +kernel
theorem dMod_readStatement_27 : decode bMod_readStatement 27 = .ok (.ifCond .lt 20, 3) := by decide +kernel
theorem dMod_readStatement_30 : decode bMod_readStatement 30 = .ok (.iload_n 1, 1) := by decide +kernel
theorem dMod_readStatement_31 : decode bMod_readStatement 31 = .ok (.aload_n 0, 1) := by decide +kernel
theorem dMod_readStatement_32 : decode bMod_readStatement 32 = .ok (.getfield 101, 3) := by decide +kernel
theorem dMod_readStatement_35 : decode bMod_readStatement 35 = .ok (.if_icmp .ge 12, 3) := by decide +kernel
theorem dMod_readStatement_38 : decode bMod_readStatement 38 = .ok (.aload_n 0, 1) := by decide +kernel
theorem dMod_readStatement_39 : decode bMod_readStatement 39 = .ok (.getfield 156, 3) := by decide +kernel
theorem dMod_readStatement_42 : decode bMod_readStatement 42 = .ok (.bipush 10, 2) := by decide +kernel
theorem dMod_readStatement_44 : decode bMod_readStatement 44 = .ok (.if_icmp .ne 7, 3) := by decide +kernel
theorem dMod_readStatement_47 : decode bMod_readStatement 47 = .ok (.iconst 1, 1) := by decide +kernel
theorem dMod_readStatement_48 : decode bMod_readStatement 48 = .ok (.goto 4, 3) := by decide +kernel
theorem dMod_readStatement_51 : decode bMod_readStatement 51 = .ok (.iconst 0, 1) := by decide +kernel
theorem dMod_readStatement_52 : decode bMod_readStatement 52 = .ok (.putfield 284, 3) := by decide +kernel
theorem dMod_readStatement_55 : decode bMod_readStatement 55 = .ok (.aload_n 0, 1) := by decide +kernel
theorem dMod_readStatement_56 : decode bMod_readStatement 56 = .ok (.bipush 40, 2) := by decide +kernel
theorem dMod_readStatement_58 : decode bMod_readStatement 58 = .ok (.invokevirtual 298, 3) := by decide +kernel
theorem dMod_readStatement_61 : decode bMod_readStatement 61 = .ok (.iconst 0, 1) := by decide +kernel
theorem dMod_readStatement_62 : decode bMod_readStatement 62 = .ok (.istore_n 2, 1) := by decide +kernel
theorem dMod_readStatement_63 : decode bMod_readStatement 63 = .ok (.aload_n 0, 1) := by decide +kernel
theorem dMod_readStatement_64 : decode bMod_readStatement 64 = .ok (.getfield 284, 3) := by decide +kernel
theorem dMod_readStatement_67 : decode bMod_readStatement 67 = .ok (.ifCond .ne 43, 3) := by decide +kernel
theorem dMod_readStatement_70 : decode bMod_readStatement 70 = .ok (.iload_n 2, 1) := by decide +kernel
theorem dMod_readStatement_71 : decode bMod_readStatement 71 = .ok (.aload_n 0, 1) := by decide +kernel
theorem dMod_readStatement_72 : decode bMod_readStatement 72 = .ok (.getfield 19, 3) := by decide +kernel
theorem dMod_readStatement_75 : decode bMod_readStatement 75 = .ok (.iload_n 1, 1) := by decide +kernel
theorem dMod_readStatement_76 : decode bMod_readStatement 76 = .ok (.iaload, 1) := by decide +kernel
theorem dMod_readStatement_77 : decode bMod_readStatement 77 = .ok (.invokestatic 122, 3) := by decide +kernel
theorem dMod_readStatement_80 : decode bMod_readStatement 80 = .ok (.if_icmp .ge 30, 3) := by decide +kernel
theorem dMod_readStatement_83 : decode bMod_readStatement 83 = .ok (.iload_n 2, 1) := by decide +kernel
theorem dMod_readStatement_84 : decode bMod_readStatement 84 = .ok (.ifCond .le 9, 3) := by decide +kernel
theorem dMod_readStatement_87 : decode bMod_readStatement 87 = .ok (.aload_n 0, 1) := by decide +kernel
theorem dMod_readStatement_88 : decode bMod_readStatement 88 = .ok (.bipush 44, 2) := by decide +kernel
theorem dMod_readStatement_90 : decode bMod_readStatement 90 = .ok (.invokevirtual 298, 3) := by decide +kernel
theorem dMod_readStatement_93 : decode bMod_readStatement 93 = .ok (.aload_n 0, 1) := by decide +kernel
theorem dMod_readStatement_94 : decode bMod_readStatement 94 = .ok (.aload_n 0, 1) := by decide +kernel
theorem dMod_readStatement_95 : decode bMod_readStatement 95 = .ok (.iload_n 1, 1) := by decide +kernel
theorem dMod_readStatement_96 : decode bMod_readStatement 96 = .ok (.iload_n 2, 1) := by decide +kernel
theorem dMod_readStatement_97 : decode bMod_readStatement 97 = .ok (.invokevirtual 150, 3) := by decide +kernel
theorem dMod_readStatement_100 : decode bMod_readStatement 100 = .ok (.iload_n 2, 1) := by decide +kernel
theorem dMod_readStatement_101 : decode bMod_readStatement 101 = .ok (.invokevirtual 301, 3) := by decide +kernel
theorem dMod_readStatement_104 : decode bMod_readStatement 104 = .ok (.iinc 2 1, 3) := by decide +kernel
theorem dMod_readStatement_107 : decode bMod_readStatement 107 = .ok (.goto (-44), 3) := by decide +kernel
theorem dMod_readStatement_110 : decode bMod_readStatement 110 = .ok (.aload_n 0, 1) := by decide +kernel
theorem dMod_readStatement_111 : decode bMod_readStatement 111 = .ok (.bipush 41, 2) := by decide +kernel
theorem dMod_readStatement_113 : decode bMod_readStatement 113 = .ok (.invokevirtual 298, 3) := by decide +kernel
theorem dMod_readStatement_116 : decode bMod_readStatement 116 = .ok (.aload_n 0, 1) := by decide +kernel
theorem dMod_readStatement_117 : decode bMod_readStatement 117 = .ok (.getfield 284, 3) := by decide +kernel
theorem dMod_readStatement_120 : decode bMod_readStatement 120 = .ok (.ifCond .ne 8, 3) := by decide +kernel
theorem dMod_readStatement_123 : decode bMod_readStatement 123 = .ok (.aload_n 0, 1) := by decide +kernel
theorem dMod_readStatement_124 : decode bMod_readStatement 124 = .ok (.iload_n 1, 1) := by decide +kernel
theorem dMod_readStatement_125 : decode bMod_readStatement 125 = .ok (.invokevirtual 227, 3) := by decide +kernel
theorem dMod_readStatement_128 : decode bMod_readStatement 128 = .ok (.return_, 1) := by decide +kernel
def wbMod_readStatement_110 (post : zM → Prop) (v1 : Int32) (h : zM) : Prop := wpMod_expect 41 h (fun h113 => ((¬ (h113 0 42) = 0 → post h113) ∧ ((h113 0 42) = 0 → wpMod_put v1 h113 (fun h125 => post h125))))
def wbMod_readStatement_93 (post : zM → Prop) (L63 : (Int32 × Int32 × zM) → Prop) (v1 : Int32) (v2 : Int32) (h : zM) : Prop := wpMod_wants v1 v2 h (fun r97 h97 => wpMod_readArgument r97 v2 h97 (fun h101 => L63 (v1, (v2 + 1), h101)))
def stMod_readStatement_63 (post : zM → Prop) (L63 : (Int32 × Int32 × zM) → Prop) : (Int32 × Int32 × zM) → Prop := fun s => match s with
  | (v1, v2, h) => ((¬ (h 0 42) = 0 → wbMod_readStatement_110 post v1 h) ∧ ((h 0 42) = 0 → (vp_in v1 10 ∧ wpMod_arity (h 4 (Int32.toNatClampNeg v1)) h (fun r77 h77 => (((r77 ≤ v2) → wbMod_readStatement_110 post v1 h77) ∧ (¬ (r77 ≤ v2) → (((v2 ≤ 0) → wbMod_readStatement_93 post L63 v1 v2 h77) ∧ (¬ (v2 ≤ 0) → wpMod_expect 44 h77 (fun h90 => wbMod_readStatement_93 post L63 v1 v2 h90)))))))))
def wbMod_readStatement_52 (post : zM → Prop) (v1 : Int32) (k1 : Int32) (h : zM) : Prop := ((k1 = 0 ∨ k1 = 1) ∧ ∀ h52 : zM, h52 = zu h 0 42 k1 → wpMod_expect 40 h52 (fun h58 => zL (stMod_readStatement_63 post) (v1, 0, h58)))
def wbMod_readStatement_47 (post : zM → Prop) (v1 : Int32) (h : zM) : Prop := wbMod_readStatement_52 post v1 1 h
def wpMod_readStatement (h : zM) (post : zM → Prop) : Prop := wpMod_peek h (fun r1 h1 => ∀ y7 : Int32, y7 = (r1 - 97) → ∀ h15 : zM, h15 = zu h1 0 41 ((h1 0 41) + 1) → ((¬ (h15 0 42) = 0 → wbMod_readStatement_47 post y7 h15) ∧ ((h15 0 42) = 0 → (((y7 < 0) → wbMod_readStatement_47 post y7 h15) ∧ (¬ (y7 < 0) → ((((h15 0 5) ≤ y7) → wbMod_readStatement_47 post y7 h15) ∧ (¬ ((h15 0 5) ≤ y7) → ((¬ (h15 0 11) = 10 → wbMod_readStatement_52 post y7 0 h15) ∧ ((h15 0 11) = 10 → wbMod_readStatement_47 post y7 h15)))))))))
abbrev rmMod_readStatement : Room := { frames := 3, cells := 0, slots := 0, locals := 72 }
set_option maxHeartbeats 4000000 in
set_option maxRecDepth 100000 in
theorem cMod_readStatement (l : Launch) (D : va_G) (cI cC cE : ClassId) (ad : Nat → Nat) (A : Nat → Prop) (hJ : zJ A 28 ad) (h : zM) (post : zM → Prop) (hw : wpMod_readStatement h post) : Met l yMod_readStatement (.code yMod_readStatement bMod_readStatement 3 none :: zt) rmMod_readStatement (va_Pc [.ref (ad 0)] (zPre D (zty cI cC cE) 28 ad (mF ad cI) A h)) (va_Qv post (zPst D (zty cI cC cE) 28 ad (mF ad cI)) A) 0 0 A := by
  refine Met.ofW (cc := bMod_readStatement) (maxL := 3) (ret := none) (by decide) rfl ?_
  intro p e s m args below meth c s₁ B hml hv
  obtain ⟨rfl, hP, hK, hT, hN⟩ := hv
  have hr := B.returns
  have hlk := B.notSynchronized
  have S : zS p m c bMod_readStatement 3 s _ "CallExplorerModel" := ⟨B.exec, B.bytes, hml, findClass_of_methodNamed B.named, fun w hw => atoms_spec (ws := .code yMod_readStatement bMod_readStatement 3 none :: zt) B.pre w (List.mem_cons_of_mem _ hw)⟩
  have hS : va_S A s.heap s.heap [] := va_S.rf
  have hl := lv_entry ([.ref (ad 0)]) (n := 3) (Nat.le_of_ble_eq_true rfl)
  rw [lg_entry_eq]
  generalize (lg_sl ([.ref (ad 0)]) ++ List.replicate (3 - (lg_sl ([.ref (ad 0)])).length) Slot.unset).toArray = ls at hl ⊢
  have hl : lv_has ls 3 [(0, .ref (ad 0))] := hl
  show W p l e rmMod_readStatement s m ([.ref (ad 0)] : List Value).toArray below meth c s.heap [] 0 0 (zQv post D (zty cI cC cE) 28 ad (mF ad cI) A below ([.ref (ad 0)] : List Value).toArray s) _
  have J110 : ∀ (v1 : Int32) (h : zM) (H : Heap) (locs : List Loc) (ls : Array Slot), wbMod_readStatement_110 post v1 h → lv_has ls 3 [(0, .ref (ad 0)), (1, .int v1)] → va_P D zcl (zW 28 ad (mF ad cI) h) H → va_S A s.heap H locs → W p l e rmMod_readStatement s m ([.ref (ad 0)] : List Value).toArray below meth c H locs 0 0 (zQv post D (zty cI cC cE) 28 ad (mF ad cI) A below ([.ref (ad 0)] : List Value).toArray s) (F0 m 110 ls []) := by
    intro v1 h H locs ls hw hl hP hS
    unfold wbMod_readStatement_110 at hw
    refine lv_aload_n S.1 S.2.1 dMod_readStatement_110 rfl (lv_at hl 0 rfl) ?_
    refine lv_bipush (v := 41) S.1 S.2.1 dMod_readStatement_111 (by decide) ?_
    refine zr_v (zr_V (As := [.int 41]) (rest := []) S hK hT hN hP hS (by decide) (mF_0 _) rfl (cMod_expect l D cI cC cE ad A hJ _ _ _ hw) caMod_298 ⟨Nat.le_of_ble_eq_true rfl, Nat.le_of_ble_eq_true rfl⟩ ⟨rfl, rfl⟩ rfl hl.1 rfl (Nat.le_of_ble_eq_true rfl) dMod_readStatement_113) hS (fun h113 H locs hw hP hS => ?_)
    refine lv_aload_n S.1 S.2.1 dMod_readStatement_116 rfl (lv_at hl 0 rfl) ?_
    refine zr_get S hK hP (by decide) (mF_0 _) fMod_bad q870 rfl dMod_readStatement_117 ?_
    refine lv_if_ne S.1 S.2.1 dMod_readStatement_120 rfl (fun hc => ?_) (fun hc => ?_)
    · have hw := hw.1 hc
      exact zr_vret S hr hlk hK hP hS hw dMod_readStatement_128
    · have hw := hw.2 hc
      refine lv_aload_n S.1 S.2.1 dMod_readStatement_123 rfl (lv_at hl 0 rfl) ?_
      refine lv_iload_n S.1 S.2.1 dMod_readStatement_124 rfl (lv_at hl 1 rfl) ?_
      refine zr_v (zr_V (As := [.int v1]) (rest := []) S hK hT hN hP hS (by decide) (mF_0 _) rfl (cMod_put l D cI cC cE ad A hJ _ _ _ hw) caMod_227 ⟨Nat.le_of_ble_eq_true rfl, Nat.le_of_ble_eq_true rfl⟩ ⟨rfl, rfl⟩ rfl hl.1 rfl (Nat.le_of_ble_eq_true rfl) dMod_readStatement_125) hS (fun h125 H locs hw hP hS => ?_)
      exact zr_vret S hr hlk hK hP hS hw dMod_readStatement_128
  have J63 : ∀ (fu : Nat) (v1 : Int32) (v2 : Int32) (h : zM) (H : Heap) (locs : List Loc) (ls : Array Slot), zl (stMod_readStatement_63 post) fu (v1, v2, h) → lv_has ls 3 [(0, .ref (ad 0)), (1, .int v1), (2, .int v2)] → va_P D zcl (zW 28 ad (mF ad cI) h) H → va_S A s.heap H locs → W p l e rmMod_readStatement s m ([.ref (ad 0)] : List Value).toArray below meth c H locs 0 0 (zQv post D (zty cI cC cE) 28 ad (mF ad cI) A below ([.ref (ad 0)] : List Value).toArray s) (F0 m 63 ls []) := by
    intro fu63
    induction fu63 with
    | zero =>
      intro v1 v2 h H locs ls hw
      exact (zl_0 hw).elim
    | succ fu63 ih63 =>
      intro v1 v2 h H locs ls hw hl hP hS
      have hw := zl_s hw
      generalize zl (stMod_readStatement_63 post) fu63 = L63 at hw ih63
      have J93 : ∀ (v1 : Int32) (v2 : Int32) (h : zM) (H : Heap) (locs : List Loc) (ls : Array Slot), wbMod_readStatement_93 post L63 v1 v2 h → lv_has ls 3 [(0, .ref (ad 0)), (1, .int v1), (2, .int v2)] → va_P D zcl (zW 28 ad (mF ad cI) h) H → va_S A s.heap H locs → W p l e rmMod_readStatement s m ([.ref (ad 0)] : List Value).toArray below meth c H locs 0 0 (zQv post D (zty cI cC cE) 28 ad (mF ad cI) A below ([.ref (ad 0)] : List Value).toArray s) (F0 m 93 ls []) := by
        intro v1 v2 h H locs ls hw hl hP hS
        unfold wbMod_readStatement_93 at hw
        refine lv_aload_n S.1 S.2.1 dMod_readStatement_93 rfl (lv_at hl 0 rfl) ?_
        refine lv_aload_n S.1 S.2.1 dMod_readStatement_94 rfl (lv_at hl 0 rfl) ?_
        refine lv_iload_n S.1 S.2.1 dMod_readStatement_95 rfl (lv_at hl 1 rfl) ?_
        refine lv_iload_n S.1 S.2.1 dMod_readStatement_96 rfl (lv_at hl 2 rfl) ?_
        refine zr_i (zr_V (As := [.int v1, .int v2]) (rest := [.ref (ad 0)]) S hK hT hN hP hS (by decide) (mF_0 _) rfl (cMod_wants l D cI cC cE ad A hJ _ _ _ _ hw) caMod_150 ⟨Nat.le_of_ble_eq_true rfl, Nat.le_of_ble_eq_true rfl⟩ ⟨rfl, rfl⟩ rfl hl.1 rfl (Nat.le_of_ble_eq_true rfl) dMod_readStatement_97) hS (fun r97 h97 H locs hw hP hS => ?_)
        refine lv_iload_n S.1 S.2.1 dMod_readStatement_100 rfl (lv_at hl 2 rfl) ?_
        refine zr_v (zr_V (As := [.int r97, .int v2]) (rest := []) S hK hT hN hP hS (by decide) (mF_0 _) rfl (cMod_readArgument l D cI cC cE ad A hJ _ _ _ _ hw) caMod_301 ⟨Nat.le_of_ble_eq_true rfl, Nat.le_of_ble_eq_true rfl⟩ ⟨rfl, rfl⟩ rfl hl.1 rfl (Nat.le_of_ble_eq_true rfl) dMod_readStatement_101) hS (fun h101 H locs hw hP hS => ?_)
        refine lv_iinc (v := (v2 + 1)) (lv' := [(2, .int (v2 + 1)), (0, .ref (ad 0)), (1, .int v1)]) (k := 2) S.1 S.2.1 dMod_readStatement_104 hl rfl rfl (by decide) rfl (fun ls hl => ?_)
        refine lv_goto S.1 S.2.1 dMod_readStatement_107 rfl ?_
        exact ih63 _ _ _ _ _ _ hw (lv_sub hl [1, 2, 0] rfl) hP hS
      unfold stMod_readStatement_63 at hw
      dsimp only at hw
      refine lv_aload_n S.1 S.2.1 dMod_readStatement_63 rfl (lv_at hl 0 rfl) ?_
      refine zr_get S hK hP (by decide) (mF_0 _) fMod_bad q870 rfl dMod_readStatement_64 ?_
      refine lv_if_ne S.1 S.2.1 dMod_readStatement_67 rfl (fun hc => ?_) (fun hc => ?_)
      · have hw := hw.1 hc
        exact J110 _ _ _ _ _ hw (lv_sub hl [0, 1] rfl) hP hS
      · have hw := hw.2 hc
        refine lv_iload_n S.1 S.2.1 dMod_readStatement_70 rfl (lv_at hl 2 rfl) ?_
        refine lv_aload_n S.1 S.2.1 dMod_readStatement_71 rfl (lv_at hl 0 rfl) ?_
        refine zr_get S hK hP (by decide) (mF_0 _) fMod_kind q834 rfl dMod_readStatement_72 ?_
        refine lv_iload_n S.1 S.2.1 dMod_readStatement_75 rfl (lv_at hl 1 rfl) ?_
        obtain ⟨z76, hw⟩ := hw
        refine zr_ald S hK hP (by decide) (mF_4 _) 0 rfl z76 dMod_readStatement_76 ?_
        refine zr_i (zr_T (As := [.int (h 4 (Int32.toNatClampNeg v1))]) (rest := [.int v2]) S hK hT hN hP hS (cMod_arity l D cI cC cE ad A hJ _ _ _ hw) caMod_122 ⟨Nat.le_of_ble_eq_true rfl, Nat.le_of_ble_eq_true rfl⟩ ⟨rfl, rfl⟩ rfl hl.1 rfl (Nat.le_of_ble_eq_true rfl) dMod_readStatement_77) hS (fun r77 h77 H locs hw hP hS => ?_)
        refine lv_icmp_ge S.1 S.2.1 dMod_readStatement_80 rfl (fun hc => ?_) (fun hc => ?_)
        · have hw := hw.1 hc
          exact J110 _ _ _ _ _ hw (lv_sub hl [0, 1] rfl) hP hS
        · have hw := hw.2 hc
          refine lv_iload_n S.1 S.2.1 dMod_readStatement_83 rfl (lv_at hl 2 rfl) ?_
          refine lv_if_le S.1 S.2.1 dMod_readStatement_84 rfl (fun hc => ?_) (fun hc => ?_)
          · have hw := hw.1 hc
            exact J93 _ _ _ _ _ _ hw (lv_sub hl [0, 1, 2] rfl) hP hS
          · have hw := hw.2 hc
            refine lv_aload_n S.1 S.2.1 dMod_readStatement_87 rfl (lv_at hl 0 rfl) ?_
            refine lv_bipush (v := 44) S.1 S.2.1 dMod_readStatement_88 (by decide) ?_
            refine zr_v (zr_V (As := [.int 44]) (rest := []) S hK hT hN hP hS (by decide) (mF_0 _) rfl (cMod_expect l D cI cC cE ad A hJ _ _ _ hw) caMod_298 ⟨Nat.le_of_ble_eq_true rfl, Nat.le_of_ble_eq_true rfl⟩ ⟨rfl, rfl⟩ rfl hl.1 rfl (Nat.le_of_ble_eq_true rfl) dMod_readStatement_90) hS (fun h90 H locs hw hP hS => ?_)
            exact J93 _ _ _ _ _ _ hw (lv_sub hl [0, 1, 2] rfl) hP hS
  have J52 : ∀ (v1 : Int32) (k1 : Int32) (h : zM) (H : Heap) (locs : List Loc) (ls : Array Slot), wbMod_readStatement_52 post v1 k1 h → lv_has ls 3 [(0, .ref (ad 0)), (1, .int v1)] → va_P D zcl (zW 28 ad (mF ad cI) h) H → va_S A s.heap H locs → W p l e rmMod_readStatement s m ([.ref (ad 0)] : List Value).toArray below meth c H locs 0 0 (zQv post D (zty cI cC cE) 28 ad (mF ad cI) A below ([.ref (ad 0)] : List Value).toArray s) (F0 m 52 ls [.int k1, .ref (ad 0)]) := by
    intro v1 k1 h H locs ls hw hl hP hS
    unfold wbMod_readStatement_52 at hw
    obtain ⟨z52, hw⟩ := hw
    refine zr_put S hK hJ hP hS (by decide) (mF_0 _) fMod_bad q870 (zbn z52) (zbf z52) (Nat.le_of_ble_eq_true rfl) (mF_0 _) dMod_readStatement_52 (fun h52 H locs e52 hP hS => ?_)
    have hw := hw h52 e52
    refine lv_aload_n S.1 S.2.1 dMod_readStatement_55 rfl (lv_at hl 0 rfl) ?_
    refine lv_bipush (v := 40) S.1 S.2.1 dMod_readStatement_56 (by decide) ?_
    refine zr_v (zr_V (As := [.int 40]) (rest := []) S hK hT hN hP hS (by decide) (mF_0 _) rfl (cMod_expect l D cI cC cE ad A hJ _ _ _ hw) caMod_298 ⟨Nat.le_of_ble_eq_true rfl, Nat.le_of_ble_eq_true rfl⟩ ⟨rfl, rfl⟩ rfl hl.1 rfl (Nat.le_of_ble_eq_true rfl) dMod_readStatement_58) hS (fun h58 H locs hw hP hS => ?_)
    refine lv_iconst (v := 0) S.1 S.2.1 dMod_readStatement_61 (by decide) ?_
    refine lv_istore_n (lv' := [(2, .int 0), (0, .ref (ad 0)), (1, .int v1)]) S.1 S.2.1 dMod_readStatement_62 rfl hl (by decide) rfl (fun ls hl => ?_)
    obtain ⟨fu, hw⟩ := hw
    exact J63 fu _ _ _ _ _ _ hw (lv_sub hl [1, 2, 0] rfl) hP hS
  have J47 : ∀ (v1 : Int32) (h : zM) (H : Heap) (locs : List Loc) (ls : Array Slot), wbMod_readStatement_47 post v1 h → lv_has ls 3 [(0, .ref (ad 0)), (1, .int v1)] → va_P D zcl (zW 28 ad (mF ad cI) h) H → va_S A s.heap H locs → W p l e rmMod_readStatement s m ([.ref (ad 0)] : List Value).toArray below meth c H locs 0 0 (zQv post D (zty cI cC cE) 28 ad (mF ad cI) A below ([.ref (ad 0)] : List Value).toArray s) (F0 m 47 ls [.ref (ad 0)]) := by
    intro v1 h H locs ls hw hl hP hS
    unfold wbMod_readStatement_47 at hw
    refine lv_iconst (v := 1) S.1 S.2.1 dMod_readStatement_47 (by decide) ?_
    refine lv_goto S.1 S.2.1 dMod_readStatement_48 rfl ?_
    exact J52 _ _ _ _ _ _ hw (lv_sub hl [0, 1] rfl) hP hS
  unfold wpMod_readStatement at hw
  refine lv_aload_n S.1 S.2.1 dMod_readStatement_0 rfl (lv_at hl 0 rfl) ?_
  refine zr_i (zr_V (As := []) (rest := []) S hK hT hN hP hS (by decide) (mF_0 _) rfl (cMod_peek l D cI cC cE ad A hJ _ _ hw) caMod_288 ⟨Nat.le_of_ble_eq_true rfl, Nat.le_of_ble_eq_true rfl⟩ ⟨rfl, rfl⟩ rfl hl.1 rfl (Nat.le_of_ble_eq_true rfl) dMod_readStatement_1) hS (fun r1 h1 H locs hw hP hS => ?_)
  refine lv_bipush (v := 97) S.1 S.2.1 dMod_readStatement_4 (by decide) ?_
  refine lv_isub S.1 S.2.1 dMod_readStatement_6 ?_
  refine lv_topi (fun y7 e7 => ?_)
  have hw := hw y7 e7
  refine lv_istore_n (lv' := [(1, .int y7), (0, .ref (ad 0))]) S.1 S.2.1 dMod_readStatement_7 rfl hl (by decide) rfl (fun ls hl => ?_)
  refine lv_aload_n S.1 S.2.1 dMod_readStatement_8 rfl (lv_at hl 1 rfl) ?_
  refine lv_dup S.1 S.2.1 dMod_readStatement_9 rfl ?_
  refine zr_get S hK hP (by decide) (mF_0 _) fMod_at q869 rfl dMod_readStatement_10 ?_
  refine lv_iconst (v := 1) S.1 S.2.1 dMod_readStatement_13 (by decide) ?_
  refine lv_iadd S.1 S.2.1 dMod_readStatement_14 ?_
  refine zr_put S hK hJ hP hS (by decide) (mF_0 _) fMod_at q869 rfl rfl (Nat.le_of_ble_eq_true rfl) (mF_0 _) dMod_readStatement_15 (fun h15 H locs e15 hP hS => ?_)
  have hw := hw h15 e15
  refine lv_aload_n S.1 S.2.1 dMod_readStatement_18 rfl (lv_at hl 1 rfl) ?_
  refine lv_aload_n S.1 S.2.1 dMod_readStatement_19 rfl (lv_at hl 1 rfl) ?_
  refine zr_get S hK hP (by decide) (mF_0 _) fMod_bad q870 rfl dMod_readStatement_20 ?_
  refine lv_if_ne S.1 S.2.1 dMod_readStatement_23 rfl (fun hc => ?_) (fun hc => ?_)
  · have hw := hw.1 hc
    exact J47 _ _ _ _ _ hw (lv_sub hl [1, 0] rfl) hP hS
  · have hw := hw.2 hc
    refine lv_iload_n S.1 S.2.1 dMod_readStatement_26 rfl (lv_at hl 0 rfl) ?_
    refine lv_if_lt S.1 S.2.1 dMod_readStatement_27 rfl (fun hc => ?_) (fun hc => ?_)
    · have hw := hw.1 hc
      exact J47 _ _ _ _ _ hw (lv_sub hl [1, 0] rfl) hP hS
    · have hw := hw.2 hc
      refine lv_iload_n S.1 S.2.1 dMod_readStatement_30 rfl (lv_at hl 0 rfl) ?_
      refine lv_aload_n S.1 S.2.1 dMod_readStatement_31 rfl (lv_at hl 1 rfl) ?_
      refine zr_get S hK hP (by decide) (mF_0 _) fMod_operations q833 rfl dMod_readStatement_32 ?_
      refine lv_icmp_ge S.1 S.2.1 dMod_readStatement_35 rfl (fun hc => ?_) (fun hc => ?_)
      · have hw := hw.1 hc
        exact J47 _ _ _ _ _ hw (lv_sub hl [1, 0] rfl) hP hS
      · have hw := hw.2 hc
        refine lv_aload_n S.1 S.2.1 dMod_readStatement_38 rfl (lv_at hl 1 rfl) ?_
        refine zr_get S hK hP (by decide) (mF_0 _) fMod_size q839 rfl dMod_readStatement_39 ?_
        refine lv_bipush (v := 10) S.1 S.2.1 dMod_readStatement_42 (by decide) ?_
        refine lv_icmp_ne S.1 S.2.1 dMod_readStatement_44 rfl (fun hc => ?_) (fun hc => ?_)
        · have hw := hw.1 hc
          refine lv_iconst (v := 0) S.1 S.2.1 dMod_readStatement_51 (by decide) ?_
          exact J52 _ _ _ _ _ _ hw (lv_sub hl [1, 0] rfl) hP hS
        · have hw := hw.2 hc
          exact J47 _ _ _ _ _ hw (lv_sub hl [1, 0] rfl) hP hS
/-! Mod.rightEnd -/
theorem dMod_rightEnd_0 : decode bMod_rightEnd 0 = .ok (.aload_n 0, 1) := by decide +kernel
theorem dMod_rightEnd_1 : decode bMod_rightEnd 1 = .ok (.invokevirtual 288, 3) := by decide +kernel
theorem dMod_rightEnd_4 : decode bMod_rightEnd 4 = .ok (.istore_n 1, 1) := by decide +kernel
theorem dMod_rightEnd_5 : decode bMod_rightEnd 5 = .ok (.aload_n 0, 1) := by decide +kernel
theorem dMod_rightEnd_6 : decode bMod_rightEnd 6 = .ok (.dup, 1) := by decide +kernel
theorem dMod_rightEnd_7 : decode bMod_rightEnd 7 = .ok (.getfield 281, 3) := by decide +kernel
theorem dMod_rightEnd_10 : decode bMod_rightEnd 10 = .ok (.iconst 1, 1) := by decide +kernel
theorem dMod_rightEnd_11 : decode bMod_rightEnd 11 = .ok (.iadd, 1) := by decide +kernel
theorem dMod_rightEnd_12 : decode bMod_rightEnd 12 = .ok (.putfield 281, 3) := by decide +kernel
theorem dMod_rightEnd_15 : decode bMod_rightEnd 15 = .ok (.aload_n 0, 1) := by decide +kernel
theorem dMod_rightEnd_16 : decode bMod_rightEnd 16 = .ok (.invokevirtual 288, 3) := by decide +kernel
theorem dMod_rightEnd_19 : decode bMod_rightEnd 19 = .ok (.istore_n 2, 1) := by decide +kernel
theorem dMod_rightEnd_20 : decode bMod_rightEnd 20 = .ok (.iload_n 1, 1) := by decide +kernel
theorem dMod_rightEnd_21 : decode bMod_rightEnd 21 = .ok (.bipush 61, 2) := by decide +kernel
theorem dMod_rightEnd_23 : decode bMod_rightEnd 23 = .ok (.if_icmp .ne 89, 3) := by decide +kernel
theorem dMod_rightEnd_26 : decode bMod_rightEnd 26 = .ok (.iload_n 2, 1) := by decide +kernel
theorem dMod_rightEnd_27 : decode bMod_rightEnd 27 = .ok (.bipush 110, 2) := by decide +kernel
theorem dMod_rightEnd_29 : decode bMod_rightEnd 29 = .ok (.if_icmp .eq 9, 3) := by decide +kernel
theorem dMod_rightEnd_32 : decode bMod_rightEnd 32 = .ok (.iload_n 2, 1) := by decide +kernel
theorem dMod_rightEnd_33 : decode bMod_rightEnd 33 = .ok (.bipush 111, 2) := by decide +kernel
theorem dMod_rightEnd_35 : decode bMod_rightEnd 35 = .ok (.if_icmp .ne 77, 3) := by decide +kernel
theorem dMod_rightEnd_38 : decode bMod_rightEnd 38 = .ok (.aload_n 0, 1) := by decide +kernel
theorem dMod_rightEnd_39 : decode bMod_rightEnd 39 = .ok (.dup, 1) := by decide +kernel
theorem dMod_rightEnd_40 : decode bMod_rightEnd 40 = .ok (.getfield 281, 3) := by decide +kernel
theorem dMod_rightEnd_43 : decode bMod_rightEnd 43 = .ok (.iconst 1, 1) := by decide +kernel
theorem dMod_rightEnd_44 : decode bMod_rightEnd 44 = .ok (.iadd, 1) := by decide +kernel
theorem dMod_rightEnd_45 : decode bMod_rightEnd 45 = .ok (.putfield 281, 3) := by decide +kernel
theorem dMod_rightEnd_48 : decode bMod_rightEnd 48 = .ok (.aload_n 0, 1) := by decide +kernel
theorem dMod_rightEnd_49 : decode bMod_rightEnd 49 = .ok (.getfield 165, 3) := by decide +kernel
theorem dMod_rightEnd_52 : decode bMod_rightEnd 52 = .ok (.ifCond .ne 58, 3) := by decide +kernel
theorem dMod_rightEnd_55 : decode bMod_rightEnd 55 = .ok (.aload_n 0, 1) := by decide +kernel
theorem dMod_rightEnd_56 : decode bMod_rightEnd 56 = .ok (.aload_n 0, 1) := by decide +kernel
theorem dMod_rightEnd_57 : decode bMod_rightEnd 57 = .ok (.getfield 35, 3) := by decide +kernel
theorem dMod_rightEnd_60 : decode bMod_rightEnd 60 = .ok (.aload_n 0, 1) := by decide +kernel
theorem dMod_rightEnd_61 : decode bMod_rightEnd 61 = .ok (.getfield 156, 3) := by decide +kernel
theorem dMod_rightEnd_64 : decode bMod_rightEnd 64 = .ok (.iconst 1, 1) := by decide +kernel
theorem dMod_rightEnd_65 : decode bMod_rightEnd 65 = .ok (.isub, 1) := by decide +kernel
theorem dMod_rightEnd_66 : decode bMod_rightEnd 66 = .ok (.iaload, 1) := by decide +kernel
theorem dMod_rightEnd_67 : decode bMod_rightEnd 67 = .ok (.invokevirtual 181, 3) := by decide +kernel
theorem dMod_rightEnd_70 : decode bMod_rightEnd 70 = .ok (.ifCond .le 40, 3) := by decide +kernel
theorem dMod_rightEnd_73 : decode bMod_rightEnd 73 = .ok (.aload_n 0, 1) := by decide +kernel
theorem dMod_rightEnd_74 : decode bMod_rightEnd 74 = .ok (.getfield 80, 3) := by decide +kernel
theorem dMod_rightEnd_77 : decode bMod_rightEnd 77 = .ok (.aload_n 0, 1) := by decide +kernel
theorem dMod_rightEnd_78 : decode bMod_rightEnd 78 = .ok (.getfield 156, 3) := by decide +kernel
theorem dMod_rightEnd_81 : decode bMod_rightEnd 81 = .ok (.iconst 1, 1) := by decide +kernel
theorem dMod_rightEnd_82 : decode bMod_rightEnd 82 = .ok (.isub, 1) := by decide +kernel
theorem dMod_rightEnd_83 : decode bMod_rightEnd 83 = .ok (.iaload, 1) := by decide +kernel
theorem dMod_rightEnd_84 : decode bMod_rightEnd 84 = .ok (.ifCond .ge 7, 3) := by decide +kernel
theorem dMod_rightEnd_87 : decode bMod_rightEnd 87 = .ok (.iconst 1, 1) := by decide +kernel
theorem dMod_rightEnd_88 : decode bMod_rightEnd 88 = .ok (.goto 4, 3) := by decide +kernel
theorem dMod_rightEnd_91 : decode bMod_rightEnd 91 = .ok (.iconst 0, 1) := by decide +kernel
theorem dMod_rightEnd_92 : decode bMod_rightEnd 92 = .ok (.iload_n 2, 1) := by decide +kernel
theorem dMod_rightEnd_93 : decode bMod_rightEnd 93 = .ok (.bipush 110, 2) := by decide +kernel
theorem dMod_rightEnd_95 : decode bMod_rightEnd 95 = .ok (.if_icmp .ne 7, 3) := by decide +kernel
theorem dMod_rightEnd_98 : decode bMod_rightEnd 98 = .ok (.iconst 1, 1) := by decide +kernel
theorem dMod_rightEnd_99 : decode bMod_rightEnd 99 = .ok (.goto 4, 3) := by decide +kernel
theorem dMod_rightEnd_102 : decode bMod_rightEnd 102 = .ok (.iconst 0, 1) := by decide +kernel
theorem dMod_rightEnd_103 : decode bMod_rightEnd 103 = .ok (.if_icmp .ne 7, 3) := by decide +kernel
theorem dMod_rightEnd_106 : decode bMod_rightEnd 106 = .ok (.iconst 1, 1) := by decide +kernel
theorem dMod_rightEnd_107 : decode bMod_rightEnd 107 = .ok (.goto 4, 3) := by decide +kernel
theorem dMod_rightEnd_110 : decode bMod_rightEnd 110 = .ok (.iconst 0, 1) := by decide +kernel
theorem dMod_rightEnd_111 : decode bMod_rightEnd 111 = .ok (.ireturn, 1) := by decide +kernel
theorem dMod_rightEnd_112 : decode bMod_rightEnd 112 = .ok (.iload_n 1, 1) := by decide +kernel
theorem dMod_rightEnd_113 : decode bMod_rightEnd 113 = .ok (.bipush 61, 2) := by decide +kernel
theorem dMod_rightEnd_115 : decode bMod_rightEnd 115 = .ok (.if_icmp .ne 55, 3) := by decide +kernel
theorem dMod_rightEnd_118 : decode bMod_rightEnd 118 = .ok (.aload_n 0, 1) := by decide +kernel
theorem dMod_rightEnd_119 : decode bMod_rightEnd 119 = .ok (.iconst 1, 1) := by decide +kernel
theorem dMod_rightEnd_120 : decode bMod_rightEnd 120 = .ok (.invokevirtual 294, 3) := by decide +kernel
theorem dMod_rightEnd_123 : decode bMod_rightEnd 123 = .ok (.istore_n 3, 1) := by decide +kernel
theorem dMod_rightEnd_124 : decode bMod_rightEnd 124 = .ok (.aload_n 0, 1) := by decide +kernel
theorem dMod_rightEnd_125 : decode bMod_rightEnd 125 = .ok (.getfield 165, 3) := by decide +kernel
theorem dMod_rightEnd_128 : decode bMod_rightEnd 128 = .ok (.ifCond .ne 40, 3) := by decide +kernel
theorem dMod_rightEnd_131 : decode bMod_rightEnd 131 = .ok (.aload_n 0, 1) := by decide +kernel
theorem dMod_rightEnd_132 : decode bMod_rightEnd 132 = .ok (.aload_n 0, 1) := by decide +kernel
theorem dMod_rightEnd_133 : decode bMod_rightEnd 133 = .ok (.getfield 35, 3) := by decide +kernel
theorem dMod_rightEnd_136 : decode bMod_rightEnd 136 = .ok (.aload_n 0, 1) := by decide +kernel
theorem dMod_rightEnd_137 : decode bMod_rightEnd 137 = .ok (.getfield 156, 3) := by decide +kernel
theorem dMod_rightEnd_140 : decode bMod_rightEnd 140 = .ok (.iconst 1, 1) := by decide +kernel
theorem dMod_rightEnd_141 : decode bMod_rightEnd 141 = .ok (.isub, 1) := by decide +kernel
theorem dMod_rightEnd_142 : decode bMod_rightEnd 142 = .ok (.iaload, 1) := by decide +kernel
theorem dMod_rightEnd_143 : decode bMod_rightEnd 143 = .ok (.invokevirtual 181, 3) := by decide +kernel
theorem dMod_rightEnd_146 : decode bMod_rightEnd 146 = .ok (.ifCond .ne 22, 3) := by decide +kernel
theorem dMod_rightEnd_149 : decode bMod_rightEnd 149 = .ok (.aload_n 0, 1) := by decide +kernel
theorem dMod_rightEnd_150 : decode bMod_rightEnd 150 = .ok (.getfield 80, 3) := by decide +kernel
theorem dMod_rightEnd_153 : decode bMod_rightEnd 153 = .ok (.aload_n 0, 1) := by decide +kernel
theorem dMod_rightEnd_154 : decode bMod_rightEnd 154 = .ok (.getfield 156, 3) := by decide +kernel
theorem dMod_rightEnd_157 : decode bMod_rightEnd 157 = .ok (.iconst 1, 1) := by decide +kernel
theorem dMod_rightEnd_158 : decode bMod_rightEnd 158 = .ok (.isub, 1) := by decide +kernel
theorem dMod_rightEnd_159 : decode bMod_rightEnd 159 = .ok (.iaload, 1) := by decide +kernel
theorem dMod_rightEnd_160 : decode bMod_rightEnd 160 = .ok (.iload_n 3, 1) := by decide +kernel
theorem dMod_rightEnd_161 : decode bMod_rightEnd 161 = .ok (.if_icmp .ne 7, 3) := by decide +kernel
theorem dMod_rightEnd_164 : decode bMod_rightEnd 164 = .ok (.iconst 1, 1) := by decide +kernel
theorem dMod_rightEnd_165 : decode bMod_rightEnd 165 = .ok (.goto 4, 3) := by decide +kernel
theorem dMod_rightEnd_168 : decode bMod_rightEnd 168 = .ok (.iconst 0, 1) := by decide +kernel
theorem dMod_rightEnd_169 : decode bMod_rightEnd 169 = .ok (.ireturn, 1) := by decide +kernel
theorem dMod_rightEnd_170 : decode bMod_rightEnd 170 = .ok (.aload_n 0, 1) := by decide +kernel
theorem dMod_rightEnd_171 : decode bMod_rightEnd 171 = .ok (.dup, 1) := by decide +kernel
theorem dMod_rightEnd_172 : decode bMod_rightEnd 172 = .ok (.getfield 281, 3) := by decide +kernel
theorem dMod_rightEnd_175 : decode bMod_rightEnd 175 = .ok (.iconst 1, 1) := by decide +kernel
theorem dMod_rightEnd_176 : decode bMod_rightEnd 176 = .ok (.iadd, 1) := by decide +kernel
theorem dMod_rightEnd_177 : decode bMod_rightEnd 177 = .ok (.putfield 281, 3) := by decide +kernel
theorem dMod_rightEnd_180 : decode bMod_rightEnd 180 = .ok (.iload_n 1, 1) := by decide +kernel
theorem dMod_rightEnd_181 : decode bMod_rightEnd 181 = .ok (.bipush 33, 2) := by decide +kernel
theorem dMod_rightEnd_183 : decode bMod_rightEnd 183 = .ok (.if_icmp .ne 7, 3) := by decide +kernel
theorem dMod_rightEnd_186 : decode bMod_rightEnd 186 = .ok (.iconst 5, 1) := by decide +kernel
theorem dMod_rightEnd_187 : decode bMod_rightEnd 187 = .ok (.goto 14, 3) := by decide +kernel
theorem dMod_rightEnd_190 : decode bMod_rightEnd 190 = .ok (.iload_n 1, 1) := by decide +kernel
theorem dMod_rightEnd_191 : decode bMod_rightEnd 191 = .ok (.bipush 63, 2) := by decide +kernel
theorem dMod_rightEnd_193 : decode bMod_rightEnd 193 = .ok (.if_icmp .ne 7, 3) := by decide +kernel
theorem dMod_rightEnd_196 : decode bMod_rightEnd 196 = .ok (.iconst 4, 1) := by decide +kernel
theorem dMod_rightEnd_197 : decode bMod_rightEnd 197 = .ok (.goto 4, 3) := by decide +kernel
theorem dMod_rightEnd_200 : decode bMod_rightEnd 200 = .ok (.iconst 0, 1) := by decide +kernel
theorem dMod_rightEnd_201 : decode bMod_rightEnd 201 = .ok (.istore_n 3, 1) := by decide +kernel
theorem dMod_rightEnd_202 : decode bMod_rightEnd 202 = .ok (.aload_n 0, 1) := by decide +kernel
theorem dMod_rightEnd_203 : decode bMod_rightEnd 203 = .ok (.aload_n 0, 1) := by decide +kernel
theorem dMod_rightEnd_204 : decode bMod_rightEnd 204 = .ok (.getfield 284, 3) := by decide +kernel
theorem dMod_rightEnd_207 : decode bMod_rightEnd 207 = .ok (.ifCond .ne 17, 3) := by decide +kernel
theorem dMod_rightEnd_210 : decode bMod_rightEnd 210 = .ok (.iload_n 2, 1) := by decide +kernel
theorem dMod_rightEnd_211 : decode bMod_rightEnd 211 = .ok (.bipush 49, 2) := by decide +kernel
theorem dMod_rightEnd_213 : decode bMod_rightEnd 213 = .ok (.if_icmp .lt 11, 3) := by decide +kernel
theorem dMod_rightEnd_216 : decode bMod_rightEnd 216 = .ok (.iload_n 2, 1) := by decide +kernel
theorem dMod_rightEnd_217 : decode bMod_rightEnd 217 = .ok (.bipush 48, 2) := by decide +kernel
theorem dMod_rightEnd_219 : decode bMod_rightEnd 219 = .ok (.iload_n 3, 1) := by decide +kernel
theorem dMod_rightEnd_220 : decode bMod_rightEnd 220 = .ok (.iadd, 1) := by decide +kernel
theorem dMod_rightEnd_221 : decode bMod_rightEnd 221 = .ok (.if_icmp .le 7, 3) := by decide +kernel
theorem dMod_rightEnd_224 : decode bMod_rightEnd 224 = .ok (.iconst 1, 1) := by decide +kernel
theorem dMod_rightEnd_225 : decode bMod_rightEnd 225 = .ok (.goto 4, 3) := by decide +kernel
theorem dMod_rightEnd_228 : decode bMod_rightEnd 228 = .ok (.iconst 0, 1) := by decide +kernel
theorem dMod_rightEnd_229 : decode bMod_rightEnd 229 = .ok (.putfield 284, 3) := by decide +kernel
theorem dMod_rightEnd_232 : decode bMod_rightEnd 232 = .ok (.aload_n 0, 1) := by decide +kernel
theorem dMod_rightEnd_233 : decode bMod_rightEnd 233 = .ok (.getfield 165, 3) := by decide +kernel
theorem dMod_rightEnd_236 : decode bMod_rightEnd 236 = .ok (.iload_n 1, 1) := by decide +kernel
theorem dMod_rightEnd_237 : decode bMod_rightEnd 237 = .ok (.bipush 33, 2) := by decide +kernel
theorem dMod_rightEnd_239 : decode bMod_rightEnd 239 = .ok (.if_icmp .ne 7, 3) := by decide +kernel
theorem dMod_rightEnd_242 : decode bMod_rightEnd 242 = .ok (.iconst 2, 1) := by decide +kernel
theorem dMod_rightEnd_243 : decode bMod_rightEnd 243 = .ok (.goto 4, 3) := by decide +kernel
theorem dMod_rightEnd_246 : decode bMod_rightEnd 246 = .ok (.iconst 3, 1) := by decide +kernel
theorem dMod_rightEnd_247 : decode bMod_rightEnd 247 = .ok (.if_icmp .ne 18, 3) := by decide +kernel
theorem dMod_rightEnd_250 : decode bMod_rightEnd 250 = .ok (.aload_n 0, 1) := by decide +kernel
theorem dMod_rightEnd_251 : decode bMod_rightEnd 251 = .ok (.getfield 168, 3) := by decide +kernel
theorem dMod_rightEnd_254 : decode bMod_rightEnd 254 = .ok (.iload_n 2, 1) := by decide +kernel
theorem dMod_rightEnd_255 : decode bMod_rightEnd 255 = .ok (.bipush 48, 2) := by decide +kernel
theorem dMod_rightEnd_257 : decode bMod_rightEnd 257 = .ok (.isub, 1) := by decide +kernel
theorem dMod_rightEnd_258 : decode bMod_rightEnd 258 = .ok (.if_icmp .ne 7, 3) := by decide +kernel
theorem dMod_rightEnd_261 : decode bMod_rightEnd 261 = .ok (.iconst 1, 1) := by decide +kernel
theorem dMod_rightEnd_262 : decode bMod_rightEnd 262 = .ok (.goto 4, 3) := by decide +kernel
theorem dMod_rightEnd_265 : decode bMod_rightEnd 265 = .ok (.iconst 0, 1) := by decide +kernel
theorem dMod_rightEnd_266 : decode bMod_rightEnd 266 = .ok (.ireturn, 1) := by decide +kernel
def wbMod_rightEnd_247 (post : Int32 → zM → Prop) (v2 : Int32) (k0 : Int32) (k1 : Int32) (h : zM) : Prop := ((¬ k0 = k1 → post 0 h) ∧ (k0 = k1 → ((¬ (h 0 32) = (v2 - 48) → post 0 h) ∧ ((h 0 32) = (v2 - 48) → post 1 h))))
def wbMod_rightEnd_229 (post : Int32 → zM → Prop) (v1 : Int32) (v2 : Int32) (k1 : Int32) (h : zM) : Prop := ((k1 = 0 ∨ k1 = 1) ∧ ∀ h229 : zM, h229 = zu h 0 42 k1 → ((¬ v1 = 33 → wbMod_rightEnd_247 post v2 (h229 0 31) 3 h229) ∧ (v1 = 33 → wbMod_rightEnd_247 post v2 (h229 0 31) 2 h229)))
def wbMod_rightEnd_224 (post : Int32 → zM → Prop) (v1 : Int32) (v2 : Int32) (h : zM) : Prop := wbMod_rightEnd_229 post v1 v2 1 h
def wbMod_rightEnd_201 (post : Int32 → zM → Prop) (v1 : Int32) (v2 : Int32) (k0 : Int32) (h : zM) : Prop := ((¬ (h 0 42) = 0 → wbMod_rightEnd_224 post v1 v2 h) ∧ ((h 0 42) = 0 → (((v2 < 49) → wbMod_rightEnd_224 post v1 v2 h) ∧ (¬ (v2 < 49) → (((v2 ≤ (48 + k0)) → wbMod_rightEnd_229 post v1 v2 0 h) ∧ (¬ (v2 ≤ (48 + k0)) → wbMod_rightEnd_224 post v1 v2 h))))))
def wbMod_rightEnd_112 (post : Int32 → zM → Prop) (v1 : Int32) (v2 : Int32) (h : zM) : Prop := ((¬ v1 = 61 → ∀ h177 : zM, h177 = zu h 0 41 ((h 0 41) + 1) → ((¬ v1 = 33 → ((¬ v1 = 63 → wbMod_rightEnd_201 post v1 v2 0 h177) ∧ (v1 = 63 → wbMod_rightEnd_201 post v1 v2 4 h177))) ∧ (v1 = 33 → wbMod_rightEnd_201 post v1 v2 5 h177))) ∧ (v1 = 61 → wpMod_number 1 h (fun r120 h120 => ((¬ (h120 0 31) = 0 → post 0 h120) ∧ ((h120 0 31) = 0 → (vp_in ((h120 0 11) - 1) 20 ∧ wpMod_gives (h120 8 (Int32.toNatClampNeg ((h120 0 11) - 1))) h120 (fun r143 h143 => ((¬ r143 = 0 → post 0 h143) ∧ (r143 = 0 → (vp_in ((h143 0 11) - 1) 10 ∧ ((¬ (h143 23 (Int32.toNatClampNeg ((h143 0 11) - 1))) = r120 → post 0 h143) ∧ ((h143 23 (Int32.toNatClampNeg ((h143 0 11) - 1))) = r120 → post 1 h143))))))))))))
def wbMod_rightEnd_103 (post : Int32 → zM → Prop) (k0 : Int32) (k1 : Int32) (h : zM) : Prop := ((¬ k0 = k1 → post 0 h) ∧ (k0 = k1 → post 1 h))
def wbMod_rightEnd_92 (post : Int32 → zM → Prop) (v2 : Int32) (k0 : Int32) (h : zM) : Prop := ((¬ v2 = 110 → wbMod_rightEnd_103 post k0 0 h) ∧ (v2 = 110 → wbMod_rightEnd_103 post k0 1 h))
def wbMod_rightEnd_38 (post : Int32 → zM → Prop) (v2 : Int32) (h : zM) : Prop := ∀ h45 : zM, h45 = zu h 0 41 ((h 0 41) + 1) → ((¬ (h45 0 31) = 0 → post 0 h45) ∧ ((h45 0 31) = 0 → (vp_in ((h45 0 11) - 1) 20 ∧ wpMod_gives (h45 8 (Int32.toNatClampNeg ((h45 0 11) - 1))) h45 (fun r67 h67 => (((r67 ≤ 0) → post 0 h67) ∧ (¬ (r67 ≤ 0) → (vp_in ((h67 0 11) - 1) 10 ∧ (((0 ≤ (h67 23 (Int32.toNatClampNeg ((h67 0 11) - 1)))) → wbMod_rightEnd_92 post v2 0 h67) ∧ (¬ (0 ≤ (h67 23 (Int32.toNatClampNeg ((h67 0 11) - 1)))) → wbMod_rightEnd_92 post v2 1 h67)))))))))
def wpMod_rightEnd (h : zM) (post : Int32 → zM → Prop) : Prop := wpMod_peek h (fun r1 h1 => ∀ h12 : zM, h12 = zu h1 0 41 ((h1 0 41) + 1) → wpMod_peek h12 (fun r16 h16 => ((¬ r1 = 61 → wbMod_rightEnd_112 post r1 r16 h16) ∧ (r1 = 61 → ((r16 = 110 → wbMod_rightEnd_38 post r16 h16) ∧ (¬ r16 = 110 → ((¬ r16 = 111 → wbMod_rightEnd_112 post r1 r16 h16) ∧ (r16 = 111 → wbMod_rightEnd_38 post r16 h16))))))))
abbrev rmMod_rightEnd : Room := { frames := 2, cells := 0, slots := 0, locals := 48 }
set_option maxHeartbeats 4000000 in
set_option maxRecDepth 100000 in
theorem cMod_rightEnd (l : Launch) (D : va_G) (cI cC cE : ClassId) (ad : Nat → Nat) (A : Nat → Prop) (hJ : zJ A 28 ad) (h : zM) (post : Int32 → zM → Prop) (hw : wpMod_rightEnd h post) : Met l yMod_rightEnd (.code yMod_rightEnd bMod_rightEnd 4 (some .boolean) :: zt) rmMod_rightEnd (va_Pc [.ref (ad 0)] (zPre D (zty cI cC cE) 28 ad (mF ad cI) A h)) (va_Qi post (zPst D (zty cI cC cE) 28 ad (mF ad cI)) A) 0 0 A := by
  refine Met.ofW (cc := bMod_rightEnd) (maxL := 4) (ret := (some .boolean)) (by decide) rfl ?_
  intro p e s m args below meth c s₁ B hml hv
  obtain ⟨rfl, hP, hK, hT, hN⟩ := hv
  have hr := B.returns
  have hlk := B.notSynchronized
  have S : zS p m c bMod_rightEnd 4 s _ "CallExplorerModel" := ⟨B.exec, B.bytes, hml, findClass_of_methodNamed B.named, fun w hw => atoms_spec (ws := .code yMod_rightEnd bMod_rightEnd 4 (some .boolean) :: zt) B.pre w (List.mem_cons_of_mem _ hw)⟩
  have hS : va_S A s.heap s.heap [] := va_S.rf
  have hl := lv_entry ([.ref (ad 0)]) (n := 4) (Nat.le_of_ble_eq_true rfl)
  rw [lg_entry_eq]
  generalize (lg_sl ([.ref (ad 0)]) ++ List.replicate (4 - (lg_sl ([.ref (ad 0)])).length) Slot.unset).toArray = ls at hl ⊢
  have hl : lv_has ls 4 [(0, .ref (ad 0))] := hl
  show W p l e rmMod_rightEnd s m ([.ref (ad 0)] : List Value).toArray below meth c s.heap [] 0 0 (zQi post D (zty cI cC cE) 28 ad (mF ad cI) A below ([.ref (ad 0)] : List Value).toArray s) _
  have J247 : ∀ (v2 : Int32) (k0 : Int32) (k1 : Int32) (h : zM) (H : Heap) (locs : List Loc) (ls : Array Slot), wbMod_rightEnd_247 post v2 k0 k1 h → lv_has ls 4 [(0, .ref (ad 0)), (2, .int v2)] → va_P D zcl (zW 28 ad (mF ad cI) h) H → va_S A s.heap H locs → W p l e rmMod_rightEnd s m ([.ref (ad 0)] : List Value).toArray below meth c H locs 0 0 (zQi post D (zty cI cC cE) 28 ad (mF ad cI) A below ([.ref (ad 0)] : List Value).toArray s) (F0 m 247 ls [.int k1, .int k0]) := by
    intro v2 k0 k1 h H locs ls hw hl hP hS
    unfold wbMod_rightEnd_247 at hw
    refine lv_icmp_ne S.1 S.2.1 dMod_rightEnd_247 rfl (fun hc => ?_) (fun hc => ?_)
    · have hw := hw.1 hc
      refine lv_iconst (v := 0) S.1 S.2.1 dMod_rightEnd_265 (by decide) ?_
      exact zr_iret S hr hlk hK hP hS rfl hw dMod_rightEnd_266
    · have hw := hw.2 hc
      refine lv_aload_n S.1 S.2.1 dMod_rightEnd_250 rfl (lv_at hl 0 rfl) ?_
      refine zr_get S hK hP (by decide) (mF_0 _) fMod_cameBy q860 rfl dMod_rightEnd_251 ?_
      refine lv_iload_n S.1 S.2.1 dMod_rightEnd_254 rfl (lv_at hl 1 rfl) ?_
      refine lv_bipush (v := 48) S.1 S.2.1 dMod_rightEnd_255 (by decide) ?_
      refine lv_isub S.1 S.2.1 dMod_rightEnd_257 ?_
      refine lv_icmp_ne S.1 S.2.1 dMod_rightEnd_258 rfl (fun hc => ?_) (fun hc => ?_)
      · have hw := hw.1 hc
        refine lv_iconst (v := 0) S.1 S.2.1 dMod_rightEnd_265 (by decide) ?_
        exact zr_iret S hr hlk hK hP hS rfl hw dMod_rightEnd_266
      · have hw := hw.2 hc
        refine lv_iconst (v := 1) S.1 S.2.1 dMod_rightEnd_261 (by decide) ?_
        refine lv_goto S.1 S.2.1 dMod_rightEnd_262 rfl ?_
        exact zr_iret S hr hlk hK hP hS rfl hw dMod_rightEnd_266
  have J229 : ∀ (v1 : Int32) (v2 : Int32) (k1 : Int32) (h : zM) (H : Heap) (locs : List Loc) (ls : Array Slot), wbMod_rightEnd_229 post v1 v2 k1 h → lv_has ls 4 [(0, .ref (ad 0)), (1, .int v1), (2, .int v2)] → va_P D zcl (zW 28 ad (mF ad cI) h) H → va_S A s.heap H locs → W p l e rmMod_rightEnd s m ([.ref (ad 0)] : List Value).toArray below meth c H locs 0 0 (zQi post D (zty cI cC cE) 28 ad (mF ad cI) A below ([.ref (ad 0)] : List Value).toArray s) (F0 m 229 ls [.int k1, .ref (ad 0)]) := by
    intro v1 v2 k1 h H locs ls hw hl hP hS
    unfold wbMod_rightEnd_229 at hw
    obtain ⟨z229, hw⟩ := hw
    refine zr_put S hK hJ hP hS (by decide) (mF_0 _) fMod_bad q870 (zbn z229) (zbf z229) (Nat.le_of_ble_eq_true rfl) (mF_0 _) dMod_rightEnd_229 (fun h229 H locs e229 hP hS => ?_)
    have hw := hw h229 e229
    refine lv_aload_n S.1 S.2.1 dMod_rightEnd_232 rfl (lv_at hl 0 rfl) ?_
    refine zr_get S hK hP (by decide) (mF_0 _) fMod_came q859 rfl dMod_rightEnd_233 ?_
    refine lv_iload_n S.1 S.2.1 dMod_rightEnd_236 rfl (lv_at hl 1 rfl) ?_
    refine lv_bipush (v := 33) S.1 S.2.1 dMod_rightEnd_237 (by decide) ?_
    refine lv_icmp_ne S.1 S.2.1 dMod_rightEnd_239 rfl (fun hc => ?_) (fun hc => ?_)
    · have hw := hw.1 hc
      refine lv_iconst (v := 3) S.1 S.2.1 dMod_rightEnd_246 (by decide) ?_
      exact J247 _ _ _ _ _ _ _ hw (lv_sub hl [0, 2] rfl) hP hS
    · have hw := hw.2 hc
      refine lv_iconst (v := 2) S.1 S.2.1 dMod_rightEnd_242 (by decide) ?_
      refine lv_goto S.1 S.2.1 dMod_rightEnd_243 rfl ?_
      exact J247 _ _ _ _ _ _ _ hw (lv_sub hl [0, 2] rfl) hP hS
  have J224 : ∀ (v1 : Int32) (v2 : Int32) (h : zM) (H : Heap) (locs : List Loc) (ls : Array Slot), wbMod_rightEnd_224 post v1 v2 h → lv_has ls 4 [(0, .ref (ad 0)), (1, .int v1), (2, .int v2)] → va_P D zcl (zW 28 ad (mF ad cI) h) H → va_S A s.heap H locs → W p l e rmMod_rightEnd s m ([.ref (ad 0)] : List Value).toArray below meth c H locs 0 0 (zQi post D (zty cI cC cE) 28 ad (mF ad cI) A below ([.ref (ad 0)] : List Value).toArray s) (F0 m 224 ls [.ref (ad 0)]) := by
    intro v1 v2 h H locs ls hw hl hP hS
    unfold wbMod_rightEnd_224 at hw
    refine lv_iconst (v := 1) S.1 S.2.1 dMod_rightEnd_224 (by decide) ?_
    refine lv_goto S.1 S.2.1 dMod_rightEnd_225 rfl ?_
    exact J229 _ _ _ _ _ _ _ hw (lv_sub hl [0, 1, 2] rfl) hP hS
  have J201 : ∀ (v1 : Int32) (v2 : Int32) (k0 : Int32) (h : zM) (H : Heap) (locs : List Loc) (ls : Array Slot), wbMod_rightEnd_201 post v1 v2 k0 h → lv_has ls 4 [(0, .ref (ad 0)), (1, .int v1), (2, .int v2)] → va_P D zcl (zW 28 ad (mF ad cI) h) H → va_S A s.heap H locs → W p l e rmMod_rightEnd s m ([.ref (ad 0)] : List Value).toArray below meth c H locs 0 0 (zQi post D (zty cI cC cE) 28 ad (mF ad cI) A below ([.ref (ad 0)] : List Value).toArray s) (F0 m 201 ls [.int k0]) := by
    intro v1 v2 k0 h H locs ls hw hl hP hS
    unfold wbMod_rightEnd_201 at hw
    refine lv_istore_n (lv' := [(3, .int k0), (0, .ref (ad 0)), (1, .int v1), (2, .int v2)]) S.1 S.2.1 dMod_rightEnd_201 rfl hl (by decide) rfl (fun ls hl => ?_)
    refine lv_aload_n S.1 S.2.1 dMod_rightEnd_202 rfl (lv_at hl 1 rfl) ?_
    refine lv_aload_n S.1 S.2.1 dMod_rightEnd_203 rfl (lv_at hl 1 rfl) ?_
    refine zr_get S hK hP (by decide) (mF_0 _) fMod_bad q870 rfl dMod_rightEnd_204 ?_
    refine lv_if_ne S.1 S.2.1 dMod_rightEnd_207 rfl (fun hc => ?_) (fun hc => ?_)
    · have hw := hw.1 hc
      exact J224 _ _ _ _ _ _ hw (lv_sub hl [1, 2, 3] rfl) hP hS
    · have hw := hw.2 hc
      refine lv_iload_n S.1 S.2.1 dMod_rightEnd_210 rfl (lv_at hl 3 rfl) ?_
      refine lv_bipush (v := 49) S.1 S.2.1 dMod_rightEnd_211 (by decide) ?_
      refine lv_icmp_lt S.1 S.2.1 dMod_rightEnd_213 rfl (fun hc => ?_) (fun hc => ?_)
      · have hw := hw.1 hc
        exact J224 _ _ _ _ _ _ hw (lv_sub hl [1, 2, 3] rfl) hP hS
      · have hw := hw.2 hc
        refine lv_iload_n S.1 S.2.1 dMod_rightEnd_216 rfl (lv_at hl 3 rfl) ?_
        refine lv_bipush (v := 48) S.1 S.2.1 dMod_rightEnd_217 (by decide) ?_
        refine lv_iload_n S.1 S.2.1 dMod_rightEnd_219 rfl (lv_at hl 0 rfl) ?_
        refine lv_iadd S.1 S.2.1 dMod_rightEnd_220 ?_
        refine lv_icmp_le S.1 S.2.1 dMod_rightEnd_221 rfl (fun hc => ?_) (fun hc => ?_)
        · have hw := hw.1 hc
          refine lv_iconst (v := 0) S.1 S.2.1 dMod_rightEnd_228 (by decide) ?_
          exact J229 _ _ _ _ _ _ _ hw (lv_sub hl [1, 2, 3] rfl) hP hS
        · have hw := hw.2 hc
          exact J224 _ _ _ _ _ _ hw (lv_sub hl [1, 2, 3] rfl) hP hS
  have J112 : ∀ (v1 : Int32) (v2 : Int32) (h : zM) (H : Heap) (locs : List Loc) (ls : Array Slot), wbMod_rightEnd_112 post v1 v2 h → lv_has ls 4 [(0, .ref (ad 0)), (1, .int v1), (2, .int v2)] → va_P D zcl (zW 28 ad (mF ad cI) h) H → va_S A s.heap H locs → W p l e rmMod_rightEnd s m ([.ref (ad 0)] : List Value).toArray below meth c H locs 0 0 (zQi post D (zty cI cC cE) 28 ad (mF ad cI) A below ([.ref (ad 0)] : List Value).toArray s) (F0 m 112 ls []) := by
    intro v1 v2 h H locs ls hw hl hP hS
    unfold wbMod_rightEnd_112 at hw
    refine lv_iload_n S.1 S.2.1 dMod_rightEnd_112 rfl (lv_at hl 1 rfl) ?_
    refine lv_bipush (v := 61) S.1 S.2.1 dMod_rightEnd_113 (by decide) ?_
    refine lv_icmp_ne S.1 S.2.1 dMod_rightEnd_115 rfl (fun hc => ?_) (fun hc => ?_)
    · have hw := hw.1 hc
      refine lv_aload_n S.1 S.2.1 dMod_rightEnd_170 rfl (lv_at hl 0 rfl) ?_
      refine lv_dup S.1 S.2.1 dMod_rightEnd_171 rfl ?_
      refine zr_get S hK hP (by decide) (mF_0 _) fMod_at q869 rfl dMod_rightEnd_172 ?_
      refine lv_iconst (v := 1) S.1 S.2.1 dMod_rightEnd_175 (by decide) ?_
      refine lv_iadd S.1 S.2.1 dMod_rightEnd_176 ?_
      refine zr_put S hK hJ hP hS (by decide) (mF_0 _) fMod_at q869 rfl rfl (Nat.le_of_ble_eq_true rfl) (mF_0 _) dMod_rightEnd_177 (fun h177 H locs e177 hP hS => ?_)
      have hw := hw h177 e177
      refine lv_iload_n S.1 S.2.1 dMod_rightEnd_180 rfl (lv_at hl 1 rfl) ?_
      refine lv_bipush (v := 33) S.1 S.2.1 dMod_rightEnd_181 (by decide) ?_
      refine lv_icmp_ne S.1 S.2.1 dMod_rightEnd_183 rfl (fun hc => ?_) (fun hc => ?_)
      · have hw := hw.1 hc
        refine lv_iload_n S.1 S.2.1 dMod_rightEnd_190 rfl (lv_at hl 1 rfl) ?_
        refine lv_bipush (v := 63) S.1 S.2.1 dMod_rightEnd_191 (by decide) ?_
        refine lv_icmp_ne S.1 S.2.1 dMod_rightEnd_193 rfl (fun hc => ?_) (fun hc => ?_)
        · have hw := hw.1 hc
          refine lv_iconst (v := 0) S.1 S.2.1 dMod_rightEnd_200 (by decide) ?_
          exact J201 _ _ _ _ _ _ _ hw (lv_sub hl [0, 1, 2] rfl) hP hS
        · have hw := hw.2 hc
          refine lv_iconst (v := 4) S.1 S.2.1 dMod_rightEnd_196 (by decide) ?_
          refine lv_goto S.1 S.2.1 dMod_rightEnd_197 rfl ?_
          exact J201 _ _ _ _ _ _ _ hw (lv_sub hl [0, 1, 2] rfl) hP hS
      · have hw := hw.2 hc
        refine lv_iconst (v := 5) S.1 S.2.1 dMod_rightEnd_186 (by decide) ?_
        refine lv_goto S.1 S.2.1 dMod_rightEnd_187 rfl ?_
        exact J201 _ _ _ _ _ _ _ hw (lv_sub hl [0, 1, 2] rfl) hP hS
    · have hw := hw.2 hc
      refine lv_aload_n S.1 S.2.1 dMod_rightEnd_118 rfl (lv_at hl 0 rfl) ?_
      refine lv_iconst (v := 1) S.1 S.2.1 dMod_rightEnd_119 (by decide) ?_
      refine zr_i (zr_V (As := [.int 1]) (rest := []) S hK hT hN hP hS (by decide) (mF_0 _) rfl (cMod_number l D cI cC cE ad A hJ _ _ _ hw) caMod_294 ⟨Nat.le_of_ble_eq_true rfl, Nat.le_of_ble_eq_true rfl⟩ ⟨rfl, rfl⟩ rfl hl.1 rfl (Nat.le_of_ble_eq_true rfl) dMod_rightEnd_120) hS (fun r120 h120 H locs hw hP hS => ?_)
      refine lv_istore_n (lv' := [(3, .int r120), (0, .ref (ad 0)), (1, .int v1), (2, .int v2)]) S.1 S.2.1 dMod_rightEnd_123 rfl hl (by decide) rfl (fun ls hl => ?_)
      refine lv_aload_n S.1 S.2.1 dMod_rightEnd_124 rfl (lv_at hl 1 rfl) ?_
      refine zr_get S hK hP (by decide) (mF_0 _) fMod_came q859 rfl dMod_rightEnd_125 ?_
      refine lv_if_ne S.1 S.2.1 dMod_rightEnd_128 rfl (fun hc => ?_) (fun hc => ?_)
      · have hw := hw.1 hc
        refine lv_iconst (v := 0) S.1 S.2.1 dMod_rightEnd_168 (by decide) ?_
        exact zr_iret S hr hlk hK hP hS rfl hw dMod_rightEnd_169
      · have hw := hw.2 hc
        refine lv_aload_n S.1 S.2.1 dMod_rightEnd_131 rfl (lv_at hl 1 rfl) ?_
        refine lv_aload_n S.1 S.2.1 dMod_rightEnd_132 rfl (lv_at hl 1 rfl) ?_
        refine zr_get S hK hP (by decide) (mF_0 _) fMod_op q840 rfl dMod_rightEnd_133 ?_
        refine lv_aload_n S.1 S.2.1 dMod_rightEnd_136 rfl (lv_at hl 1 rfl) ?_
        refine zr_get S hK hP (by decide) (mF_0 _) fMod_size q839 rfl dMod_rightEnd_137 ?_
        refine lv_iconst (v := 1) S.1 S.2.1 dMod_rightEnd_140 (by decide) ?_
        refine lv_isub S.1 S.2.1 dMod_rightEnd_141 ?_
        obtain ⟨z142, hw⟩ := hw
        refine zr_ald S hK hP (by decide) (mF_8 _) 0 rfl z142 dMod_rightEnd_142 ?_
        refine zr_i (zr_V (As := [.int (h120 8 (Int32.toNatClampNeg ((h120 0 11) - 1)))]) (rest := []) S hK hT hN hP hS (by decide) (mF_0 _) rfl (cMod_gives l D cI cC cE ad A hJ _ _ _ hw) caMod_181 ⟨Nat.le_of_ble_eq_true rfl, Nat.le_of_ble_eq_true rfl⟩ ⟨rfl, rfl⟩ rfl hl.1 rfl (Nat.le_of_ble_eq_true rfl) dMod_rightEnd_143) hS (fun r143 h143 H locs hw hP hS => ?_)
        refine lv_if_ne S.1 S.2.1 dMod_rightEnd_146 rfl (fun hc => ?_) (fun hc => ?_)
        · have hw := hw.1 hc
          refine lv_iconst (v := 0) S.1 S.2.1 dMod_rightEnd_168 (by decide) ?_
          exact zr_iret S hr hlk hK hP hS rfl hw dMod_rightEnd_169
        · have hw := hw.2 hc
          refine lv_aload_n S.1 S.2.1 dMod_rightEnd_149 rfl (lv_at hl 1 rfl) ?_
          refine zr_get S hK hP (by decide) (mF_0 _) fMod_result q857 rfl dMod_rightEnd_150 ?_
          refine lv_aload_n S.1 S.2.1 dMod_rightEnd_153 rfl (lv_at hl 1 rfl) ?_
          refine zr_get S hK hP (by decide) (mF_0 _) fMod_size q839 rfl dMod_rightEnd_154 ?_
          refine lv_iconst (v := 1) S.1 S.2.1 dMod_rightEnd_157 (by decide) ?_
          refine lv_isub S.1 S.2.1 dMod_rightEnd_158 ?_
          obtain ⟨z159, hw⟩ := hw
          refine zr_ald S hK hP (by decide) (mF_23 _) 0 rfl z159 dMod_rightEnd_159 ?_
          refine lv_iload_n S.1 S.2.1 dMod_rightEnd_160 rfl (lv_at hl 0 rfl) ?_
          refine lv_icmp_ne S.1 S.2.1 dMod_rightEnd_161 rfl (fun hc => ?_) (fun hc => ?_)
          · have hw := hw.1 hc
            refine lv_iconst (v := 0) S.1 S.2.1 dMod_rightEnd_168 (by decide) ?_
            exact zr_iret S hr hlk hK hP hS rfl hw dMod_rightEnd_169
          · have hw := hw.2 hc
            refine lv_iconst (v := 1) S.1 S.2.1 dMod_rightEnd_164 (by decide) ?_
            refine lv_goto S.1 S.2.1 dMod_rightEnd_165 rfl ?_
            exact zr_iret S hr hlk hK hP hS rfl hw dMod_rightEnd_169
  have J103 : ∀ (k0 : Int32) (k1 : Int32) (h : zM) (H : Heap) (locs : List Loc) (ls : Array Slot), wbMod_rightEnd_103 post k0 k1 h → lv_has ls 4 [] → va_P D zcl (zW 28 ad (mF ad cI) h) H → va_S A s.heap H locs → W p l e rmMod_rightEnd s m ([.ref (ad 0)] : List Value).toArray below meth c H locs 0 0 (zQi post D (zty cI cC cE) 28 ad (mF ad cI) A below ([.ref (ad 0)] : List Value).toArray s) (F0 m 103 ls [.int k1, .int k0]) := by
    intro k0 k1 h H locs ls hw hl hP hS
    unfold wbMod_rightEnd_103 at hw
    refine lv_icmp_ne S.1 S.2.1 dMod_rightEnd_103 rfl (fun hc => ?_) (fun hc => ?_)
    · have hw := hw.1 hc
      refine lv_iconst (v := 0) S.1 S.2.1 dMod_rightEnd_110 (by decide) ?_
      exact zr_iret S hr hlk hK hP hS rfl hw dMod_rightEnd_111
    · have hw := hw.2 hc
      refine lv_iconst (v := 1) S.1 S.2.1 dMod_rightEnd_106 (by decide) ?_
      refine lv_goto S.1 S.2.1 dMod_rightEnd_107 rfl ?_
      exact zr_iret S hr hlk hK hP hS rfl hw dMod_rightEnd_111
  have J92 : ∀ (v2 : Int32) (k0 : Int32) (h : zM) (H : Heap) (locs : List Loc) (ls : Array Slot), wbMod_rightEnd_92 post v2 k0 h → lv_has ls 4 [(2, .int v2)] → va_P D zcl (zW 28 ad (mF ad cI) h) H → va_S A s.heap H locs → W p l e rmMod_rightEnd s m ([.ref (ad 0)] : List Value).toArray below meth c H locs 0 0 (zQi post D (zty cI cC cE) 28 ad (mF ad cI) A below ([.ref (ad 0)] : List Value).toArray s) (F0 m 92 ls [.int k0]) := by
    intro v2 k0 h H locs ls hw hl hP hS
    unfold wbMod_rightEnd_92 at hw
    refine lv_iload_n S.1 S.2.1 dMod_rightEnd_92 rfl (lv_at hl 0 rfl) ?_
    refine lv_bipush (v := 110) S.1 S.2.1 dMod_rightEnd_93 (by decide) ?_
    refine lv_icmp_ne S.1 S.2.1 dMod_rightEnd_95 rfl (fun hc => ?_) (fun hc => ?_)
    · have hw := hw.1 hc
      refine lv_iconst (v := 0) S.1 S.2.1 dMod_rightEnd_102 (by decide) ?_
      exact J103 _ _ _ _ _ _ hw (lv_sub hl [] rfl) hP hS
    · have hw := hw.2 hc
      refine lv_iconst (v := 1) S.1 S.2.1 dMod_rightEnd_98 (by decide) ?_
      refine lv_goto S.1 S.2.1 dMod_rightEnd_99 rfl ?_
      exact J103 _ _ _ _ _ _ hw (lv_sub hl [] rfl) hP hS
  have J38 : ∀ (v2 : Int32) (h : zM) (H : Heap) (locs : List Loc) (ls : Array Slot), wbMod_rightEnd_38 post v2 h → lv_has ls 4 [(0, .ref (ad 0)), (2, .int v2)] → va_P D zcl (zW 28 ad (mF ad cI) h) H → va_S A s.heap H locs → W p l e rmMod_rightEnd s m ([.ref (ad 0)] : List Value).toArray below meth c H locs 0 0 (zQi post D (zty cI cC cE) 28 ad (mF ad cI) A below ([.ref (ad 0)] : List Value).toArray s) (F0 m 38 ls []) := by
    intro v2 h H locs ls hw hl hP hS
    unfold wbMod_rightEnd_38 at hw
    refine lv_aload_n S.1 S.2.1 dMod_rightEnd_38 rfl (lv_at hl 0 rfl) ?_
    refine lv_dup S.1 S.2.1 dMod_rightEnd_39 rfl ?_
    refine zr_get S hK hP (by decide) (mF_0 _) fMod_at q869 rfl dMod_rightEnd_40 ?_
    refine lv_iconst (v := 1) S.1 S.2.1 dMod_rightEnd_43 (by decide) ?_
    refine lv_iadd S.1 S.2.1 dMod_rightEnd_44 ?_
    refine zr_put S hK hJ hP hS (by decide) (mF_0 _) fMod_at q869 rfl rfl (Nat.le_of_ble_eq_true rfl) (mF_0 _) dMod_rightEnd_45 (fun h45 H locs e45 hP hS => ?_)
    have hw := hw h45 e45
    refine lv_aload_n S.1 S.2.1 dMod_rightEnd_48 rfl (lv_at hl 0 rfl) ?_
    refine zr_get S hK hP (by decide) (mF_0 _) fMod_came q859 rfl dMod_rightEnd_49 ?_
    refine lv_if_ne S.1 S.2.1 dMod_rightEnd_52 rfl (fun hc => ?_) (fun hc => ?_)
    · have hw := hw.1 hc
      refine lv_iconst (v := 0) S.1 S.2.1 dMod_rightEnd_110 (by decide) ?_
      exact zr_iret S hr hlk hK hP hS rfl hw dMod_rightEnd_111
    · have hw := hw.2 hc
      refine lv_aload_n S.1 S.2.1 dMod_rightEnd_55 rfl (lv_at hl 0 rfl) ?_
      refine lv_aload_n S.1 S.2.1 dMod_rightEnd_56 rfl (lv_at hl 0 rfl) ?_
      refine zr_get S hK hP (by decide) (mF_0 _) fMod_op q840 rfl dMod_rightEnd_57 ?_
      refine lv_aload_n S.1 S.2.1 dMod_rightEnd_60 rfl (lv_at hl 0 rfl) ?_
      refine zr_get S hK hP (by decide) (mF_0 _) fMod_size q839 rfl dMod_rightEnd_61 ?_
      refine lv_iconst (v := 1) S.1 S.2.1 dMod_rightEnd_64 (by decide) ?_
      refine lv_isub S.1 S.2.1 dMod_rightEnd_65 ?_
      obtain ⟨z66, hw⟩ := hw
      refine zr_ald S hK hP (by decide) (mF_8 _) 0 rfl z66 dMod_rightEnd_66 ?_
      refine zr_i (zr_V (As := [.int (h45 8 (Int32.toNatClampNeg ((h45 0 11) - 1)))]) (rest := []) S hK hT hN hP hS (by decide) (mF_0 _) rfl (cMod_gives l D cI cC cE ad A hJ _ _ _ hw) caMod_181 ⟨Nat.le_of_ble_eq_true rfl, Nat.le_of_ble_eq_true rfl⟩ ⟨rfl, rfl⟩ rfl hl.1 rfl (Nat.le_of_ble_eq_true rfl) dMod_rightEnd_67) hS (fun r67 h67 H locs hw hP hS => ?_)
      refine lv_if_le S.1 S.2.1 dMod_rightEnd_70 rfl (fun hc => ?_) (fun hc => ?_)
      · have hw := hw.1 hc
        refine lv_iconst (v := 0) S.1 S.2.1 dMod_rightEnd_110 (by decide) ?_
        exact zr_iret S hr hlk hK hP hS rfl hw dMod_rightEnd_111
      · have hw := hw.2 hc
        refine lv_aload_n S.1 S.2.1 dMod_rightEnd_73 rfl (lv_at hl 0 rfl) ?_
        refine zr_get S hK hP (by decide) (mF_0 _) fMod_result q857 rfl dMod_rightEnd_74 ?_
        refine lv_aload_n S.1 S.2.1 dMod_rightEnd_77 rfl (lv_at hl 0 rfl) ?_
        refine zr_get S hK hP (by decide) (mF_0 _) fMod_size q839 rfl dMod_rightEnd_78 ?_
        refine lv_iconst (v := 1) S.1 S.2.1 dMod_rightEnd_81 (by decide) ?_
        refine lv_isub S.1 S.2.1 dMod_rightEnd_82 ?_
        obtain ⟨z83, hw⟩ := hw
        refine zr_ald S hK hP (by decide) (mF_23 _) 0 rfl z83 dMod_rightEnd_83 ?_
        refine lv_if_ge S.1 S.2.1 dMod_rightEnd_84 rfl (fun hc => ?_) (fun hc => ?_)
        · have hw := hw.1 hc
          refine lv_iconst (v := 0) S.1 S.2.1 dMod_rightEnd_91 (by decide) ?_
          exact J92 _ _ _ _ _ _ hw (lv_sub hl [1] rfl) hP hS
        · have hw := hw.2 hc
          refine lv_iconst (v := 1) S.1 S.2.1 dMod_rightEnd_87 (by decide) ?_
          refine lv_goto S.1 S.2.1 dMod_rightEnd_88 rfl ?_
          exact J92 _ _ _ _ _ _ hw (lv_sub hl [1] rfl) hP hS
  unfold wpMod_rightEnd at hw
  refine lv_aload_n S.1 S.2.1 dMod_rightEnd_0 rfl (lv_at hl 0 rfl) ?_
  refine zr_i (zr_V (As := []) (rest := []) S hK hT hN hP hS (by decide) (mF_0 _) rfl (cMod_peek l D cI cC cE ad A hJ _ _ hw) caMod_288 ⟨Nat.le_of_ble_eq_true rfl, Nat.le_of_ble_eq_true rfl⟩ ⟨rfl, rfl⟩ rfl hl.1 rfl (Nat.le_of_ble_eq_true rfl) dMod_rightEnd_1) hS (fun r1 h1 H locs hw hP hS => ?_)
  refine lv_istore_n (lv' := [(1, .int r1), (0, .ref (ad 0))]) S.1 S.2.1 dMod_rightEnd_4 rfl hl (by decide) rfl (fun ls hl => ?_)
  refine lv_aload_n S.1 S.2.1 dMod_rightEnd_5 rfl (lv_at hl 1 rfl) ?_
  refine lv_dup S.1 S.2.1 dMod_rightEnd_6 rfl ?_
  refine zr_get S hK hP (by decide) (mF_0 _) fMod_at q869 rfl dMod_rightEnd_7 ?_
  refine lv_iconst (v := 1) S.1 S.2.1 dMod_rightEnd_10 (by decide) ?_
  refine lv_iadd S.1 S.2.1 dMod_rightEnd_11 ?_
  refine zr_put S hK hJ hP hS (by decide) (mF_0 _) fMod_at q869 rfl rfl (Nat.le_of_ble_eq_true rfl) (mF_0 _) dMod_rightEnd_12 (fun h12 H locs e12 hP hS => ?_)
  have hw := hw h12 e12
  refine lv_aload_n S.1 S.2.1 dMod_rightEnd_15 rfl (lv_at hl 1 rfl) ?_
  refine zr_i (zr_V (As := []) (rest := []) S hK hT hN hP hS (by decide) (mF_0 _) rfl (cMod_peek l D cI cC cE ad A hJ _ _ hw) caMod_288 ⟨Nat.le_of_ble_eq_true rfl, Nat.le_of_ble_eq_true rfl⟩ ⟨rfl, rfl⟩ rfl hl.1 rfl (Nat.le_of_ble_eq_true rfl) dMod_rightEnd_16) hS (fun r16 h16 H locs hw hP hS => ?_)
  refine lv_istore_n (lv' := [(2, .int r16), (1, .int r1), (0, .ref (ad 0))]) S.1 S.2.1 dMod_rightEnd_19 rfl hl (by decide) rfl (fun ls hl => ?_)
  refine lv_iload_n S.1 S.2.1 dMod_rightEnd_20 rfl (lv_at hl 1 rfl) ?_
  refine lv_bipush (v := 61) S.1 S.2.1 dMod_rightEnd_21 (by decide) ?_
  refine lv_icmp_ne S.1 S.2.1 dMod_rightEnd_23 rfl (fun hc => ?_) (fun hc => ?_)
  · have hw := hw.1 hc
    exact J112 _ _ _ _ _ _ hw (lv_sub hl [2, 1, 0] rfl) hP hS
  · have hw := hw.2 hc
    refine lv_iload_n S.1 S.2.1 dMod_rightEnd_26 rfl (lv_at hl 0 rfl) ?_
    refine lv_bipush (v := 110) S.1 S.2.1 dMod_rightEnd_27 (by decide) ?_
    refine lv_icmp_eq S.1 S.2.1 dMod_rightEnd_29 rfl (fun hc => ?_) (fun hc => ?_)
    · have hw := hw.1 hc
      exact J38 _ _ _ _ _ hw (lv_sub hl [2, 0] rfl) hP hS
    · have hw := hw.2 hc
      refine lv_iload_n S.1 S.2.1 dMod_rightEnd_32 rfl (lv_at hl 0 rfl) ?_
      refine lv_bipush (v := 111) S.1 S.2.1 dMod_rightEnd_33 (by decide) ?_
      refine lv_icmp_ne S.1 S.2.1 dMod_rightEnd_35 rfl (fun hc => ?_) (fun hc => ?_)
      · have hw := hw.1 hc
        exact J112 _ _ _ _ _ _ hw (lv_sub hl [2, 1, 0] rfl) hP hS
      · have hw := hw.2 hc
        exact J38 _ _ _ _ _ hw (lv_sub hl [2, 0] rfl) hP hS
/-! Mod.replay -/
theorem dMod_replay_0 : decode bMod_replay 0 = .ok (.aload_n 0, 1) := by decide +kernel
theorem dMod_replay_1 : decode bMod_replay 1 = .ok (.iconst 0, 1) := by decide +kernel
theorem dMod_replay_2 : decode bMod_replay 2 = .ok (.putfield 281, 3) := by decide +kernel
theorem dMod_replay_5 : decode bMod_replay 5 = .ok (.aload_n 0, 1) := by decide +kernel
theorem dMod_replay_6 : decode bMod_replay 6 = .ok (.iconst 0, 1) := by decide +kernel
theorem dMod_replay_7 : decode bMod_replay 7 = .ok (.putfield 284, 3) := by decide +kernel
theorem dMod_replay_10 : decode bMod_replay 10 = .ok (.aload_n 0, 1) := by decide +kernel
theorem dMod_replay_11 : decode bMod_replay 11 = .ok (.iconst 0, 1) := by decide +kernel
theorem dMod_replay_12 : decode bMod_replay 12 = .ok (.putfield 156, 3) := by decide +kernel
theorem dMod_replay_15 : decode bMod_replay 15 = .ok (.aload_n 0, 1) := by decide +kernel
theorem dMod_replay_16 : decode bMod_replay 16 = .ok (.getfield 284, 3) := by decide +kernel
theorem dMod_replay_19 : decode bMod_replay 19 = .ok (.ifCond .ne 28, 3) := by decide +kernel
theorem dMod_replay_22 : decode bMod_replay 22 = .ok (.aload_n 0, 1) := by decide +kernel
theorem dMod_replay_23 : decode bMod_replay 23 = .ok (.invokevirtual 288, 3) := by decide +kernel
theorem dMod_replay_26 : decode bMod_replay 26 = .ok (.bipush 97, 2) := by decide +kernel
theorem dMod_replay_28 : decode bMod_replay 28 = .ok (.if_icmp .lt 19, 3) := by decide +kernel
theorem dMod_replay_31 : decode bMod_replay 31 = .ok (.aload_n 0, 1) := by decide +kernel
theorem dMod_replay_32 : decode bMod_replay 32 = .ok (.invokevirtual 288, 3) := by decide +kernel
theorem dMod_replay_35 : decode bMod_replay 35 = .ok (.bipush 122, 2) := by decide +kernel
theorem dMod_replay_37 : decode bMod_replay 37 = .ok (.if_icmp .gt 10, 3) := by decide +kernel
theorem dMod_replay_40 : decode bMod_replay 40 = .ok (.aload_n 0, 1) := by decide +kernel
theorem dMod_replay_41 : decode bMod_replay 41 = .ok (.invokevirtual 304, 3) := by decide +kernel
theorem dMod_replay_44 : decode bMod_replay 44 = .ok (.goto (-29), 3) := by decide +kernel
theorem dMod_replay_47 : decode bMod_replay 47 = .ok (.aload_n 0, 1) := by decide +kernel
theorem dMod_replay_48 : decode bMod_replay 48 = .ok (.getfield 284, 3) := by decide +kernel
theorem dMod_replay_51 : decode bMod_replay 51 = .ok (.ifCond .ne 10, 3) := by decide +kernel
theorem dMod_replay_54 : decode bMod_replay 54 = .ok (.aload_n 0, 1) := by decide +kernel
theorem dMod_replay_55 : decode bMod_replay 55 = .ok (.getfield 156, 3) := by decide +kernel
theorem dMod_replay_58 : decode bMod_replay 58 = .ok (.ifCond .ne 5, 3) := by decide +kernel
theorem dMod_replay_61 : decode bMod_replay 61 = .ok (.iconst (-1), 1) := by decide +kernel
theorem dMod_replay_62 : decode bMod_replay 62 = .ok (.ireturn, 1) := by decide +kernel
theorem dMod_replay_63 : decode bMod_replay 63 = .ok (.aload_n 0, 1) := by decide +kernel
theorem dMod_replay_64 : decode bMod_replay 64 = .ok (.invokevirtual 198, 3) := by decide +kernel
theorem dMod_replay_67 : decode bMod_replay 67 = .ok (.aload_n 0, 1) := by decide +kernel
theorem dMod_replay_68 : decode bMod_replay 68 = .ok (.invokevirtual 307, 3) := by decide +kernel
theorem dMod_replay_71 : decode bMod_replay 71 = .ok (.istore_n 1, 1) := by decide +kernel
theorem dMod_replay_72 : decode bMod_replay 72 = .ok (.aload_n 0, 1) := by decide +kernel
theorem dMod_replay_73 : decode bMod_replay 73 = .ok (.getfield 284, 3) := by decide +kernel
theorem dMod_replay_76 : decode bMod_replay 76 = .ok (.ifCond .ne 14, 3) := by decide +kernel
theorem dMod_replay_79 : decode bMod_replay 79 = .ok (.aload_n 0, 1) := by decide +kernel
theorem dMod_replay_80 : decode bMod_replay 80 = .ok (.getfield 281, 3) := by decide +kernel
theorem dMod_replay_83 : decode bMod_replay 83 = .ok (.aload_n 0, 1) := by decide +kernel
theorem dMod_replay_84 : decode bMod_replay 84 = .ok (.getfield 276, 3) := by decide +kernel
theorem dMod_replay_87 : decode bMod_replay 87 = .ok (.if_icmp .eq 7, 3) := by decide +kernel
theorem dMod_replay_90 : decode bMod_replay 90 = .ok (.iconst (-1), 1) := by decide +kernel
theorem dMod_replay_91 : decode bMod_replay 91 = .ok (.goto 12, 3) := by decide +kernel
theorem dMod_replay_94 : decode bMod_replay 94 = .ok (.iload_n 1, 1) := by decide +kernel
theorem dMod_replay_95 : decode bMod_replay 95 = .ok (.ifCond .eq 7, 3) := by decide +kernel
theorem dMod_replay_98 : decode bMod_replay 98 = .ok (.iconst 1, 1) := by decide +kernel
theorem dMod_replay_99 : decode bMod_replay 99 = .ok (.goto 4, 3) := by decide +kernel
theorem dMod_replay_102 : decode bMod_replay 102 = .ok (.iconst 0, 1) := by decide +kernel
theorem dMod_replay_103 : decode bMod_replay 103 = .ok (.ireturn, 1) := by decide +kernel
def wbMod_replay_47 (post : Int32 → zM → Prop) (h : zM) : Prop := ((¬ (h 0 42) = 0 → post (-1) h) ∧ ((h 0 42) = 0 → ((¬ (h 0 11) = 0 → wpMod_run h (fun h64 => wpMod_rightEnd h64 (fun r68 h68 => ((¬ (h68 0 42) = 0 → post (-1) h68) ∧ ((h68 0 42) = 0 → (((h68 0 41) = (h68 0 37) → ((r68 = 0 → post 0 h68) ∧ (¬ r68 = 0 → post 1 h68))) ∧ (¬ (h68 0 41) = (h68 0 37) → post (-1) h68))))))) ∧ ((h 0 11) = 0 → post (-1) h))))
def stMod_replay_15 (post : Int32 → zM → Prop) (L15 : (zM) → Prop) : (zM) → Prop := fun s => match s with
  | (h) => ((¬ (h 0 42) = 0 → wbMod_replay_47 post h) ∧ ((h 0 42) = 0 → wpMod_peek h (fun r23 h23 => (((r23 < 97) → wbMod_replay_47 post h23) ∧ (¬ (r23 < 97) → wpMod_peek h23 (fun r32 h32 => (((122 < r32) → wbMod_replay_47 post h32) ∧ (¬ (122 < r32) → wpMod_readStatement h32 (fun h41 => L15 (h41))))))))))
def wpMod_replay (h : zM) (post : Int32 → zM → Prop) : Prop := ∀ h2 : zM, h2 = zu h 0 41 0 → ∀ h7 : zM, h7 = zu h2 0 42 0 → ∀ h12 : zM, h12 = zu h7 0 11 0 → zL (stMod_replay_15 post) (h12)
abbrev rmMod_replay : Room := { frames := 4, cells := 0, slots := 0, locals := 95 }
set_option maxHeartbeats 4000000 in
set_option maxRecDepth 100000 in
theorem cMod_replay (l : Launch) (D : va_G) (cI cC cE : ClassId) (ad : Nat → Nat) (A : Nat → Prop) (hJ : zJ A 28 ad) (h : zM) (post : Int32 → zM → Prop) (hw : wpMod_replay h post) : Met l yMod_replay (.code yMod_replay bMod_replay 2 (some .int) :: zt) rmMod_replay (va_Pc [.ref (ad 0)] (zPre D (zty cI cC cE) 28 ad (mF ad cI) A h)) (va_Qi post (zPst D (zty cI cC cE) 28 ad (mF ad cI)) A) 0 0 A := by
  refine Met.ofW (cc := bMod_replay) (maxL := 2) (ret := (some .int)) (by decide) rfl ?_
  intro p e s m args below meth c s₁ B hml hv
  obtain ⟨rfl, hP, hK, hT, hN⟩ := hv
  have hr := B.returns
  have hlk := B.notSynchronized
  have S : zS p m c bMod_replay 2 s _ "CallExplorerModel" := ⟨B.exec, B.bytes, hml, findClass_of_methodNamed B.named, fun w hw => atoms_spec (ws := .code yMod_replay bMod_replay 2 (some .int) :: zt) B.pre w (List.mem_cons_of_mem _ hw)⟩
  have hS : va_S A s.heap s.heap [] := va_S.rf
  have hl := lv_entry ([.ref (ad 0)]) (n := 2) (Nat.le_of_ble_eq_true rfl)
  rw [lg_entry_eq]
  generalize (lg_sl ([.ref (ad 0)]) ++ List.replicate (2 - (lg_sl ([.ref (ad 0)])).length) Slot.unset).toArray = ls at hl ⊢
  have hl : lv_has ls 2 [(0, .ref (ad 0))] := hl
  show W p l e rmMod_replay s m ([.ref (ad 0)] : List Value).toArray below meth c s.heap [] 0 0 (zQi post D (zty cI cC cE) 28 ad (mF ad cI) A below ([.ref (ad 0)] : List Value).toArray s) _
  have J47 : ∀ (h : zM) (H : Heap) (locs : List Loc) (ls : Array Slot), wbMod_replay_47 post h → lv_has ls 2 [(0, .ref (ad 0))] → va_P D zcl (zW 28 ad (mF ad cI) h) H → va_S A s.heap H locs → W p l e rmMod_replay s m ([.ref (ad 0)] : List Value).toArray below meth c H locs 0 0 (zQi post D (zty cI cC cE) 28 ad (mF ad cI) A below ([.ref (ad 0)] : List Value).toArray s) (F0 m 47 ls []) := by
    intro  h H locs ls hw hl hP hS
    unfold wbMod_replay_47 at hw
    refine lv_aload_n S.1 S.2.1 dMod_replay_47 rfl (lv_at hl 0 rfl) ?_
    refine zr_get S hK hP (by decide) (mF_0 _) fMod_bad q870 rfl dMod_replay_48 ?_
    refine lv_if_ne S.1 S.2.1 dMod_replay_51 rfl (fun hc => ?_) (fun hc => ?_)
    · have hw := hw.1 hc
      refine lv_iconst (v := (-1)) S.1 S.2.1 dMod_replay_61 (by decide) ?_
      exact zr_iret S hr hlk hK hP hS rfl hw dMod_replay_62
    · have hw := hw.2 hc
      refine lv_aload_n S.1 S.2.1 dMod_replay_54 rfl (lv_at hl 0 rfl) ?_
      refine zr_get S hK hP (by decide) (mF_0 _) fMod_size q839 rfl dMod_replay_55 ?_
      refine lv_if_ne S.1 S.2.1 dMod_replay_58 rfl (fun hc => ?_) (fun hc => ?_)
      · have hw := hw.1 hc
        refine lv_aload_n S.1 S.2.1 dMod_replay_63 rfl (lv_at hl 0 rfl) ?_
        refine zr_v (zr_V (As := []) (rest := []) S hK hT hN hP hS (by decide) (mF_0 _) rfl (cMod_run l D cI cC cE ad A hJ _ _ hw) caMod_198 ⟨Nat.le_of_ble_eq_true rfl, Nat.le_of_ble_eq_true rfl⟩ ⟨rfl, rfl⟩ rfl hl.1 rfl (Nat.le_of_ble_eq_true rfl) dMod_replay_64) hS (fun h64 H locs hw hP hS => ?_)
        refine lv_aload_n S.1 S.2.1 dMod_replay_67 rfl (lv_at hl 0 rfl) ?_
        refine zr_i (zr_V (As := []) (rest := []) S hK hT hN hP hS (by decide) (mF_0 _) rfl (cMod_rightEnd l D cI cC cE ad A hJ _ _ hw) caMod_307 ⟨Nat.le_of_ble_eq_true rfl, Nat.le_of_ble_eq_true rfl⟩ ⟨rfl, rfl⟩ rfl hl.1 rfl (Nat.le_of_ble_eq_true rfl) dMod_replay_68) hS (fun r68 h68 H locs hw hP hS => ?_)
        refine lv_istore_n (lv' := [(1, .int r68), (0, .ref (ad 0))]) S.1 S.2.1 dMod_replay_71 rfl hl (by decide) rfl (fun ls hl => ?_)
        refine lv_aload_n S.1 S.2.1 dMod_replay_72 rfl (lv_at hl 1 rfl) ?_
        refine zr_get S hK hP (by decide) (mF_0 _) fMod_bad q870 rfl dMod_replay_73 ?_
        refine lv_if_ne S.1 S.2.1 dMod_replay_76 rfl (fun hc => ?_) (fun hc => ?_)
        · have hw := hw.1 hc
          refine lv_iconst (v := (-1)) S.1 S.2.1 dMod_replay_90 (by decide) ?_
          refine lv_goto S.1 S.2.1 dMod_replay_91 rfl ?_
          exact zr_iret S hr hlk hK hP hS rfl hw dMod_replay_103
        · have hw := hw.2 hc
          refine lv_aload_n S.1 S.2.1 dMod_replay_79 rfl (lv_at hl 1 rfl) ?_
          refine zr_get S hK hP (by decide) (mF_0 _) fMod_at q869 rfl dMod_replay_80 ?_
          refine lv_aload_n S.1 S.2.1 dMod_replay_83 rfl (lv_at hl 1 rfl) ?_
          refine zr_get S hK hP (by decide) (mF_0 _) fMod_drafted q865 rfl dMod_replay_84 ?_
          refine lv_icmp_eq S.1 S.2.1 dMod_replay_87 rfl (fun hc => ?_) (fun hc => ?_)
          · have hw := hw.1 hc
            refine lv_iload_n S.1 S.2.1 dMod_replay_94 rfl (lv_at hl 0 rfl) ?_
            refine lv_if_eq S.1 S.2.1 dMod_replay_95 rfl (fun hc => ?_) (fun hc => ?_)
            · have hw := hw.1 hc
              refine lv_iconst (v := 0) S.1 S.2.1 dMod_replay_102 (by decide) ?_
              exact zr_iret S hr hlk hK hP hS rfl hw dMod_replay_103
            · have hw := hw.2 hc
              refine lv_iconst (v := 1) S.1 S.2.1 dMod_replay_98 (by decide) ?_
              refine lv_goto S.1 S.2.1 dMod_replay_99 rfl ?_
              exact zr_iret S hr hlk hK hP hS rfl hw dMod_replay_103
          · have hw := hw.2 hc
            refine lv_iconst (v := (-1)) S.1 S.2.1 dMod_replay_90 (by decide) ?_
            refine lv_goto S.1 S.2.1 dMod_replay_91 rfl ?_
            exact zr_iret S hr hlk hK hP hS rfl hw dMod_replay_103
      · have hw := hw.2 hc
        refine lv_iconst (v := (-1)) S.1 S.2.1 dMod_replay_61 (by decide) ?_
        exact zr_iret S hr hlk hK hP hS rfl hw dMod_replay_62
  have J15 : ∀ (fu : Nat) (h : zM) (H : Heap) (locs : List Loc) (ls : Array Slot), zl (stMod_replay_15 post) fu (h) → lv_has ls 2 [(0, .ref (ad 0))] → va_P D zcl (zW 28 ad (mF ad cI) h) H → va_S A s.heap H locs → W p l e rmMod_replay s m ([.ref (ad 0)] : List Value).toArray below meth c H locs 0 0 (zQi post D (zty cI cC cE) 28 ad (mF ad cI) A below ([.ref (ad 0)] : List Value).toArray s) (F0 m 15 ls []) := by
    intro fu15
    induction fu15 with
    | zero =>
      intro  h H locs ls hw
      exact (zl_0 hw).elim
    | succ fu15 ih15 =>
      intro  h H locs ls hw hl hP hS
      have hw := zl_s hw
      generalize zl (stMod_replay_15 post) fu15 = L15 at hw ih15
      unfold stMod_replay_15 at hw
      dsimp only at hw
      refine lv_aload_n S.1 S.2.1 dMod_replay_15 rfl (lv_at hl 0 rfl) ?_
      refine zr_get S hK hP (by decide) (mF_0 _) fMod_bad q870 rfl dMod_replay_16 ?_
      refine lv_if_ne S.1 S.2.1 dMod_replay_19 rfl (fun hc => ?_) (fun hc => ?_)
      · have hw := hw.1 hc
        exact J47  _ _ _ _ hw (lv_sub hl [0] rfl) hP hS
      · have hw := hw.2 hc
        refine lv_aload_n S.1 S.2.1 dMod_replay_22 rfl (lv_at hl 0 rfl) ?_
        refine zr_i (zr_V (As := []) (rest := []) S hK hT hN hP hS (by decide) (mF_0 _) rfl (cMod_peek l D cI cC cE ad A hJ _ _ hw) caMod_288 ⟨Nat.le_of_ble_eq_true rfl, Nat.le_of_ble_eq_true rfl⟩ ⟨rfl, rfl⟩ rfl hl.1 rfl (Nat.le_of_ble_eq_true rfl) dMod_replay_23) hS (fun r23 h23 H locs hw hP hS => ?_)
        refine lv_bipush (v := 97) S.1 S.2.1 dMod_replay_26 (by decide) ?_
        refine lv_icmp_lt S.1 S.2.1 dMod_replay_28 rfl (fun hc => ?_) (fun hc => ?_)
        · have hw := hw.1 hc
          exact J47  _ _ _ _ hw (lv_sub hl [0] rfl) hP hS
        · have hw := hw.2 hc
          refine lv_aload_n S.1 S.2.1 dMod_replay_31 rfl (lv_at hl 0 rfl) ?_
          refine zr_i (zr_V (As := []) (rest := []) S hK hT hN hP hS (by decide) (mF_0 _) rfl (cMod_peek l D cI cC cE ad A hJ _ _ hw) caMod_288 ⟨Nat.le_of_ble_eq_true rfl, Nat.le_of_ble_eq_true rfl⟩ ⟨rfl, rfl⟩ rfl hl.1 rfl (Nat.le_of_ble_eq_true rfl) dMod_replay_32) hS (fun r32 h32 H locs hw hP hS => ?_)
          refine lv_bipush (v := 122) S.1 S.2.1 dMod_replay_35 (by decide) ?_
          refine lv_icmp_gt S.1 S.2.1 dMod_replay_37 rfl (fun hc => ?_) (fun hc => ?_)
          · have hw := hw.1 hc
            exact J47  _ _ _ _ hw (lv_sub hl [0] rfl) hP hS
          · have hw := hw.2 hc
            refine lv_aload_n S.1 S.2.1 dMod_replay_40 rfl (lv_at hl 0 rfl) ?_
            refine zr_v (zr_V (As := []) (rest := []) S hK hT hN hP hS (by decide) (mF_0 _) rfl (cMod_readStatement l D cI cC cE ad A hJ _ _ hw) caMod_304 ⟨Nat.le_of_ble_eq_true rfl, Nat.le_of_ble_eq_true rfl⟩ ⟨rfl, rfl⟩ rfl hl.1 rfl (Nat.le_of_ble_eq_true rfl) dMod_replay_41) hS (fun h41 H locs hw hP hS => ?_)
            refine lv_goto S.1 S.2.1 dMod_replay_44 rfl ?_
            exact ih15  _ _ _ _ hw (lv_sub hl [0] rfl) hP hS
  unfold wpMod_replay at hw
  refine lv_aload_n S.1 S.2.1 dMod_replay_0 rfl (lv_at hl 0 rfl) ?_
  refine lv_iconst (v := 0) S.1 S.2.1 dMod_replay_1 (by decide) ?_
  refine zr_put S hK hJ hP hS (by decide) (mF_0 _) fMod_at q869 rfl rfl (Nat.le_of_ble_eq_true rfl) (mF_0 _) dMod_replay_2 (fun h2 H locs e2 hP hS => ?_)
  have hw := hw h2 e2
  refine lv_aload_n S.1 S.2.1 dMod_replay_5 rfl (lv_at hl 0 rfl) ?_
  refine lv_iconst (v := 0) S.1 S.2.1 dMod_replay_6 (by decide) ?_
  refine zr_put S hK hJ hP hS (by decide) (mF_0 _) fMod_bad q870 rfl rfl (Nat.le_of_ble_eq_true rfl) (mF_0 _) dMod_replay_7 (fun h7 H locs e7 hP hS => ?_)
  have hw := hw h7 e7
  refine lv_aload_n S.1 S.2.1 dMod_replay_10 rfl (lv_at hl 0 rfl) ?_
  refine lv_iconst (v := 0) S.1 S.2.1 dMod_replay_11 (by decide) ?_
  refine zr_put S hK hJ hP hS (by decide) (mF_0 _) fMod_size q839 rfl rfl (Nat.le_of_ble_eq_true rfl) (mF_0 _) dMod_replay_12 (fun h12 H locs e12 hP hS => ?_)
  have hw := hw h12 e12
  obtain ⟨fu, hw⟩ := hw
  exact J15 fu  _ _ _ _ hw (lv_sub hl [0] rfl) hP hS
