/-! predicates and contracts, printed by wip/whole/gen -/
/-! Catalog.isClass -/
theorem dCatalog_isClass_0 : decode bCatalog_isClass 0 = .ok (.iload_n 1, 1) := by decide +kernel
theorem dCatalog_isClass_1 : decode bCatalog_isClass 1 = .ok (.iconst 1, 1) := by decide +kernel
theorem dCatalog_isClass_2 : decode bCatalog_isClass 2 = .ok (.if_icmp .lt 15, 3) := by decide +kernel
theorem dCatalog_isClass_5 : decode bCatalog_isClass 5 = .ok (.iload_n 1, 1) := by decide +kernel
theorem dCatalog_isClass_6 : decode bCatalog_isClass 6 = .ok (.aload_n 0, 1) := by decide +kernel
theorem dCatalog_isClass_7 : decode bCatalog_isClass 7 = .ok (.getfield 33, 3) := by decide +kernel
theorem dCatalog_isClass_10 : decode bCatalog_isClass 10 = .ok (.if_icmp .gt 7, 3) := by decide +kernel
theorem dCatalog_isClass_13 : decode bCatalog_isClass 13 = .ok (.iconst 1, 1) := by decide +kernel
theorem dCatalog_isClass_14 : decode bCatalog_isClass 14 = .ok (.goto 4, 3) := by decide +kernel
theorem dCatalog_isClass_17 : decode bCatalog_isClass 17 = .ok (.iconst 0, 1) := by decide +kernel
theorem dCatalog_isClass_18 : decode bCatalog_isClass 18 = .ok (.ireturn, 1) := by decide +kernel
def wpCatalog_isClass (n : Nat) (ln : Nat → Nat) (x1 : Int32) (h : zM) (post : Int32 → zM → Prop) : Prop := (((x1 < 1) → post 0 h) ∧ (¬ (x1 < 1) → ((((h 1 0) < x1) → post 0 h) ∧ (¬ ((h 1 0) < x1) → post 1 h))))
abbrev rmCatalog_isClass : Room := { frames := 0, cells := 0, slots := 0, locals := 0 }
set_option maxHeartbeats 4000000 in
set_option maxRecDepth 100000 in
theorem cCatalog_isClass (l : Launch) (D : va_G) (cI cC cE : ClassId) (ad : Nat → Nat) (n : Nat) (ln : Nat → Nat) (A : Nat → Prop) (hJ : zJ A (34 + 4 * n) ad) (x1 : Int32) (h : zM) (post : Int32 → zM → Prop) (hw : wpCatalog_isClass n ln x1 h post) : Met l yCatalog_isClass (.code yCatalog_isClass bCatalog_isClass 2 (some .boolean) :: zt) rmCatalog_isClass (va_Pc [.ref (ad 1), .int x1] (zPre D (zty cI cC cE) (34 + 4 * n) ad (zF ad cI cC cE n ln) A h)) (va_Qi post (zPst D (zty cI cC cE) (34 + 4 * n) ad (zF ad cI cC cE n ln)) A) 0 0 A := by
  refine Met.ofW (cc := bCatalog_isClass) (maxL := 2) (ret := (some .boolean)) (by decide) rfl ?_
  intro p e s m args below meth c s₁ B hml hv
  obtain ⟨rfl, hP, hK, hT, hN⟩ := hv
  have hr := B.returns
  have hlk := B.notSynchronized
  have S : zS p m c bCatalog_isClass 2 s _ "CallExplorer$Catalog" := ⟨B.exec, B.bytes, hml, findClass_of_methodNamed B.named, fun w hw => atoms_spec (ws := .code yCatalog_isClass bCatalog_isClass 2 (some .boolean) :: zt) B.pre w (List.mem_cons_of_mem _ hw)⟩
  have hS : va_S A s.heap s.heap [] := va_S.rf
  have hl := lv_entry ([.ref (ad 1), .int x1]) (n := 2) (Nat.le_of_ble_eq_true rfl)
  rw [lg_entry_eq]
  generalize (lg_sl ([.ref (ad 1), .int x1]) ++ List.replicate (2 - (lg_sl ([.ref (ad 1), .int x1])).length) Slot.unset).toArray = ls at hl ⊢
  have hl : lv_has ls 2 [(0, .ref (ad 1)), (1, .int x1)] := hl
  show W p l e rmCatalog_isClass s m ([.ref (ad 1), .int x1] : List Value).toArray below meth c s.heap [] 0 0 (zQi post D (zty cI cC cE) (34 + 4 * n) ad (zF ad cI cC cE n ln) A below ([.ref (ad 1), .int x1] : List Value).toArray s) _
  unfold wpCatalog_isClass at hw
  refine lv_iload_n S.1 S.2.1 dCatalog_isClass_0 rfl (lv_at hl 1 rfl) ?_
  refine lv_iconst (v := 1) S.1 S.2.1 dCatalog_isClass_1 (by decide) ?_
  refine lv_icmp_lt S.1 S.2.1 dCatalog_isClass_2 rfl (fun hc => ?_) (fun hc => ?_)
  · have hw := hw.1 hc
    refine lv_iconst (v := 0) S.1 S.2.1 dCatalog_isClass_17 (by decide) ?_
    exact zr_iret S hr hlk hK hP hS rfl hw dCatalog_isClass_18
  · have hw := hw.2 hc
    refine lv_iload_n S.1 S.2.1 dCatalog_isClass_5 rfl (lv_at hl 1 rfl) ?_
    refine lv_aload_n S.1 S.2.1 dCatalog_isClass_6 rfl (lv_at hl 0 rfl) ?_
    refine zr_get S hK hP (zk (by decide)) (zF_1 _) fCatalog_classes q30 rfl dCatalog_isClass_7 ?_
    refine lv_icmp_gt S.1 S.2.1 dCatalog_isClass_10 rfl (fun hc => ?_) (fun hc => ?_)
    · have hw := hw.1 hc
      refine lv_iconst (v := 0) S.1 S.2.1 dCatalog_isClass_17 (by decide) ?_
      exact zr_iret S hr hlk hK hP hS rfl hw dCatalog_isClass_18
    · have hw := hw.2 hc
      refine lv_iconst (v := 1) S.1 S.2.1 dCatalog_isClass_13 (by decide) ?_
      refine lv_goto S.1 S.2.1 dCatalog_isClass_14 rfl ?_
      exact zr_iret S hr hlk hK hP hS rfl hw dCatalog_isClass_18
/-! Catalog.hasPartner -/
theorem dCatalog_hasPartner_0 : decode bCatalog_hasPartner 0 = .ok (.getstatic 47, 3) := by decide +kernel
theorem dCatalog_hasPartner_3 : decode bCatalog_hasPartner 3 = .ok (.iload_n 1, 1) := by decide +kernel
theorem dCatalog_hasPartner_4 : decode bCatalog_hasPartner 4 = .ok (.iaload, 1) := by decide +kernel
theorem dCatalog_hasPartner_5 : decode bCatalog_hasPartner 5 = .ok (.iconst 2, 1) := by decide +kernel
theorem dCatalog_hasPartner_6 : decode bCatalog_hasPartner 6 = .ok (.if_icmp .eq 21, 3) := by decide +kernel
theorem dCatalog_hasPartner_9 : decode bCatalog_hasPartner 9 = .ok (.getstatic 54, 3) := by decide +kernel
theorem dCatalog_hasPartner_12 : decode bCatalog_hasPartner 12 = .ok (.iload_n 1, 1) := by decide +kernel
theorem dCatalog_hasPartner_13 : decode bCatalog_hasPartner 13 = .ok (.iaload, 1) := by decide +kernel
theorem dCatalog_hasPartner_14 : decode bCatalog_hasPartner 14 = .ok (.iconst 2, 1) := by decide +kernel
theorem dCatalog_hasPartner_15 : decode bCatalog_hasPartner 15 = .ok (.if_icmp .eq 12, 3) := by decide +kernel
theorem dCatalog_hasPartner_18 : decode bCatalog_hasPartner 18 = .ok (.getstatic 57, 3) := by decide +kernel
theorem dCatalog_hasPartner_21 : decode bCatalog_hasPartner 21 = .ok (.iload_n 1, 1) := by decide +kernel
theorem dCatalog_hasPartner_22 : decode bCatalog_hasPartner 22 = .ok (.iaload, 1) := by decide +kernel
theorem dCatalog_hasPartner_23 : decode bCatalog_hasPartner 23 = .ok (.iconst 2, 1) := by decide +kernel
theorem dCatalog_hasPartner_24 : decode bCatalog_hasPartner 24 = .ok (.if_icmp .ne 7, 3) := by decide +kernel
theorem dCatalog_hasPartner_27 : decode bCatalog_hasPartner 27 = .ok (.iconst 1, 1) := by decide +kernel
theorem dCatalog_hasPartner_28 : decode bCatalog_hasPartner 28 = .ok (.goto 4, 3) := by decide +kernel
theorem dCatalog_hasPartner_31 : decode bCatalog_hasPartner 31 = .ok (.iconst 0, 1) := by decide +kernel
theorem dCatalog_hasPartner_32 : decode bCatalog_hasPartner 32 = .ok (.ireturn, 1) := by decide +kernel
def wpCatalog_hasPartner (n : Nat) (ln : Nat → Nat) (x1 : Int32) (h : zM) (post : Int32 → zM → Prop) : Prop := (vp_in x1 10 ∧ (((zt1 (Int32.toNatClampNeg x1)) = 2 → post 1 h) ∧ (¬ (zt1 (Int32.toNatClampNeg x1)) = 2 → (vp_in x1 10 ∧ (((zt2 (Int32.toNatClampNeg x1)) = 2 → post 1 h) ∧ (¬ (zt2 (Int32.toNatClampNeg x1)) = 2 → (vp_in x1 10 ∧ ((¬ (zt3 (Int32.toNatClampNeg x1)) = 2 → post 0 h) ∧ ((zt3 (Int32.toNatClampNeg x1)) = 2 → post 1 h)))))))))
abbrev rmCatalog_hasPartner : Room := { frames := 0, cells := 0, slots := 0, locals := 0 }
set_option maxHeartbeats 4000000 in
set_option maxRecDepth 100000 in
theorem cCatalog_hasPartner (l : Launch) (D : va_G) (cI cC cE : ClassId) (ad : Nat → Nat) (n : Nat) (ln : Nat → Nat) (A : Nat → Prop) (hJ : zJ A (34 + 4 * n) ad) (x1 : Int32) (h : zM) (post : Int32 → zM → Prop) (hw : wpCatalog_hasPartner n ln x1 h post) : Met l yCatalog_hasPartner (.code yCatalog_hasPartner bCatalog_hasPartner 2 (some .boolean) :: zt) rmCatalog_hasPartner (va_Pc [.ref (ad 1), .int x1] (zPre D (zty cI cC cE) (34 + 4 * n) ad (zF ad cI cC cE n ln) A h)) (va_Qi post (zPst D (zty cI cC cE) (34 + 4 * n) ad (zF ad cI cC cE n ln)) A) 0 0 A := by
  refine Met.ofW (cc := bCatalog_hasPartner) (maxL := 2) (ret := (some .boolean)) (by decide) rfl ?_
  intro p e s m args below meth c s₁ B hml hv
  obtain ⟨rfl, hP, hK, hT, hN⟩ := hv
  have hr := B.returns
  have hlk := B.notSynchronized
  have S : zS p m c bCatalog_hasPartner 2 s _ "CallExplorer$Catalog" := ⟨B.exec, B.bytes, hml, findClass_of_methodNamed B.named, fun w hw => atoms_spec (ws := .code yCatalog_hasPartner bCatalog_hasPartner 2 (some .boolean) :: zt) B.pre w (List.mem_cons_of_mem _ hw)⟩
  have hS : va_S A s.heap s.heap [] := va_S.rf
  obtain ⟨⟨t1, hZ1, hT1⟩, ⟨t2, hZ2, hT2⟩, ⟨t3, hZ3, hT3⟩, -⟩ := id hT
  have hl := lv_entry ([.ref (ad 1), .int x1]) (n := 2) (Nat.le_of_ble_eq_true rfl)
  rw [lg_entry_eq]
  generalize (lg_sl ([.ref (ad 1), .int x1]) ++ List.replicate (2 - (lg_sl ([.ref (ad 1), .int x1])).length) Slot.unset).toArray = ls at hl ⊢
  have hl : lv_has ls 2 [(0, .ref (ad 1)), (1, .int x1)] := hl
  show W p l e rmCatalog_hasPartner s m ([.ref (ad 1), .int x1] : List Value).toArray below meth c s.heap [] 0 0 (zQi post D (zty cI cC cE) (34 + 4 * n) ad (zF ad cI cC cE n ln) A below ([.ref (ad 1), .int x1] : List Value).toArray s) _
  unfold wpCatalog_hasPartner at hw
  refine zr_gets S hN hS hZ1 (by decide) dCatalog_hasPartner_0 ?_
  refine lv_iload_n S.1 S.2.1 dCatalog_hasPartner_3 rfl (lv_at hl 1 rfl) ?_
  obtain ⟨z4, hw⟩ := hw
  refine zr_tld S hS hT1 z4 dCatalog_hasPartner_4 ?_
  refine lv_iconst (v := 2) S.1 S.2.1 dCatalog_hasPartner_5 (by decide) ?_
  refine lv_icmp_eq S.1 S.2.1 dCatalog_hasPartner_6 rfl (fun hc => ?_) (fun hc => ?_)
  · have hw := hw.1 hc
    refine lv_iconst (v := 1) S.1 S.2.1 dCatalog_hasPartner_27 (by decide) ?_
    refine lv_goto S.1 S.2.1 dCatalog_hasPartner_28 rfl ?_
    exact zr_iret S hr hlk hK hP hS rfl hw dCatalog_hasPartner_32
  · have hw := hw.2 hc
    refine zr_gets S hN hS hZ2 (by decide) dCatalog_hasPartner_9 ?_
    refine lv_iload_n S.1 S.2.1 dCatalog_hasPartner_12 rfl (lv_at hl 1 rfl) ?_
    obtain ⟨z13, hw⟩ := hw
    refine zr_tld S hS hT2 z13 dCatalog_hasPartner_13 ?_
    refine lv_iconst (v := 2) S.1 S.2.1 dCatalog_hasPartner_14 (by decide) ?_
    refine lv_icmp_eq S.1 S.2.1 dCatalog_hasPartner_15 rfl (fun hc => ?_) (fun hc => ?_)
    · have hw := hw.1 hc
      refine lv_iconst (v := 1) S.1 S.2.1 dCatalog_hasPartner_27 (by decide) ?_
      refine lv_goto S.1 S.2.1 dCatalog_hasPartner_28 rfl ?_
      exact zr_iret S hr hlk hK hP hS rfl hw dCatalog_hasPartner_32
    · have hw := hw.2 hc
      refine zr_gets S hN hS hZ3 (by decide) dCatalog_hasPartner_18 ?_
      refine lv_iload_n S.1 S.2.1 dCatalog_hasPartner_21 rfl (lv_at hl 1 rfl) ?_
      obtain ⟨z22, hw⟩ := hw
      refine zr_tld S hS hT3 z22 dCatalog_hasPartner_22 ?_
      refine lv_iconst (v := 2) S.1 S.2.1 dCatalog_hasPartner_23 (by decide) ?_
      refine lv_icmp_ne S.1 S.2.1 dCatalog_hasPartner_24 rfl (fun hc => ?_) (fun hc => ?_)
      · have hw := hw.1 hc
        refine lv_iconst (v := 0) S.1 S.2.1 dCatalog_hasPartner_31 (by decide) ?_
        exact zr_iret S hr hlk hK hP hS rfl hw dCatalog_hasPartner_32
      · have hw := hw.2 hc
        refine lv_iconst (v := 1) S.1 S.2.1 dCatalog_hasPartner_27 (by decide) ?_
        refine lv_goto S.1 S.2.1 dCatalog_hasPartner_28 rfl ?_
        exact zr_iret S hr hlk hK hP hS rfl hw dCatalog_hasPartner_32
/-! Catalog.typeOf -/
theorem dCatalog_typeOf_0 : decode bCatalog_typeOf 0 = .ok (.iload_n 1, 1) := by decide +kernel
theorem dCatalog_typeOf_1 : decode bCatalog_typeOf 1 = .ok (.tableswitch 33 0 2 #[27, 29, 31], 27) := by decide +kernel
theorem dCatalog_typeOf_28 : decode bCatalog_typeOf 28 = .ok (.iconst 0, 1) := by decide +kernel
theorem dCatalog_typeOf_29 : decode bCatalog_typeOf 29 = .ok (.ireturn, 1) := by decide +kernel
theorem dCatalog_typeOf_30 : decode bCatalog_typeOf 30 = .ok (.iload_n 2, 1) := by decide +kernel
theorem dCatalog_typeOf_31 : decode bCatalog_typeOf 31 = .ok (.ireturn, 1) := by decide +kernel
theorem dCatalog_typeOf_32 : decode bCatalog_typeOf 32 = .ok (.iload_n 3, 1) := by decide +kernel
theorem dCatalog_typeOf_33 : decode bCatalog_typeOf 33 = .ok (.ireturn, 1) := by decide +kernel
theorem dCatalog_typeOf_34 : decode bCatalog_typeOf 34 = .ok (.iconst (-1), 1) := by decide +kernel
theorem dCatalog_typeOf_35 : decode bCatalog_typeOf 35 = .ok (.ireturn, 1) := by decide +kernel
def wpCatalog_typeOf (n : Nat) (ln : Nat → Nat) (x1 : Int32) (x2 : Int32) (x3 : Int32) (h : zM) (post : Int32 → zM → Prop) : Prop := ((x1 = 0 → post 0 h) ∧ (¬ x1 = 0 → ((x1 = 1 → post x2 h) ∧ (¬ x1 = 1 → ((x1 = 2 → post x3 h) ∧ (¬ x1 = 2 → post (-1) h))))))
abbrev rmCatalog_typeOf : Room := { frames := 0, cells := 0, slots := 0, locals := 0 }
set_option maxHeartbeats 4000000 in
set_option maxRecDepth 100000 in
theorem cCatalog_typeOf (l : Launch) (D : va_G) (cI cC cE : ClassId) (ad : Nat → Nat) (n : Nat) (ln : Nat → Nat) (A : Nat → Prop) (hJ : zJ A (34 + 4 * n) ad) (x1 : Int32) (x2 : Int32) (x3 : Int32) (h : zM) (post : Int32 → zM → Prop) (hw : wpCatalog_typeOf n ln x1 x2 x3 h post) : Met l yCatalog_typeOf (.code yCatalog_typeOf bCatalog_typeOf 4 (some .int) :: zt) rmCatalog_typeOf (va_Pc [.ref (ad 1), .int x1, .int x2, .int x3] (zPre D (zty cI cC cE) (34 + 4 * n) ad (zF ad cI cC cE n ln) A h)) (va_Qi post (zPst D (zty cI cC cE) (34 + 4 * n) ad (zF ad cI cC cE n ln)) A) 0 0 A := by
  refine Met.ofW (cc := bCatalog_typeOf) (maxL := 4) (ret := (some .int)) (by decide) rfl ?_
  intro p e s m args below meth c s₁ B hml hv
  obtain ⟨rfl, hP, hK, hT, hN⟩ := hv
  have hr := B.returns
  have hlk := B.notSynchronized
  have S : zS p m c bCatalog_typeOf 4 s _ "CallExplorer$Catalog" := ⟨B.exec, B.bytes, hml, findClass_of_methodNamed B.named, fun w hw => atoms_spec (ws := .code yCatalog_typeOf bCatalog_typeOf 4 (some .int) :: zt) B.pre w (List.mem_cons_of_mem _ hw)⟩
  have hS : va_S A s.heap s.heap [] := va_S.rf
  have hl := lv_entry ([.ref (ad 1), .int x1, .int x2, .int x3]) (n := 4) (Nat.le_of_ble_eq_true rfl)
  rw [lg_entry_eq]
  generalize (lg_sl ([.ref (ad 1), .int x1, .int x2, .int x3]) ++ List.replicate (4 - (lg_sl ([.ref (ad 1), .int x1, .int x2, .int x3])).length) Slot.unset).toArray = ls at hl ⊢
  have hl : lv_has ls 4 [(0, .ref (ad 1)), (1, .int x1), (2, .int x2), (3, .int x3)] := hl
  show W p l e rmCatalog_typeOf s m ([.ref (ad 1), .int x1, .int x2, .int x3] : List Value).toArray below meth c s.heap [] 0 0 (zQi post D (zty cI cC cE) (34 + 4 * n) ad (zF ad cI cC cE n ln) A below ([.ref (ad 1), .int x1, .int x2, .int x3] : List Value).toArray s) _
  unfold wpCatalog_typeOf at hw
  refine lv_iload_n S.1 S.2.1 dCatalog_typeOf_0 rfl (lv_at hl 1 rfl) ?_
  by_cases c0 : x1 = 0
  · have hw := hw.1 c0
    refine lv_tableIn (off := 27) S.1 S.2.1 dCatalog_typeOf_1 (by rw [c0]; decide) (by rw [c0]; decide) (by rw [c0]; rfl) rfl ?_
    refine lv_iconst (v := 0) S.1 S.2.1 dCatalog_typeOf_28 (by decide) ?_
    exact zr_iret S hr hlk hK hP hS rfl hw dCatalog_typeOf_29
  · have hw := hw.2 c0
    by_cases c1 : x1 = 1
    · have hw := hw.1 c1
      refine lv_tableIn (off := 29) S.1 S.2.1 dCatalog_typeOf_1 (by rw [c1]; decide) (by rw [c1]; decide) (by rw [c1]; rfl) rfl ?_
      refine lv_iload_n S.1 S.2.1 dCatalog_typeOf_30 rfl (lv_at hl 2 rfl) ?_
      exact zr_iret S hr hlk hK hP hS rfl hw dCatalog_typeOf_31
    · have hw := hw.2 c1
      by_cases c2 : x1 = 2
      · have hw := hw.1 c2
        refine lv_tableIn (off := 31) S.1 S.2.1 dCatalog_typeOf_1 (by rw [c2]; decide) (by rw [c2]; decide) (by rw [c2]; rfl) rfl ?_
        refine lv_iload_n S.1 S.2.1 dCatalog_typeOf_32 rfl (lv_at hl 3 rfl) ?_
        exact zr_iret S hr hlk hK hP hS rfl hw dCatalog_typeOf_33
      · have hw := hw.2 c2
        refine lv_tableOut S.1 S.2.1 dCatalog_typeOf_1 (by have n0 := lv_neT c0 (show (0 : Int32).toInt = 0 from by decide); have n1 := lv_neT c1 (show (1 : Int32).toInt = 1 from by decide); have n2 := lv_neT c2 (show (2 : Int32).toInt = 2 from by decide); omega) rfl ?_
        refine lv_iconst (v := (-1)) S.1 S.2.1 dCatalog_typeOf_34 (by decide) ?_
        exact zr_iret S hr hlk hK hP hS rfl hw dCatalog_typeOf_35
/-! Catalog.argumentType -/
theorem dCatalog_argumentType_0 : decode bCatalog_argumentType 0 = .ok (.iload_n 2, 1) := by decide +kernel
theorem dCatalog_argumentType_1 : decode bCatalog_argumentType 1 = .ok (.ifCond .ne 12, 3) := by decide +kernel
theorem dCatalog_argumentType_4 : decode bCatalog_argumentType 4 = .ok (.aload_n 0, 1) := by decide +kernel
theorem dCatalog_argumentType_5 : decode bCatalog_argumentType 5 = .ok (.getfield 24, 3) := by decide +kernel
theorem dCatalog_argumentType_8 : decode bCatalog_argumentType 8 = .ok (.iload_n 1, 1) := by decide +kernel
theorem dCatalog_argumentType_9 : decode bCatalog_argumentType 9 = .ok (.iaload, 1) := by decide +kernel
theorem dCatalog_argumentType_10 : decode bCatalog_argumentType 10 = .ok (.goto 9, 3) := by decide +kernel
theorem dCatalog_argumentType_13 : decode bCatalog_argumentType 13 = .ok (.aload_n 0, 1) := by decide +kernel
theorem dCatalog_argumentType_14 : decode bCatalog_argumentType 14 = .ok (.getfield 27, 3) := by decide +kernel
theorem dCatalog_argumentType_17 : decode bCatalog_argumentType 17 = .ok (.iload_n 1, 1) := by decide +kernel
theorem dCatalog_argumentType_18 : decode bCatalog_argumentType 18 = .ok (.iaload, 1) := by decide +kernel
theorem dCatalog_argumentType_19 : decode bCatalog_argumentType 19 = .ok (.ireturn, 1) := by decide +kernel
def wpCatalog_argumentType (n : Nat) (ln : Nat → Nat) (x1 : Int32) (x2 : Int32) (h : zM) (post : Int32 → zM → Prop) : Prop := ((¬ x2 = 0 → (vp_in x1 10 ∧ post (h 7 (Int32.toNatClampNeg x1)) h)) ∧ (x2 = 0 → (vp_in x1 10 ∧ post (h 6 (Int32.toNatClampNeg x1)) h)))
abbrev rmCatalog_argumentType : Room := { frames := 0, cells := 0, slots := 0, locals := 0 }
set_option maxHeartbeats 4000000 in
set_option maxRecDepth 100000 in
theorem cCatalog_argumentType (l : Launch) (D : va_G) (cI cC cE : ClassId) (ad : Nat → Nat) (n : Nat) (ln : Nat → Nat) (A : Nat → Prop) (hJ : zJ A (34 + 4 * n) ad) (x1 : Int32) (x2 : Int32) (h : zM) (post : Int32 → zM → Prop) (hw : wpCatalog_argumentType n ln x1 x2 h post) : Met l yCatalog_argumentType (.code yCatalog_argumentType bCatalog_argumentType 3 (some .int) :: zt) rmCatalog_argumentType (va_Pc [.ref (ad 1), .int x1, .int x2] (zPre D (zty cI cC cE) (34 + 4 * n) ad (zF ad cI cC cE n ln) A h)) (va_Qi post (zPst D (zty cI cC cE) (34 + 4 * n) ad (zF ad cI cC cE n ln)) A) 0 0 A := by
  refine Met.ofW (cc := bCatalog_argumentType) (maxL := 3) (ret := (some .int)) (by decide) rfl ?_
  intro p e s m args below meth c s₁ B hml hv
  obtain ⟨rfl, hP, hK, hT, hN⟩ := hv
  have hr := B.returns
  have hlk := B.notSynchronized
  have S : zS p m c bCatalog_argumentType 3 s _ "CallExplorer$Catalog" := ⟨B.exec, B.bytes, hml, findClass_of_methodNamed B.named, fun w hw => atoms_spec (ws := .code yCatalog_argumentType bCatalog_argumentType 3 (some .int) :: zt) B.pre w (List.mem_cons_of_mem _ hw)⟩
  have hS : va_S A s.heap s.heap [] := va_S.rf
  have hl := lv_entry ([.ref (ad 1), .int x1, .int x2]) (n := 3) (Nat.le_of_ble_eq_true rfl)
  rw [lg_entry_eq]
  generalize (lg_sl ([.ref (ad 1), .int x1, .int x2]) ++ List.replicate (3 - (lg_sl ([.ref (ad 1), .int x1, .int x2])).length) Slot.unset).toArray = ls at hl ⊢
  have hl : lv_has ls 3 [(0, .ref (ad 1)), (1, .int x1), (2, .int x2)] := hl
  show W p l e rmCatalog_argumentType s m ([.ref (ad 1), .int x1, .int x2] : List Value).toArray below meth c s.heap [] 0 0 (zQi post D (zty cI cC cE) (34 + 4 * n) ad (zF ad cI cC cE n ln) A below ([.ref (ad 1), .int x1, .int x2] : List Value).toArray s) _
  unfold wpCatalog_argumentType at hw
  refine lv_iload_n S.1 S.2.1 dCatalog_argumentType_0 rfl (lv_at hl 2 rfl) ?_
  refine lv_if_ne S.1 S.2.1 dCatalog_argumentType_1 rfl (fun hc => ?_) (fun hc => ?_)
  · have hw := hw.1 hc
    refine lv_aload_n S.1 S.2.1 dCatalog_argumentType_13 rfl (lv_at hl 0 rfl) ?_
    refine zr_get S hK hP (zk (by decide)) (zF_1 _) fCatalog_secondTypes q42 rfl dCatalog_argumentType_14 ?_
    refine lv_iload_n S.1 S.2.1 dCatalog_argumentType_17 rfl (lv_at hl 1 rfl) ?_
    obtain ⟨z18, hw⟩ := hw
    refine zr_ald S hK hP (zk (by decide)) (zF_7 _) 0 rfl z18 dCatalog_argumentType_18 ?_
    exact zr_iret S hr hlk hK hP hS rfl hw dCatalog_argumentType_19
  · have hw := hw.2 hc
    refine lv_aload_n S.1 S.2.1 dCatalog_argumentType_4 rfl (lv_at hl 0 rfl) ?_
    refine zr_get S hK hP (zk (by decide)) (zF_1 _) fCatalog_firstTypes q41 rfl dCatalog_argumentType_5 ?_
    refine lv_iload_n S.1 S.2.1 dCatalog_argumentType_8 rfl (lv_at hl 1 rfl) ?_
    obtain ⟨z9, hw⟩ := hw
    refine zr_ald S hK hP (zk (by decide)) (zF_6 _) 0 rfl z9 dCatalog_argumentType_9 ?_
    refine lv_goto S.1 S.2.1 dCatalog_argumentType_10 rfl ?_
    exact zr_iret S hr hlk hK hP hS rfl hw dCatalog_argumentType_19
/-! Catalog.is -/
theorem dCatalog_is_0 : decode bCatalog_is 0 = .ok (.iload_n 1, 1) := by decide +kernel
theorem dCatalog_is_1 : decode bCatalog_is 1 = .ok (.iload_n 2, 1) := by decide +kernel
theorem dCatalog_is_2 : decode bCatalog_is 2 = .ok (.if_icmp .ne 5, 3) := by decide +kernel
theorem dCatalog_is_5 : decode bCatalog_is 5 = .ok (.iconst 1, 1) := by decide +kernel
theorem dCatalog_is_6 : decode bCatalog_is 6 = .ok (.ireturn, 1) := by decide +kernel
theorem dCatalog_is_7 : decode bCatalog_is 7 = .ok (.iload_n 1, 1) := by decide +kernel
theorem dCatalog_is_8 : decode bCatalog_is 8 = .ok (.istore_n 3, 1) := by decide +kernel
theorem dCatalog_is_9 : decode bCatalog_is 9 = .ok (.iconst 0, 1) := by decide +kernel
theorem dCatalog_is_10 : decode bCatalog_is 10 = .ok (.istore 4, 2) := by decide +kernel
theorem dCatalog_is_12 : decode bCatalog_is 12 = .ok (.iload 4, 2) := by decide +kernel
theorem dCatalog_is_14 : decode bCatalog_is 14 = .ok (.iconst 4, 1) := by decide +kernel
theorem dCatalog_is_15 : decode bCatalog_is 15 = .ok (.if_icmp .ge 27, 3) := by decide +kernel
theorem dCatalog_is_18 : decode bCatalog_is 18 = .ok (.iload_n 3, 1) := by decide +kernel
theorem dCatalog_is_19 : decode bCatalog_is 19 = .ok (.ifCond .le 23, 3) := by decide +kernel
theorem dCatalog_is_22 : decode bCatalog_is 22 = .ok (.iload_n 3, 1) := by decide +kernel
theorem dCatalog_is_23 : decode bCatalog_is 23 = .ok (.iload_n 2, 1) := by decide +kernel
theorem dCatalog_is_24 : decode bCatalog_is 24 = .ok (.if_icmp .ne 5, 3) := by decide +kernel
theorem dCatalog_is_27 : decode bCatalog_is 27 = .ok (.iconst 1, 1) := by decide +kernel
theorem dCatalog_is_28 : decode bCatalog_is 28 = .ok (.ireturn, 1) := by decide +kernel
theorem dCatalog_is_29 : decode bCatalog_is 29 = .ok (.aload_n 0, 1) := by decide +kernel
theorem dCatalog_is_30 : decode bCatalog_is 30 = .ok (.getfield 9, 3) := by decide +kernel
theorem dCatalog_is_33 : decode bCatalog_is 33 = .ok (.iload_n 3, 1) := by decide +kernel
theorem dCatalog_is_34 : decode bCatalog_is 34 = .ok (.iaload, 1) := by decide +kernel
theorem dCatalog_is_35 : decode bCatalog_is 35 = .ok (.istore_n 3, 1) := by decide +kernel
theorem dCatalog_is_36 : decode bCatalog_is 36 = .ok (.iinc 4 1, 3) := by decide +kernel
theorem dCatalog_is_39 : decode bCatalog_is 39 = .ok (.goto (-27), 3) := by decide +kernel
theorem dCatalog_is_42 : decode bCatalog_is 42 = .ok (.iconst 0, 1) := by decide +kernel
theorem dCatalog_is_43 : decode bCatalog_is 43 = .ok (.ireturn, 1) := by decide +kernel
def stCatalog_is_12 (n : Nat) (ln : Nat → Nat) (post : Int32 → zM → Prop) (L12 : (Int32 × Int32 × Int32 × zM) → Prop) : (Int32 × Int32 × Int32 × zM) → Prop := fun s => match s with
  | (v2, v3, v4, h) => (((4 ≤ v4) → post 0 h) ∧ (¬ (4 ≤ v4) → (((v3 ≤ 0) → post 0 h) ∧ (¬ (v3 ≤ 0) → ((¬ v3 = v2 → (vp_in v3 5 ∧ ∀ y35 : Int32, y35 = (h 2 (Int32.toNatClampNeg v3)) → L12 (v2, y35, (v4 + 1), h))) ∧ (v3 = v2 → post 1 h))))))
def wpCatalog_is (n : Nat) (ln : Nat → Nat) (x1 : Int32) (x2 : Int32) (h : zM) (post : Int32 → zM → Prop) : Prop := ((¬ x1 = x2 → zL (stCatalog_is_12 n ln post) (x2, x1, 0, h)) ∧ (x1 = x2 → post 1 h))
abbrev rmCatalog_is : Room := { frames := 0, cells := 0, slots := 0, locals := 0 }
set_option maxHeartbeats 4000000 in
set_option maxRecDepth 100000 in
theorem cCatalog_is (l : Launch) (D : va_G) (cI cC cE : ClassId) (ad : Nat → Nat) (n : Nat) (ln : Nat → Nat) (A : Nat → Prop) (hJ : zJ A (34 + 4 * n) ad) (x1 : Int32) (x2 : Int32) (h : zM) (post : Int32 → zM → Prop) (hw : wpCatalog_is n ln x1 x2 h post) : Met l yCatalog_is (.code yCatalog_is bCatalog_is 5 (some .boolean) :: zt) rmCatalog_is (va_Pc [.ref (ad 1), .int x1, .int x2] (zPre D (zty cI cC cE) (34 + 4 * n) ad (zF ad cI cC cE n ln) A h)) (va_Qi post (zPst D (zty cI cC cE) (34 + 4 * n) ad (zF ad cI cC cE n ln)) A) 0 0 A := by
  refine Met.ofW (cc := bCatalog_is) (maxL := 5) (ret := (some .boolean)) (by decide) rfl ?_
  intro p e s m args below meth c s₁ B hml hv
  obtain ⟨rfl, hP, hK, hT, hN⟩ := hv
  have hr := B.returns
  have hlk := B.notSynchronized
  have S : zS p m c bCatalog_is 5 s _ "CallExplorer$Catalog" := ⟨B.exec, B.bytes, hml, findClass_of_methodNamed B.named, fun w hw => atoms_spec (ws := .code yCatalog_is bCatalog_is 5 (some .boolean) :: zt) B.pre w (List.mem_cons_of_mem _ hw)⟩
  have hS : va_S A s.heap s.heap [] := va_S.rf
  have hl := lv_entry ([.ref (ad 1), .int x1, .int x2]) (n := 5) (Nat.le_of_ble_eq_true rfl)
  rw [lg_entry_eq]
  generalize (lg_sl ([.ref (ad 1), .int x1, .int x2]) ++ List.replicate (5 - (lg_sl ([.ref (ad 1), .int x1, .int x2])).length) Slot.unset).toArray = ls at hl ⊢
  have hl : lv_has ls 5 [(0, .ref (ad 1)), (1, .int x1), (2, .int x2)] := hl
  show W p l e rmCatalog_is s m ([.ref (ad 1), .int x1, .int x2] : List Value).toArray below meth c s.heap [] 0 0 (zQi post D (zty cI cC cE) (34 + 4 * n) ad (zF ad cI cC cE n ln) A below ([.ref (ad 1), .int x1, .int x2] : List Value).toArray s) _
  have J12 : ∀ (fu : Nat) (v2 : Int32) (v3 : Int32) (v4 : Int32) (h : zM) (H : Heap) (locs : List Loc) (ls : Array Slot), zl (stCatalog_is_12 n ln post) fu (v2, v3, v4, h) → lv_has ls 5 [(0, .ref (ad 1)), (2, .int v2), (3, .int v3), (4, .int v4)] → va_P D zcl (zW (34 + 4 * n) ad (zF ad cI cC cE n ln) h) H → va_S A s.heap H locs → W p l e rmCatalog_is s m ([.ref (ad 1), .int x1, .int x2] : List Value).toArray below meth c H locs 0 0 (zQi post D (zty cI cC cE) (34 + 4 * n) ad (zF ad cI cC cE n ln) A below ([.ref (ad 1), .int x1, .int x2] : List Value).toArray s) (F0 m 12 ls []) := by
    intro fu12
    induction fu12 with
    | zero =>
      intro v2 v3 v4 h H locs ls hw
      exact (zl_0 hw).elim
    | succ fu12 ih12 =>
      intro v2 v3 v4 h H locs ls hw hl hP hS
      have hw := zl_s hw
      generalize zl (stCatalog_is_12 n ln post) fu12 = L12 at hw ih12
      unfold stCatalog_is_12 at hw
      dsimp only at hw
      refine lv_iload S.1 S.2.1 dCatalog_is_12 (lv_at hl 3 rfl) ?_
      refine lv_iconst (v := 4) S.1 S.2.1 dCatalog_is_14 (by decide) ?_
      refine lv_icmp_ge S.1 S.2.1 dCatalog_is_15 rfl (fun hc => ?_) (fun hc => ?_)
      · have hw := hw.1 hc
        refine lv_iconst (v := 0) S.1 S.2.1 dCatalog_is_42 (by decide) ?_
        exact zr_iret S hr hlk hK hP hS rfl hw dCatalog_is_43
      · have hw := hw.2 hc
        refine lv_iload_n S.1 S.2.1 dCatalog_is_18 rfl (lv_at hl 2 rfl) ?_
        refine lv_if_le S.1 S.2.1 dCatalog_is_19 rfl (fun hc => ?_) (fun hc => ?_)
        · have hw := hw.1 hc
          refine lv_iconst (v := 0) S.1 S.2.1 dCatalog_is_42 (by decide) ?_
          exact zr_iret S hr hlk hK hP hS rfl hw dCatalog_is_43
        · have hw := hw.2 hc
          refine lv_iload_n S.1 S.2.1 dCatalog_is_22 rfl (lv_at hl 2 rfl) ?_
          refine lv_iload_n S.1 S.2.1 dCatalog_is_23 rfl (lv_at hl 1 rfl) ?_
          refine lv_icmp_ne S.1 S.2.1 dCatalog_is_24 rfl (fun hc => ?_) (fun hc => ?_)
          · have hw := hw.1 hc
            refine lv_aload_n S.1 S.2.1 dCatalog_is_29 rfl (lv_at hl 0 rfl) ?_
            refine zr_get S hK hP (zk (by decide)) (zF_1 _) fCatalog_parents q34 rfl dCatalog_is_30 ?_
            refine lv_iload_n S.1 S.2.1 dCatalog_is_33 rfl (lv_at hl 2 rfl) ?_
            obtain ⟨z34, hw⟩ := hw
            refine zr_ald S hK hP (zk (by decide)) (zF_2 _) 0 rfl z34 dCatalog_is_34 ?_
            refine lv_topi (fun y35 e35 => ?_)
            have hw := hw y35 e35
            refine lv_istore_n (lv' := [(3, .int y35), (0, .ref (ad 1)), (2, .int v2), (4, .int v4)]) S.1 S.2.1 dCatalog_is_35 rfl hl (by decide) rfl (fun ls hl => ?_)
            refine lv_iinc (v := (v4 + 1)) (lv' := [(4, .int (v4 + 1)), (3, .int y35), (0, .ref (ad 1)), (2, .int v2)]) (k := 3) S.1 S.2.1 dCatalog_is_36 hl rfl rfl (by decide) rfl (fun ls hl => ?_)
            refine lv_goto S.1 S.2.1 dCatalog_is_39 rfl ?_
            exact ih12 _ _ _ _ _ _ _ hw (lv_sub hl [2, 3, 1, 0] rfl) hP hS
          · have hw := hw.2 hc
            refine lv_iconst (v := 1) S.1 S.2.1 dCatalog_is_27 (by decide) ?_
            exact zr_iret S hr hlk hK hP hS rfl hw dCatalog_is_28
  unfold wpCatalog_is at hw
  refine lv_iload_n S.1 S.2.1 dCatalog_is_0 rfl (lv_at hl 1 rfl) ?_
  refine lv_iload_n S.1 S.2.1 dCatalog_is_1 rfl (lv_at hl 2 rfl) ?_
  refine lv_icmp_ne S.1 S.2.1 dCatalog_is_2 rfl (fun hc => ?_) (fun hc => ?_)
  · have hw := hw.1 hc
    refine lv_iload_n S.1 S.2.1 dCatalog_is_7 rfl (lv_at hl 1 rfl) ?_
    refine lv_istore_n (lv' := [(3, .int x1), (0, .ref (ad 1)), (1, .int x1), (2, .int x2)]) S.1 S.2.1 dCatalog_is_8 rfl hl (by decide) rfl (fun ls hl => ?_)
    refine lv_iconst (v := 0) S.1 S.2.1 dCatalog_is_9 (by decide) ?_
    refine lv_istore (lv' := [(4, .int 0), (3, .int x1), (0, .ref (ad 1)), (1, .int x1), (2, .int x2)]) S.1 S.2.1 dCatalog_is_10 hl (by decide) rfl (fun ls hl => ?_)
    obtain ⟨fu, hw⟩ := hw
    exact J12 fu _ _ _ _ _ _ _ hw (lv_sub hl [2, 4, 1, 0] rfl) hP hS
  · have hw := hw.2 hc
    refine lv_iconst (v := 1) S.1 S.2.1 dCatalog_is_5 (by decide) ?_
    exact zr_iret S hr hlk hK hP hS rfl hw dCatalog_is_6
/-! Catalog.addClass -/
theorem dCatalog_addClass_0 : decode bCatalog_addClass 0 = .ok (.aload_n 0, 1) := by decide +kernel
theorem dCatalog_addClass_1 : decode bCatalog_addClass 1 = .ok (.getfield 33, 3) := by decide +kernel
theorem dCatalog_addClass_4 : decode bCatalog_addClass 4 = .ok (.iconst 4, 1) := by decide +kernel
theorem dCatalog_addClass_5 : decode bCatalog_addClass 5 = .ok (.if_icmp .ge 10, 3) := by decide +kernel
theorem dCatalog_addClass_8 : decode bCatalog_addClass 8 = .ok (.aload_n 0, 1) := by decide +kernel
theorem dCatalog_addClass_9 : decode bCatalog_addClass 9 = .ok (.getfield 37, 3) := by decide +kernel
theorem dCatalog_addClass_12 : decode bCatalog_addClass 12 = .ok (.ifCond .le 7, 3) := by decide +kernel
theorem dCatalog_addClass_15 : decode bCatalog_addClass 15 = .ok (.iconst 1, 1) := by decide +kernel
theorem dCatalog_addClass_16 : decode bCatalog_addClass 16 = .ok (.goto 4, 3) := by decide +kernel
theorem dCatalog_addClass_19 : decode bCatalog_addClass 19 = .ok (.iconst 0, 1) := by decide +kernel
theorem dCatalog_addClass_20 : decode bCatalog_addClass 20 = .ok (.istore 4, 2) := by decide +kernel
theorem dCatalog_addClass_22 : decode bCatalog_addClass 22 = .ok (.iload 4, 2) := by decide +kernel
theorem dCatalog_addClass_24 : decode bCatalog_addClass 24 = .ok (.ifCond .ne 15, 3) := by decide +kernel
theorem dCatalog_addClass_27 : decode bCatalog_addClass 27 = .ok (.iload_n 1, 1) := by decide +kernel
theorem dCatalog_addClass_28 : decode bCatalog_addClass 28 = .ok (.ifCond .eq 13, 3) := by decide +kernel
theorem dCatalog_addClass_31 : decode bCatalog_addClass 31 = .ok (.aload_n 0, 1) := by decide +kernel
theorem dCatalog_addClass_32 : decode bCatalog_addClass 32 = .ok (.iload_n 1, 1) := by decide +kernel
theorem dCatalog_addClass_33 : decode bCatalog_addClass 33 = .ok (.invokevirtual 40, 3) := by decide +kernel
theorem dCatalog_addClass_36 : decode bCatalog_addClass 36 = .ok (.ifCond .ne 5, 3) := by decide +kernel
theorem dCatalog_addClass_39 : decode bCatalog_addClass 39 = .ok (.iconst (-1), 1) := by decide +kernel
theorem dCatalog_addClass_40 : decode bCatalog_addClass 40 = .ok (.ireturn, 1) := by decide +kernel
theorem dCatalog_addClass_41 : decode bCatalog_addClass 41 = .ok (.iload_n 2, 1) := by decide +kernel
theorem dCatalog_addClass_42 : decode bCatalog_addClass 42 = .ok (.ifCond .lt 17, 3) := by decide +kernel
theorem dCatalog_addClass_45 : decode bCatalog_addClass 45 = .ok (.iload_n 2, 1) := by decide +kernel
theorem dCatalog_addClass_46 : decode bCatalog_addClass 46 = .ok (.iconst 4, 1) := by decide +kernel
theorem dCatalog_addClass_47 : decode bCatalog_addClass 47 = .ok (.if_icmp .gt 12, 3) := by decide +kernel
theorem dCatalog_addClass_50 : decode bCatalog_addClass 50 = .ok (.iload_n 3, 1) := by decide +kernel
theorem dCatalog_addClass_51 : decode bCatalog_addClass 51 = .ok (.ifCond .lt 8, 3) := by decide +kernel
theorem dCatalog_addClass_54 : decode bCatalog_addClass 54 = .ok (.iload_n 3, 1) := by decide +kernel
theorem dCatalog_addClass_55 : decode bCatalog_addClass 55 = .ok (.iconst 3, 1) := by decide +kernel
theorem dCatalog_addClass_56 : decode bCatalog_addClass 56 = .ok (.if_icmp .le 5, 3) := by decide +kernel
theorem dCatalog_addClass_59 : decode bCatalog_addClass 59 = .ok (.iconst (-1), 1) := by decide +kernel
theorem dCatalog_addClass_60 : decode bCatalog_addClass 60 = .ok (.ireturn, 1) := by decide +kernel
theorem dCatalog_addClass_61 : decode bCatalog_addClass 61 = .ok (.aload_n 0, 1) := by decide +kernel
theorem dCatalog_addClass_62 : decode bCatalog_addClass 62 = .ok (.dup, 1) := by decide +kernel
theorem dCatalog_addClass_63 : decode bCatalog_addClass 63 = .ok (.getfield 33, 3) := by decide +kernel
theorem dCatalog_addClass_66 : decode bCatalog_addClass 66 = .ok (.iconst 1, 1) := by decide +kernel
theorem dCatalog_addClass_67 : decode bCatalog_addClass 67 = .ok (.iadd, 1) := by decide +kernel
theorem dCatalog_addClass_68 : decode bCatalog_addClass 68 = .ok (.putfield 33, 3) := by decide +kernel
theorem dCatalog_addClass_71 : decode bCatalog_addClass 71 = .ok (.aload_n 0, 1) := by decide +kernel
theorem dCatalog_addClass_72 : decode bCatalog_addClass 72 = .ok (.getfield 9, 3) := by decide +kernel
theorem dCatalog_addClass_75 : decode bCatalog_addClass 75 = .ok (.aload_n 0, 1) := by decide +kernel
theorem dCatalog_addClass_76 : decode bCatalog_addClass 76 = .ok (.getfield 33, 3) := by decide +kernel
theorem dCatalog_addClass_79 : decode bCatalog_addClass 79 = .ok (.iload_n 1, 1) := by decide +kernel
theorem dCatalog_addClass_80 : decode bCatalog_addClass 80 = .ok (.iastore, 1) := by decide +kernel
theorem dCatalog_addClass_81 : decode bCatalog_addClass 81 = .ok (.aload_n 0, 1) := by decide +kernel
theorem dCatalog_addClass_82 : decode bCatalog_addClass 82 = .ok (.getfield 15, 3) := by decide +kernel
theorem dCatalog_addClass_85 : decode bCatalog_addClass 85 = .ok (.aload_n 0, 1) := by decide +kernel
theorem dCatalog_addClass_86 : decode bCatalog_addClass 86 = .ok (.getfield 33, 3) := by decide +kernel
theorem dCatalog_addClass_89 : decode bCatalog_addClass 89 = .ok (.iload_n 2, 1) := by decide +kernel
theorem dCatalog_addClass_90 : decode bCatalog_addClass 90 = .ok (.iastore, 1) := by decide +kernel
theorem dCatalog_addClass_91 : decode bCatalog_addClass 91 = .ok (.aload_n 0, 1) := by decide +kernel
theorem dCatalog_addClass_92 : decode bCatalog_addClass 92 = .ok (.getfield 18, 3) := by decide +kernel
theorem dCatalog_addClass_95 : decode bCatalog_addClass 95 = .ok (.aload_n 0, 1) := by decide +kernel
theorem dCatalog_addClass_96 : decode bCatalog_addClass 96 = .ok (.getfield 33, 3) := by decide +kernel
theorem dCatalog_addClass_99 : decode bCatalog_addClass 99 = .ok (.iload_n 3, 1) := by decide +kernel
theorem dCatalog_addClass_100 : decode bCatalog_addClass 100 = .ok (.iastore, 1) := by decide +kernel
theorem dCatalog_addClass_101 : decode bCatalog_addClass 101 = .ok (.aload_n 0, 1) := by decide +kernel
theorem dCatalog_addClass_102 : decode bCatalog_addClass 102 = .ok (.getfield 33, 3) := by decide +kernel
theorem dCatalog_addClass_105 : decode bCatalog_addClass 105 = .ok (.ireturn, 1) := by decide +kernel
def wbCatalog_addClass_41 (n : Nat) (ln : Nat → Nat) (post : Int32 → zM → Prop) (v1 : Int32) (v2 : Int32) (v3 : Int32) (h : zM) : Prop := (((v2 < 0) → post (-1) h) ∧ (¬ (v2 < 0) → (((4 < v2) → post (-1) h) ∧ (¬ (4 < v2) → (((v3 < 0) → post (-1) h) ∧ (¬ (v3 < 0) → (((v3 ≤ 3) → ∀ h68 : zM, h68 = zu h 1 0 ((h 1 0) + 1) → (vp_in (h68 1 0) 5 ∧ ∀ h80 : zM, h80 = zu h68 2 (Int32.toNatClampNeg (h68 1 0)) v1 → (vp_in (h80 1 0) 5 ∧ ∀ h90 : zM, h90 = zu h80 3 (Int32.toNatClampNeg (h80 1 0)) v2 → (vp_in (h90 1 0) 5 ∧ ∀ h100 : zM, h100 = zu h90 4 (Int32.toNatClampNeg (h90 1 0)) v3 → post (h100 1 0) h100)))) ∧ (¬ (v3 ≤ 3) → post (-1) h))))))))
def wbCatalog_addClass_20 (n : Nat) (ln : Nat → Nat) (post : Int32 → zM → Prop) (v1 : Int32) (v2 : Int32) (v3 : Int32) (k0 : Int32) (h : zM) : Prop := ((¬ k0 = 0 → post (-1) h) ∧ (k0 = 0 → ((v1 = 0 → wbCatalog_addClass_41 n ln post v1 v2 v3 h) ∧ (¬ v1 = 0 → wpCatalog_isClass n ln v1 h (fun r33 h33 => ((¬ r33 = 0 → wbCatalog_addClass_41 n ln post v1 v2 v3 h33) ∧ (r33 = 0 → post (-1) h33)))))))
def wbCatalog_addClass_15 (n : Nat) (ln : Nat → Nat) (post : Int32 → zM → Prop) (v1 : Int32) (v2 : Int32) (v3 : Int32) (h : zM) : Prop := wbCatalog_addClass_20 n ln post v1 v2 v3 1 h
def wpCatalog_addClass (n : Nat) (ln : Nat → Nat) (x1 : Int32) (x2 : Int32) (x3 : Int32) (h : zM) (post : Int32 → zM → Prop) : Prop := (((4 ≤ (h 1 0)) → wbCatalog_addClass_15 n ln post x1 x2 x3 h) ∧ (¬ (4 ≤ (h 1 0)) → ((((h 1 1) ≤ 0) → wbCatalog_addClass_20 n ln post x1 x2 x3 0 h) ∧ (¬ ((h 1 1) ≤ 0) → wbCatalog_addClass_15 n ln post x1 x2 x3 h))))
abbrev rmCatalog_addClass : Room := { frames := 1, cells := 0, slots := 0, locals := 21 }
set_option maxHeartbeats 4000000 in
set_option maxRecDepth 100000 in
theorem cCatalog_addClass (l : Launch) (D : va_G) (cI cC cE : ClassId) (ad : Nat → Nat) (n : Nat) (ln : Nat → Nat) (A : Nat → Prop) (hJ : zJ A (34 + 4 * n) ad) (x1 : Int32) (x2 : Int32) (x3 : Int32) (h : zM) (post : Int32 → zM → Prop) (hw : wpCatalog_addClass n ln x1 x2 x3 h post) : Met l yCatalog_addClass (.code yCatalog_addClass bCatalog_addClass 5 (some .int) :: zt) rmCatalog_addClass (va_Pc [.ref (ad 1), .int x1, .int x2, .int x3] (zPre D (zty cI cC cE) (34 + 4 * n) ad (zF ad cI cC cE n ln) A h)) (va_Qi post (zPst D (zty cI cC cE) (34 + 4 * n) ad (zF ad cI cC cE n ln)) A) 0 0 A := by
  refine Met.ofW (cc := bCatalog_addClass) (maxL := 5) (ret := (some .int)) (by decide) rfl ?_
  intro p e s m args below meth c s₁ B hml hv
  obtain ⟨rfl, hP, hK, hT, hN⟩ := hv
  have hr := B.returns
  have hlk := B.notSynchronized
  have S : zS p m c bCatalog_addClass 5 s _ "CallExplorer$Catalog" := ⟨B.exec, B.bytes, hml, findClass_of_methodNamed B.named, fun w hw => atoms_spec (ws := .code yCatalog_addClass bCatalog_addClass 5 (some .int) :: zt) B.pre w (List.mem_cons_of_mem _ hw)⟩
  have hS : va_S A s.heap s.heap [] := va_S.rf
  have hl := lv_entry ([.ref (ad 1), .int x1, .int x2, .int x3]) (n := 5) (Nat.le_of_ble_eq_true rfl)
  rw [lg_entry_eq]
  generalize (lg_sl ([.ref (ad 1), .int x1, .int x2, .int x3]) ++ List.replicate (5 - (lg_sl ([.ref (ad 1), .int x1, .int x2, .int x3])).length) Slot.unset).toArray = ls at hl ⊢
  have hl : lv_has ls 5 [(0, .ref (ad 1)), (1, .int x1), (2, .int x2), (3, .int x3)] := hl
  show W p l e rmCatalog_addClass s m ([.ref (ad 1), .int x1, .int x2, .int x3] : List Value).toArray below meth c s.heap [] 0 0 (zQi post D (zty cI cC cE) (34 + 4 * n) ad (zF ad cI cC cE n ln) A below ([.ref (ad 1), .int x1, .int x2, .int x3] : List Value).toArray s) _
  have J41 : ∀ (v1 : Int32) (v2 : Int32) (v3 : Int32) (h : zM) (H : Heap) (locs : List Loc) (ls : Array Slot), wbCatalog_addClass_41 n ln post v1 v2 v3 h → lv_has ls 5 [(0, .ref (ad 1)), (1, .int v1), (2, .int v2), (3, .int v3)] → va_P D zcl (zW (34 + 4 * n) ad (zF ad cI cC cE n ln) h) H → va_S A s.heap H locs → W p l e rmCatalog_addClass s m ([.ref (ad 1), .int x1, .int x2, .int x3] : List Value).toArray below meth c H locs 0 0 (zQi post D (zty cI cC cE) (34 + 4 * n) ad (zF ad cI cC cE n ln) A below ([.ref (ad 1), .int x1, .int x2, .int x3] : List Value).toArray s) (F0 m 41 ls []) := by
    intro v1 v2 v3 h H locs ls hw hl hP hS
    unfold wbCatalog_addClass_41 at hw
    refine lv_iload_n S.1 S.2.1 dCatalog_addClass_41 rfl (lv_at hl 2 rfl) ?_
    refine lv_if_lt S.1 S.2.1 dCatalog_addClass_42 rfl (fun hc => ?_) (fun hc => ?_)
    · have hw := hw.1 hc
      refine lv_iconst (v := (-1)) S.1 S.2.1 dCatalog_addClass_59 (by decide) ?_
      exact zr_iret S hr hlk hK hP hS rfl hw dCatalog_addClass_60
    · have hw := hw.2 hc
      refine lv_iload_n S.1 S.2.1 dCatalog_addClass_45 rfl (lv_at hl 2 rfl) ?_
      refine lv_iconst (v := 4) S.1 S.2.1 dCatalog_addClass_46 (by decide) ?_
      refine lv_icmp_gt S.1 S.2.1 dCatalog_addClass_47 rfl (fun hc => ?_) (fun hc => ?_)
      · have hw := hw.1 hc
        refine lv_iconst (v := (-1)) S.1 S.2.1 dCatalog_addClass_59 (by decide) ?_
        exact zr_iret S hr hlk hK hP hS rfl hw dCatalog_addClass_60
      · have hw := hw.2 hc
        refine lv_iload_n S.1 S.2.1 dCatalog_addClass_50 rfl (lv_at hl 3 rfl) ?_
        refine lv_if_lt S.1 S.2.1 dCatalog_addClass_51 rfl (fun hc => ?_) (fun hc => ?_)
        · have hw := hw.1 hc
          refine lv_iconst (v := (-1)) S.1 S.2.1 dCatalog_addClass_59 (by decide) ?_
          exact zr_iret S hr hlk hK hP hS rfl hw dCatalog_addClass_60
        · have hw := hw.2 hc
          refine lv_iload_n S.1 S.2.1 dCatalog_addClass_54 rfl (lv_at hl 3 rfl) ?_
          refine lv_iconst (v := 3) S.1 S.2.1 dCatalog_addClass_55 (by decide) ?_
          refine lv_icmp_le S.1 S.2.1 dCatalog_addClass_56 rfl (fun hc => ?_) (fun hc => ?_)
          · have hw := hw.1 hc
            refine lv_aload_n S.1 S.2.1 dCatalog_addClass_61 rfl (lv_at hl 0 rfl) ?_
            refine lv_dup S.1 S.2.1 dCatalog_addClass_62 rfl ?_
            refine zr_get S hK hP (zk (by decide)) (zF_1 _) fCatalog_classes q30 rfl dCatalog_addClass_63 ?_
            refine lv_iconst (v := 1) S.1 S.2.1 dCatalog_addClass_66 (by decide) ?_
            refine lv_iadd S.1 S.2.1 dCatalog_addClass_67 ?_
            refine zr_put S hK hJ hP hS (zk (by decide)) (zF_1 _) fCatalog_classes q30 rfl rfl (Nat.le_of_ble_eq_true rfl) (zF_1 _) dCatalog_addClass_68 (fun h68 H locs e68 hP hS => ?_)
            have hw := hw h68 e68
            refine lv_aload_n S.1 S.2.1 dCatalog_addClass_71 rfl (lv_at hl 0 rfl) ?_
            refine zr_get S hK hP (zk (by decide)) (zF_1 _) fCatalog_parents q34 rfl dCatalog_addClass_72 ?_
            refine lv_aload_n S.1 S.2.1 dCatalog_addClass_75 rfl (lv_at hl 0 rfl) ?_
            refine zr_get S hK hP (zk (by decide)) (zF_1 _) fCatalog_classes q30 rfl dCatalog_addClass_76 ?_
            refine lv_iload_n S.1 S.2.1 dCatalog_addClass_79 rfl (lv_at hl 1 rfl) ?_
            obtain ⟨z80, hw⟩ := hw
            refine zr_ast S hK hJ hP hS (zk (by decide)) zF_2 0 rfl z80 dCatalog_addClass_80 (fun h80 H locs e80 hP hS => ?_)
            have hw := hw h80 e80
            refine lv_aload_n S.1 S.2.1 dCatalog_addClass_81 rfl (lv_at hl 0 rfl) ?_
            refine zr_get S hK hP (zk (by decide)) (zF_1 _) fCatalog_senses q35 rfl dCatalog_addClass_82 ?_
            refine lv_aload_n S.1 S.2.1 dCatalog_addClass_85 rfl (lv_at hl 0 rfl) ?_
            refine zr_get S hK hP (zk (by decide)) (zF_1 _) fCatalog_classes q30 rfl dCatalog_addClass_86 ?_
            refine lv_iload_n S.1 S.2.1 dCatalog_addClass_89 rfl (lv_at hl 2 rfl) ?_
            obtain ⟨z90, hw⟩ := hw
            refine zr_ast S hK hJ hP hS (zk (by decide)) zF_3 0 rfl z90 dCatalog_addClass_90 (fun h90 H locs e90 hP hS => ?_)
            have hw := hw h90 e90
            refine lv_aload_n S.1 S.2.1 dCatalog_addClass_91 rfl (lv_at hl 0 rfl) ?_
            refine zr_get S hK hP (zk (by decide)) (zF_1 _) fCatalog_marks q37 rfl dCatalog_addClass_92 ?_
            refine lv_aload_n S.1 S.2.1 dCatalog_addClass_95 rfl (lv_at hl 0 rfl) ?_
            refine zr_get S hK hP (zk (by decide)) (zF_1 _) fCatalog_classes q30 rfl dCatalog_addClass_96 ?_
            refine lv_iload_n S.1 S.2.1 dCatalog_addClass_99 rfl (lv_at hl 3 rfl) ?_
            obtain ⟨z100, hw⟩ := hw
            refine zr_ast S hK hJ hP hS (zk (by decide)) zF_4 0 rfl z100 dCatalog_addClass_100 (fun h100 H locs e100 hP hS => ?_)
            have hw := hw h100 e100
            refine lv_aload_n S.1 S.2.1 dCatalog_addClass_101 rfl (lv_at hl 0 rfl) ?_
            refine zr_get S hK hP (zk (by decide)) (zF_1 _) fCatalog_classes q30 rfl dCatalog_addClass_102 ?_
            exact zr_iret S hr hlk hK hP hS rfl hw dCatalog_addClass_105
          · have hw := hw.2 hc
            refine lv_iconst (v := (-1)) S.1 S.2.1 dCatalog_addClass_59 (by decide) ?_
            exact zr_iret S hr hlk hK hP hS rfl hw dCatalog_addClass_60
  have J20 : ∀ (v1 : Int32) (v2 : Int32) (v3 : Int32) (k0 : Int32) (h : zM) (H : Heap) (locs : List Loc) (ls : Array Slot), wbCatalog_addClass_20 n ln post v1 v2 v3 k0 h → lv_has ls 5 [(0, .ref (ad 1)), (1, .int v1), (2, .int v2), (3, .int v3)] → va_P D zcl (zW (34 + 4 * n) ad (zF ad cI cC cE n ln) h) H → va_S A s.heap H locs → W p l e rmCatalog_addClass s m ([.ref (ad 1), .int x1, .int x2, .int x3] : List Value).toArray below meth c H locs 0 0 (zQi post D (zty cI cC cE) (34 + 4 * n) ad (zF ad cI cC cE n ln) A below ([.ref (ad 1), .int x1, .int x2, .int x3] : List Value).toArray s) (F0 m 20 ls [.int k0]) := by
    intro v1 v2 v3 k0 h H locs ls hw hl hP hS
    unfold wbCatalog_addClass_20 at hw
    refine lv_istore (lv' := [(4, .int k0), (0, .ref (ad 1)), (1, .int v1), (2, .int v2), (3, .int v3)]) S.1 S.2.1 dCatalog_addClass_20 hl (by decide) rfl (fun ls hl => ?_)
    refine lv_iload S.1 S.2.1 dCatalog_addClass_22 (lv_at hl 0 rfl) ?_
    refine lv_if_ne S.1 S.2.1 dCatalog_addClass_24 rfl (fun hc => ?_) (fun hc => ?_)
    · have hw := hw.1 hc
      refine lv_iconst (v := (-1)) S.1 S.2.1 dCatalog_addClass_39 (by decide) ?_
      exact zr_iret S hr hlk hK hP hS rfl hw dCatalog_addClass_40
    · have hw := hw.2 hc
      refine lv_iload_n S.1 S.2.1 dCatalog_addClass_27 rfl (lv_at hl 2 rfl) ?_
      refine lv_if_eq S.1 S.2.1 dCatalog_addClass_28 rfl (fun hc => ?_) (fun hc => ?_)
      · have hw := hw.1 hc
        exact J41 _ _ _ _ _ _ _ hw (lv_sub hl [1, 2, 3, 4] rfl) hP hS
      · have hw := hw.2 hc
        refine lv_aload_n S.1 S.2.1 dCatalog_addClass_31 rfl (lv_at hl 1 rfl) ?_
        refine lv_iload_n S.1 S.2.1 dCatalog_addClass_32 rfl (lv_at hl 2 rfl) ?_
        refine zr_i (zr_V (As := [.int v1]) (rest := []) S hK hT hN hP hS (zk (by decide)) (zF_1 _) rfl (cCatalog_isClass l D cI cC cE ad n ln A hJ _ _ _ hw) caCatalog_40 ⟨Nat.le_of_ble_eq_true rfl, Nat.le_of_ble_eq_true rfl⟩ ⟨rfl, rfl⟩ rfl hl.1 rfl (Nat.le_of_ble_eq_true rfl) dCatalog_addClass_33) hS (fun r33 h33 H locs hw hP hS => ?_)
        refine lv_if_ne S.1 S.2.1 dCatalog_addClass_36 rfl (fun hc => ?_) (fun hc => ?_)
        · have hw := hw.1 hc
          exact J41 _ _ _ _ _ _ _ hw (lv_sub hl [1, 2, 3, 4] rfl) hP hS
        · have hw := hw.2 hc
          refine lv_iconst (v := (-1)) S.1 S.2.1 dCatalog_addClass_39 (by decide) ?_
          exact zr_iret S hr hlk hK hP hS rfl hw dCatalog_addClass_40
  have J15 : ∀ (v1 : Int32) (v2 : Int32) (v3 : Int32) (h : zM) (H : Heap) (locs : List Loc) (ls : Array Slot), wbCatalog_addClass_15 n ln post v1 v2 v3 h → lv_has ls 5 [(0, .ref (ad 1)), (1, .int v1), (2, .int v2), (3, .int v3)] → va_P D zcl (zW (34 + 4 * n) ad (zF ad cI cC cE n ln) h) H → va_S A s.heap H locs → W p l e rmCatalog_addClass s m ([.ref (ad 1), .int x1, .int x2, .int x3] : List Value).toArray below meth c H locs 0 0 (zQi post D (zty cI cC cE) (34 + 4 * n) ad (zF ad cI cC cE n ln) A below ([.ref (ad 1), .int x1, .int x2, .int x3] : List Value).toArray s) (F0 m 15 ls []) := by
    intro v1 v2 v3 h H locs ls hw hl hP hS
    unfold wbCatalog_addClass_15 at hw
    refine lv_iconst (v := 1) S.1 S.2.1 dCatalog_addClass_15 (by decide) ?_
    refine lv_goto S.1 S.2.1 dCatalog_addClass_16 rfl ?_
    exact J20 _ _ _ _ _ _ _ _ hw (lv_sub hl [0, 1, 2, 3] rfl) hP hS
  unfold wpCatalog_addClass at hw
  refine lv_aload_n S.1 S.2.1 dCatalog_addClass_0 rfl (lv_at hl 0 rfl) ?_
  refine zr_get S hK hP (zk (by decide)) (zF_1 _) fCatalog_classes q30 rfl dCatalog_addClass_1 ?_
  refine lv_iconst (v := 4) S.1 S.2.1 dCatalog_addClass_4 (by decide) ?_
  refine lv_icmp_ge S.1 S.2.1 dCatalog_addClass_5 rfl (fun hc => ?_) (fun hc => ?_)
  · have hw := hw.1 hc
    exact J15 _ _ _ _ _ _ _ hw (lv_sub hl [0, 1, 2, 3] rfl) hP hS
  · have hw := hw.2 hc
    refine lv_aload_n S.1 S.2.1 dCatalog_addClass_8 rfl (lv_at hl 0 rfl) ?_
    refine zr_get S hK hP (zk (by decide)) (zF_1 _) fCatalog_operations q31 rfl dCatalog_addClass_9 ?_
    refine lv_if_le S.1 S.2.1 dCatalog_addClass_12 rfl (fun hc => ?_) (fun hc => ?_)
    · have hw := hw.1 hc
      refine lv_iconst (v := 0) S.1 S.2.1 dCatalog_addClass_19 (by decide) ?_
      exact J20 _ _ _ _ _ _ _ _ hw (lv_sub hl [0, 1, 2, 3] rfl) hP hS
    · have hw := hw.2 hc
      exact J15 _ _ _ _ _ _ _ hw (lv_sub hl [0, 1, 2, 3] rfl) hP hS
/-! Catalog.addOperation -/
theorem dCatalog_addOperation_0 : decode bCatalog_addOperation 0 = .ok (.aload_n 0, 1) := by decide +kernel
theorem dCatalog_addOperation_1 : decode bCatalog_addOperation 1 = .ok (.getfield 37, 3) := by decide +kernel
theorem dCatalog_addOperation_4 : decode bCatalog_addOperation 4 = .ok (.bipush 10, 2) := by decide +kernel
theorem dCatalog_addOperation_6 : decode bCatalog_addOperation 6 = .ok (.if_icmp .ge 21, 3) := by decide +kernel
theorem dCatalog_addOperation_9 : decode bCatalog_addOperation 9 = .ok (.iload_n 1, 1) := by decide +kernel
theorem dCatalog_addOperation_10 : decode bCatalog_addOperation 10 = .ok (.ifCond .lt 17, 3) := by decide +kernel
theorem dCatalog_addOperation_13 : decode bCatalog_addOperation 13 = .ok (.iload_n 1, 1) := by decide +kernel
theorem dCatalog_addOperation_14 : decode bCatalog_addOperation 14 = .ok (.bipush 9, 2) := by decide +kernel
theorem dCatalog_addOperation_16 : decode bCatalog_addOperation 16 = .ok (.if_icmp .gt 11, 3) := by decide +kernel
theorem dCatalog_addOperation_19 : decode bCatalog_addOperation 19 = .ok (.aload_n 0, 1) := by decide +kernel
theorem dCatalog_addOperation_20 : decode bCatalog_addOperation 20 = .ok (.iload_n 2, 1) := by decide +kernel
theorem dCatalog_addOperation_21 : decode bCatalog_addOperation 21 = .ok (.invokevirtual 40, 3) := by decide +kernel
theorem dCatalog_addOperation_24 : decode bCatalog_addOperation 24 = .ok (.ifCond .ne 5, 3) := by decide +kernel
theorem dCatalog_addOperation_27 : decode bCatalog_addOperation 27 = .ok (.iconst (-1), 1) := by decide +kernel
theorem dCatalog_addOperation_28 : decode bCatalog_addOperation 28 = .ok (.ireturn, 1) := by decide +kernel
theorem dCatalog_addOperation_29 : decode bCatalog_addOperation 29 = .ok (.aload_n 0, 1) := by decide +kernel
theorem dCatalog_addOperation_30 : decode bCatalog_addOperation 30 = .ok (.iload_n 1, 1) := by decide +kernel
theorem dCatalog_addOperation_31 : decode bCatalog_addOperation 31 = .ok (.invokevirtual 44, 3) := by decide +kernel
theorem dCatalog_addOperation_34 : decode bCatalog_addOperation 34 = .ok (.ifCond .eq 13, 3) := by decide +kernel
theorem dCatalog_addOperation_37 : decode bCatalog_addOperation 37 = .ok (.aload_n 0, 1) := by decide +kernel
theorem dCatalog_addOperation_38 : decode bCatalog_addOperation 38 = .ok (.iload_n 3, 1) := by decide +kernel
theorem dCatalog_addOperation_39 : decode bCatalog_addOperation 39 = .ok (.invokevirtual 40, 3) := by decide +kernel
theorem dCatalog_addOperation_42 : decode bCatalog_addOperation 42 = .ok (.ifCond .ne 5, 3) := by decide +kernel
theorem dCatalog_addOperation_45 : decode bCatalog_addOperation 45 = .ok (.iconst (-1), 1) := by decide +kernel
theorem dCatalog_addOperation_46 : decode bCatalog_addOperation 46 = .ok (.ireturn, 1) := by decide +kernel
theorem dCatalog_addOperation_47 : decode bCatalog_addOperation 47 = .ok (.aload_n 0, 1) := by decide +kernel
theorem dCatalog_addOperation_48 : decode bCatalog_addOperation 48 = .ok (.getfield 21, 3) := by decide +kernel
theorem dCatalog_addOperation_51 : decode bCatalog_addOperation 51 = .ok (.aload_n 0, 1) := by decide +kernel
theorem dCatalog_addOperation_52 : decode bCatalog_addOperation 52 = .ok (.getfield 37, 3) := by decide +kernel
theorem dCatalog_addOperation_55 : decode bCatalog_addOperation 55 = .ok (.iload_n 1, 1) := by decide +kernel
theorem dCatalog_addOperation_56 : decode bCatalog_addOperation 56 = .ok (.iastore, 1) := by decide +kernel
theorem dCatalog_addOperation_57 : decode bCatalog_addOperation 57 = .ok (.aload_n 0, 1) := by decide +kernel
theorem dCatalog_addOperation_58 : decode bCatalog_addOperation 58 = .ok (.getfield 24, 3) := by decide +kernel
theorem dCatalog_addOperation_61 : decode bCatalog_addOperation 61 = .ok (.aload_n 0, 1) := by decide +kernel
theorem dCatalog_addOperation_62 : decode bCatalog_addOperation 62 = .ok (.getfield 37, 3) := by decide +kernel
theorem dCatalog_addOperation_65 : decode bCatalog_addOperation 65 = .ok (.aload_n 0, 1) := by decide +kernel
theorem dCatalog_addOperation_66 : decode bCatalog_addOperation 66 = .ok (.getstatic 47, 3) := by decide +kernel
theorem dCatalog_addOperation_69 : decode bCatalog_addOperation 69 = .ok (.iload_n 1, 1) := by decide +kernel
theorem dCatalog_addOperation_70 : decode bCatalog_addOperation 70 = .ok (.iaload, 1) := by decide +kernel
theorem dCatalog_addOperation_71 : decode bCatalog_addOperation 71 = .ok (.iload_n 2, 1) := by decide +kernel
theorem dCatalog_addOperation_72 : decode bCatalog_addOperation 72 = .ok (.iload_n 3, 1) := by decide +kernel
theorem dCatalog_addOperation_73 : decode bCatalog_addOperation 73 = .ok (.invokevirtual 50, 3) := by decide +kernel
theorem dCatalog_addOperation_76 : decode bCatalog_addOperation 76 = .ok (.iastore, 1) := by decide +kernel
theorem dCatalog_addOperation_77 : decode bCatalog_addOperation 77 = .ok (.aload_n 0, 1) := by decide +kernel
theorem dCatalog_addOperation_78 : decode bCatalog_addOperation 78 = .ok (.getfield 27, 3) := by decide +kernel
theorem dCatalog_addOperation_81 : decode bCatalog_addOperation 81 = .ok (.aload_n 0, 1) := by decide +kernel
theorem dCatalog_addOperation_82 : decode bCatalog_addOperation 82 = .ok (.getfield 37, 3) := by decide +kernel
theorem dCatalog_addOperation_85 : decode bCatalog_addOperation 85 = .ok (.aload_n 0, 1) := by decide +kernel
theorem dCatalog_addOperation_86 : decode bCatalog_addOperation 86 = .ok (.getstatic 54, 3) := by decide +kernel
theorem dCatalog_addOperation_89 : decode bCatalog_addOperation 89 = .ok (.iload_n 1, 1) := by decide +kernel
theorem dCatalog_addOperation_90 : decode bCatalog_addOperation 90 = .ok (.iaload, 1) := by decide +kernel
theorem dCatalog_addOperation_91 : decode bCatalog_addOperation 91 = .ok (.iload_n 2, 1) := by decide +kernel
theorem dCatalog_addOperation_92 : decode bCatalog_addOperation 92 = .ok (.iload_n 3, 1) := by decide +kernel
theorem dCatalog_addOperation_93 : decode bCatalog_addOperation 93 = .ok (.invokevirtual 50, 3) := by decide +kernel
theorem dCatalog_addOperation_96 : decode bCatalog_addOperation 96 = .ok (.iastore, 1) := by decide +kernel
theorem dCatalog_addOperation_97 : decode bCatalog_addOperation 97 = .ok (.aload_n 0, 1) := by decide +kernel
theorem dCatalog_addOperation_98 : decode bCatalog_addOperation 98 = .ok (.getfield 30, 3) := by decide +kernel
theorem dCatalog_addOperation_101 : decode bCatalog_addOperation 101 = .ok (.aload_n 0, 1) := by decide +kernel
theorem dCatalog_addOperation_102 : decode bCatalog_addOperation 102 = .ok (.getfield 37, 3) := by decide +kernel
theorem dCatalog_addOperation_105 : decode bCatalog_addOperation 105 = .ok (.aload_n 0, 1) := by decide +kernel
theorem dCatalog_addOperation_106 : decode bCatalog_addOperation 106 = .ok (.getstatic 57, 3) := by decide +kernel
theorem dCatalog_addOperation_109 : decode bCatalog_addOperation 109 = .ok (.iload_n 1, 1) := by decide +kernel
theorem dCatalog_addOperation_110 : decode bCatalog_addOperation 110 = .ok (.iaload, 1) := by decide +kernel
theorem dCatalog_addOperation_111 : decode bCatalog_addOperation 111 = .ok (.iload_n 2, 1) := by decide +kernel
theorem dCatalog_addOperation_112 : decode bCatalog_addOperation 112 = .ok (.iload_n 3, 1) := by decide +kernel
theorem dCatalog_addOperation_113 : decode bCatalog_addOperation 113 = .ok (.invokevirtual 50, 3) := by decide +kernel
theorem dCatalog_addOperation_116 : decode bCatalog_addOperation 116 = .ok (.iastore, 1) := by decide +kernel
theorem dCatalog_addOperation_117 : decode bCatalog_addOperation 117 = .ok (.aload_n 0, 1) := by decide +kernel
theorem dCatalog_addOperation_118 : decode bCatalog_addOperation 118 = .ok (.dup, 1) := by decide +kernel
theorem dCatalog_addOperation_119 : decode bCatalog_addOperation 119 = .ok (.getfield 37, 3) := by decide +kernel
theorem dCatalog_addOperation_122 : decode bCatalog_addOperation 122 = .ok (.iconst 1, 1) := by decide +kernel
theorem dCatalog_addOperation_123 : decode bCatalog_addOperation 123 = .ok (.iadd, 1) := by decide +kernel
theorem dCatalog_addOperation_124 : decode bCatalog_addOperation 124 = .ok (.putfield 37, 3) := by decide +kernel
theorem dCatalog_addOperation_127 : decode bCatalog_addOperation 127 = .ok (.aload_n 0, 1) := by decide +kernel
theorem dCatalog_addOperation_128 : decode bCatalog_addOperation 128 = .ok (.getfield 37, 3) := by decide +kernel
theorem dCatalog_addOperation_131 : decode bCatalog_addOperation 131 = .ok (.iconst 1, 1) := by decide +kernel
theorem dCatalog_addOperation_132 : decode bCatalog_addOperation 132 = .ok (.isub, 1) := by decide +kernel
theorem dCatalog_addOperation_133 : decode bCatalog_addOperation 133 = .ok (.ireturn, 1) := by decide +kernel
def wbCatalog_addOperation_47 (n : Nat) (ln : Nat → Nat) (post : Int32 → zM → Prop) (v1 : Int32) (v2 : Int32) (v3 : Int32) (h : zM) : Prop := (vp_in (h 1 1) 10 ∧ ∀ h56 : zM, h56 = zu h 5 (Int32.toNatClampNeg (h 1 1)) v1 → (vp_in v1 10 ∧ wpCatalog_typeOf n ln (zt1 (Int32.toNatClampNeg v1)) v2 v3 h56 (fun r73 h73 => (vp_in (h56 1 1) 10 ∧ ∀ h76 : zM, h76 = zu h73 6 (Int32.toNatClampNeg (h56 1 1)) r73 → (vp_in v1 10 ∧ wpCatalog_typeOf n ln (zt2 (Int32.toNatClampNeg v1)) v2 v3 h76 (fun r93 h93 => (vp_in (h76 1 1) 10 ∧ ∀ h96 : zM, h96 = zu h93 7 (Int32.toNatClampNeg (h76 1 1)) r93 → (vp_in v1 10 ∧ wpCatalog_typeOf n ln (zt3 (Int32.toNatClampNeg v1)) v2 v3 h96 (fun r113 h113 => (vp_in (h96 1 1) 10 ∧ ∀ h116 : zM, h116 = zu h113 8 (Int32.toNatClampNeg (h96 1 1)) r113 → ∀ h124 : zM, h124 = zu h116 1 1 ((h116 1 1) + 1) → post ((h124 1 1) - 1) h124))))))))))
def wpCatalog_addOperation (n : Nat) (ln : Nat → Nat) (x1 : Int32) (x2 : Int32) (x3 : Int32) (h : zM) (post : Int32 → zM → Prop) : Prop := (((10 ≤ (h 1 1)) → post (-1) h) ∧ (¬ (10 ≤ (h 1 1)) → (((x1 < 0) → post (-1) h) ∧ (¬ (x1 < 0) → (((9 < x1) → post (-1) h) ∧ (¬ (9 < x1) → wpCatalog_isClass n ln x2 h (fun r21 h21 => ((¬ r21 = 0 → wpCatalog_hasPartner n ln x1 h21 (fun r31 h31 => ((r31 = 0 → wbCatalog_addOperation_47 n ln post x1 x2 x3 h31) ∧ (¬ r31 = 0 → wpCatalog_isClass n ln x3 h31 (fun r39 h39 => ((¬ r39 = 0 → wbCatalog_addOperation_47 n ln post x1 x2 x3 h39) ∧ (r39 = 0 → post (-1) h39))))))) ∧ (r21 = 0 → post (-1) h21)))))))))
abbrev rmCatalog_addOperation : Room := { frames := 1, cells := 0, slots := 0, locals := 23 }
set_option maxHeartbeats 4000000 in
set_option maxRecDepth 100000 in
theorem cCatalog_addOperation (l : Launch) (D : va_G) (cI cC cE : ClassId) (ad : Nat → Nat) (n : Nat) (ln : Nat → Nat) (A : Nat → Prop) (hJ : zJ A (34 + 4 * n) ad) (x1 : Int32) (x2 : Int32) (x3 : Int32) (h : zM) (post : Int32 → zM → Prop) (hw : wpCatalog_addOperation n ln x1 x2 x3 h post) : Met l yCatalog_addOperation (.code yCatalog_addOperation bCatalog_addOperation 4 (some .int) :: zt) rmCatalog_addOperation (va_Pc [.ref (ad 1), .int x1, .int x2, .int x3] (zPre D (zty cI cC cE) (34 + 4 * n) ad (zF ad cI cC cE n ln) A h)) (va_Qi post (zPst D (zty cI cC cE) (34 + 4 * n) ad (zF ad cI cC cE n ln)) A) 0 0 A := by
  refine Met.ofW (cc := bCatalog_addOperation) (maxL := 4) (ret := (some .int)) (by decide) rfl ?_
  intro p e s m args below meth c s₁ B hml hv
  obtain ⟨rfl, hP, hK, hT, hN⟩ := hv
  have hr := B.returns
  have hlk := B.notSynchronized
  have S : zS p m c bCatalog_addOperation 4 s _ "CallExplorer$Catalog" := ⟨B.exec, B.bytes, hml, findClass_of_methodNamed B.named, fun w hw => atoms_spec (ws := .code yCatalog_addOperation bCatalog_addOperation 4 (some .int) :: zt) B.pre w (List.mem_cons_of_mem _ hw)⟩
  have hS : va_S A s.heap s.heap [] := va_S.rf
  obtain ⟨⟨t1, hZ1, hT1⟩, ⟨t2, hZ2, hT2⟩, ⟨t3, hZ3, hT3⟩, -⟩ := id hT
  have hl := lv_entry ([.ref (ad 1), .int x1, .int x2, .int x3]) (n := 4) (Nat.le_of_ble_eq_true rfl)
  rw [lg_entry_eq]
  generalize (lg_sl ([.ref (ad 1), .int x1, .int x2, .int x3]) ++ List.replicate (4 - (lg_sl ([.ref (ad 1), .int x1, .int x2, .int x3])).length) Slot.unset).toArray = ls at hl ⊢
  have hl : lv_has ls 4 [(0, .ref (ad 1)), (1, .int x1), (2, .int x2), (3, .int x3)] := hl
  show W p l e rmCatalog_addOperation s m ([.ref (ad 1), .int x1, .int x2, .int x3] : List Value).toArray below meth c s.heap [] 0 0 (zQi post D (zty cI cC cE) (34 + 4 * n) ad (zF ad cI cC cE n ln) A below ([.ref (ad 1), .int x1, .int x2, .int x3] : List Value).toArray s) _
  have J47 : ∀ (v1 : Int32) (v2 : Int32) (v3 : Int32) (h : zM) (H : Heap) (locs : List Loc) (ls : Array Slot), wbCatalog_addOperation_47 n ln post v1 v2 v3 h → lv_has ls 4 [(0, .ref (ad 1)), (1, .int v1), (2, .int v2), (3, .int v3)] → va_P D zcl (zW (34 + 4 * n) ad (zF ad cI cC cE n ln) h) H → va_S A s.heap H locs → W p l e rmCatalog_addOperation s m ([.ref (ad 1), .int x1, .int x2, .int x3] : List Value).toArray below meth c H locs 0 0 (zQi post D (zty cI cC cE) (34 + 4 * n) ad (zF ad cI cC cE n ln) A below ([.ref (ad 1), .int x1, .int x2, .int x3] : List Value).toArray s) (F0 m 47 ls []) := by
    intro v1 v2 v3 h H locs ls hw hl hP hS
    unfold wbCatalog_addOperation_47 at hw
    refine lv_aload_n S.1 S.2.1 dCatalog_addOperation_47 rfl (lv_at hl 0 rfl) ?_
    refine zr_get S hK hP (zk (by decide)) (zF_1 _) fCatalog_kinds q39 rfl dCatalog_addOperation_48 ?_
    refine lv_aload_n S.1 S.2.1 dCatalog_addOperation_51 rfl (lv_at hl 0 rfl) ?_
    refine zr_get S hK hP (zk (by decide)) (zF_1 _) fCatalog_operations q31 rfl dCatalog_addOperation_52 ?_
    refine lv_iload_n S.1 S.2.1 dCatalog_addOperation_55 rfl (lv_at hl 1 rfl) ?_
    obtain ⟨z56, hw⟩ := hw
    refine zr_ast S hK hJ hP hS (zk (by decide)) zF_5 0 rfl z56 dCatalog_addOperation_56 (fun h56 H locs e56 hP hS => ?_)
    have hw := hw h56 e56
    refine lv_aload_n S.1 S.2.1 dCatalog_addOperation_57 rfl (lv_at hl 0 rfl) ?_
    refine zr_get S hK hP (zk (by decide)) (zF_1 _) fCatalog_firstTypes q41 rfl dCatalog_addOperation_58 ?_
    refine lv_aload_n S.1 S.2.1 dCatalog_addOperation_61 rfl (lv_at hl 0 rfl) ?_
    refine zr_get S hK hP (zk (by decide)) (zF_1 _) fCatalog_operations q31 rfl dCatalog_addOperation_62 ?_
    refine lv_aload_n S.1 S.2.1 dCatalog_addOperation_65 rfl (lv_at hl 0 rfl) ?_
    refine zr_gets S hN hS hZ1 (by decide) dCatalog_addOperation_66 ?_
    refine lv_iload_n S.1 S.2.1 dCatalog_addOperation_69 rfl (lv_at hl 1 rfl) ?_
    obtain ⟨z70, hw⟩ := hw
    refine zr_tld S hS hT1 z70 dCatalog_addOperation_70 ?_
    refine lv_iload_n S.1 S.2.1 dCatalog_addOperation_71 rfl (lv_at hl 2 rfl) ?_
    refine lv_iload_n S.1 S.2.1 dCatalog_addOperation_72 rfl (lv_at hl 3 rfl) ?_
    refine zr_i (zr_V (As := [.int (zt1 (Int32.toNatClampNeg v1)), .int v2, .int v3]) (rest := [.int (h56 1 1), .ref (ad 6)]) S hK hT hN hP hS (zk (by decide)) (zF_1 _) rfl (cCatalog_typeOf l D cI cC cE ad n ln A hJ _ _ _ _ _ hw) caCatalog_50 ⟨Nat.le_of_ble_eq_true rfl, Nat.le_of_ble_eq_true rfl⟩ ⟨rfl, rfl⟩ rfl hl.1 rfl (Nat.le_of_ble_eq_true rfl) dCatalog_addOperation_73) hS (fun r73 h73 H locs hw hP hS => ?_)
    obtain ⟨z76, hw⟩ := hw
    refine zr_ast S hK hJ hP hS (zk (by decide)) zF_6 0 rfl z76 dCatalog_addOperation_76 (fun h76 H locs e76 hP hS => ?_)
    have hw := hw h76 e76
    refine lv_aload_n S.1 S.2.1 dCatalog_addOperation_77 rfl (lv_at hl 0 rfl) ?_
    refine zr_get S hK hP (zk (by decide)) (zF_1 _) fCatalog_secondTypes q42 rfl dCatalog_addOperation_78 ?_
    refine lv_aload_n S.1 S.2.1 dCatalog_addOperation_81 rfl (lv_at hl 0 rfl) ?_
    refine zr_get S hK hP (zk (by decide)) (zF_1 _) fCatalog_operations q31 rfl dCatalog_addOperation_82 ?_
    refine lv_aload_n S.1 S.2.1 dCatalog_addOperation_85 rfl (lv_at hl 0 rfl) ?_
    refine zr_gets S hN hS hZ2 (by decide) dCatalog_addOperation_86 ?_
    refine lv_iload_n S.1 S.2.1 dCatalog_addOperation_89 rfl (lv_at hl 1 rfl) ?_
    obtain ⟨z90, hw⟩ := hw
    refine zr_tld S hS hT2 z90 dCatalog_addOperation_90 ?_
    refine lv_iload_n S.1 S.2.1 dCatalog_addOperation_91 rfl (lv_at hl 2 rfl) ?_
    refine lv_iload_n S.1 S.2.1 dCatalog_addOperation_92 rfl (lv_at hl 3 rfl) ?_
    refine zr_i (zr_V (As := [.int (zt2 (Int32.toNatClampNeg v1)), .int v2, .int v3]) (rest := [.int (h76 1 1), .ref (ad 7)]) S hK hT hN hP hS (zk (by decide)) (zF_1 _) rfl (cCatalog_typeOf l D cI cC cE ad n ln A hJ _ _ _ _ _ hw) caCatalog_50 ⟨Nat.le_of_ble_eq_true rfl, Nat.le_of_ble_eq_true rfl⟩ ⟨rfl, rfl⟩ rfl hl.1 rfl (Nat.le_of_ble_eq_true rfl) dCatalog_addOperation_93) hS (fun r93 h93 H locs hw hP hS => ?_)
    obtain ⟨z96, hw⟩ := hw
    refine zr_ast S hK hJ hP hS (zk (by decide)) zF_7 0 rfl z96 dCatalog_addOperation_96 (fun h96 H locs e96 hP hS => ?_)
    have hw := hw h96 e96
    refine lv_aload_n S.1 S.2.1 dCatalog_addOperation_97 rfl (lv_at hl 0 rfl) ?_
    refine zr_get S hK hP (zk (by decide)) (zF_1 _) fCatalog_resultTypes q43 rfl dCatalog_addOperation_98 ?_
    refine lv_aload_n S.1 S.2.1 dCatalog_addOperation_101 rfl (lv_at hl 0 rfl) ?_
    refine zr_get S hK hP (zk (by decide)) (zF_1 _) fCatalog_operations q31 rfl dCatalog_addOperation_102 ?_
    refine lv_aload_n S.1 S.2.1 dCatalog_addOperation_105 rfl (lv_at hl 0 rfl) ?_
    refine zr_gets S hN hS hZ3 (by decide) dCatalog_addOperation_106 ?_
    refine lv_iload_n S.1 S.2.1 dCatalog_addOperation_109 rfl (lv_at hl 1 rfl) ?_
    obtain ⟨z110, hw⟩ := hw
    refine zr_tld S hS hT3 z110 dCatalog_addOperation_110 ?_
    refine lv_iload_n S.1 S.2.1 dCatalog_addOperation_111 rfl (lv_at hl 2 rfl) ?_
    refine lv_iload_n S.1 S.2.1 dCatalog_addOperation_112 rfl (lv_at hl 3 rfl) ?_
    refine zr_i (zr_V (As := [.int (zt3 (Int32.toNatClampNeg v1)), .int v2, .int v3]) (rest := [.int (h96 1 1), .ref (ad 8)]) S hK hT hN hP hS (zk (by decide)) (zF_1 _) rfl (cCatalog_typeOf l D cI cC cE ad n ln A hJ _ _ _ _ _ hw) caCatalog_50 ⟨Nat.le_of_ble_eq_true rfl, Nat.le_of_ble_eq_true rfl⟩ ⟨rfl, rfl⟩ rfl hl.1 rfl (Nat.le_of_ble_eq_true rfl) dCatalog_addOperation_113) hS (fun r113 h113 H locs hw hP hS => ?_)
    obtain ⟨z116, hw⟩ := hw
    refine zr_ast S hK hJ hP hS (zk (by decide)) zF_8 0 rfl z116 dCatalog_addOperation_116 (fun h116 H locs e116 hP hS => ?_)
    have hw := hw h116 e116
    refine lv_aload_n S.1 S.2.1 dCatalog_addOperation_117 rfl (lv_at hl 0 rfl) ?_
    refine lv_dup S.1 S.2.1 dCatalog_addOperation_118 rfl ?_
    refine zr_get S hK hP (zk (by decide)) (zF_1 _) fCatalog_operations q31 rfl dCatalog_addOperation_119 ?_
    refine lv_iconst (v := 1) S.1 S.2.1 dCatalog_addOperation_122 (by decide) ?_
    refine lv_iadd S.1 S.2.1 dCatalog_addOperation_123 ?_
    refine zr_put S hK hJ hP hS (zk (by decide)) (zF_1 _) fCatalog_operations q31 rfl rfl (Nat.le_of_ble_eq_true rfl) (zF_1 _) dCatalog_addOperation_124 (fun h124 H locs e124 hP hS => ?_)
    have hw := hw h124 e124
    refine lv_aload_n S.1 S.2.1 dCatalog_addOperation_127 rfl (lv_at hl 0 rfl) ?_
    refine zr_get S hK hP (zk (by decide)) (zF_1 _) fCatalog_operations q31 rfl dCatalog_addOperation_128 ?_
    refine lv_iconst (v := 1) S.1 S.2.1 dCatalog_addOperation_131 (by decide) ?_
    refine lv_isub S.1 S.2.1 dCatalog_addOperation_132 ?_
    exact zr_iret S hr hlk hK hP hS rfl hw dCatalog_addOperation_133
  unfold wpCatalog_addOperation at hw
  refine lv_aload_n S.1 S.2.1 dCatalog_addOperation_0 rfl (lv_at hl 0 rfl) ?_
  refine zr_get S hK hP (zk (by decide)) (zF_1 _) fCatalog_operations q31 rfl dCatalog_addOperation_1 ?_
  refine lv_bipush (v := 10) S.1 S.2.1 dCatalog_addOperation_4 (by decide) ?_
  refine lv_icmp_ge S.1 S.2.1 dCatalog_addOperation_6 rfl (fun hc => ?_) (fun hc => ?_)
  · have hw := hw.1 hc
    refine lv_iconst (v := (-1)) S.1 S.2.1 dCatalog_addOperation_27 (by decide) ?_
    exact zr_iret S hr hlk hK hP hS rfl hw dCatalog_addOperation_28
  · have hw := hw.2 hc
    refine lv_iload_n S.1 S.2.1 dCatalog_addOperation_9 rfl (lv_at hl 1 rfl) ?_
    refine lv_if_lt S.1 S.2.1 dCatalog_addOperation_10 rfl (fun hc => ?_) (fun hc => ?_)
    · have hw := hw.1 hc
      refine lv_iconst (v := (-1)) S.1 S.2.1 dCatalog_addOperation_27 (by decide) ?_
      exact zr_iret S hr hlk hK hP hS rfl hw dCatalog_addOperation_28
    · have hw := hw.2 hc
      refine lv_iload_n S.1 S.2.1 dCatalog_addOperation_13 rfl (lv_at hl 1 rfl) ?_
      refine lv_bipush (v := 9) S.1 S.2.1 dCatalog_addOperation_14 (by decide) ?_
      refine lv_icmp_gt S.1 S.2.1 dCatalog_addOperation_16 rfl (fun hc => ?_) (fun hc => ?_)
      · have hw := hw.1 hc
        refine lv_iconst (v := (-1)) S.1 S.2.1 dCatalog_addOperation_27 (by decide) ?_
        exact zr_iret S hr hlk hK hP hS rfl hw dCatalog_addOperation_28
      · have hw := hw.2 hc
        refine lv_aload_n S.1 S.2.1 dCatalog_addOperation_19 rfl (lv_at hl 0 rfl) ?_
        refine lv_iload_n S.1 S.2.1 dCatalog_addOperation_20 rfl (lv_at hl 2 rfl) ?_
        refine zr_i (zr_V (As := [.int x2]) (rest := []) S hK hT hN hP hS (zk (by decide)) (zF_1 _) rfl (cCatalog_isClass l D cI cC cE ad n ln A hJ _ _ _ hw) caCatalog_40 ⟨Nat.le_of_ble_eq_true rfl, Nat.le_of_ble_eq_true rfl⟩ ⟨rfl, rfl⟩ rfl hl.1 rfl (Nat.le_of_ble_eq_true rfl) dCatalog_addOperation_21) hS (fun r21 h21 H locs hw hP hS => ?_)
        refine lv_if_ne S.1 S.2.1 dCatalog_addOperation_24 rfl (fun hc => ?_) (fun hc => ?_)
        · have hw := hw.1 hc
          refine lv_aload_n S.1 S.2.1 dCatalog_addOperation_29 rfl (lv_at hl 0 rfl) ?_
          refine lv_iload_n S.1 S.2.1 dCatalog_addOperation_30 rfl (lv_at hl 1 rfl) ?_
          refine zr_i (zr_V (As := [.int x1]) (rest := []) S hK hT hN hP hS (zk (by decide)) (zF_1 _) rfl (cCatalog_hasPartner l D cI cC cE ad n ln A hJ _ _ _ hw) caCatalog_44 ⟨Nat.le_of_ble_eq_true rfl, Nat.le_of_ble_eq_true rfl⟩ ⟨rfl, rfl⟩ rfl hl.1 rfl (Nat.le_of_ble_eq_true rfl) dCatalog_addOperation_31) hS (fun r31 h31 H locs hw hP hS => ?_)
          refine lv_if_eq S.1 S.2.1 dCatalog_addOperation_34 rfl (fun hc => ?_) (fun hc => ?_)
          · have hw := hw.1 hc
            exact J47 _ _ _ _ _ _ _ hw (lv_sub hl [0, 1, 2, 3] rfl) hP hS
          · have hw := hw.2 hc
            refine lv_aload_n S.1 S.2.1 dCatalog_addOperation_37 rfl (lv_at hl 0 rfl) ?_
            refine lv_iload_n S.1 S.2.1 dCatalog_addOperation_38 rfl (lv_at hl 3 rfl) ?_
            refine zr_i (zr_V (As := [.int x3]) (rest := []) S hK hT hN hP hS (zk (by decide)) (zF_1 _) rfl (cCatalog_isClass l D cI cC cE ad n ln A hJ _ _ _ hw) caCatalog_40 ⟨Nat.le_of_ble_eq_true rfl, Nat.le_of_ble_eq_true rfl⟩ ⟨rfl, rfl⟩ rfl hl.1 rfl (Nat.le_of_ble_eq_true rfl) dCatalog_addOperation_39) hS (fun r39 h39 H locs hw hP hS => ?_)
            refine lv_if_ne S.1 S.2.1 dCatalog_addOperation_42 rfl (fun hc => ?_) (fun hc => ?_)
            · have hw := hw.1 hc
              exact J47 _ _ _ _ _ _ _ hw (lv_sub hl [0, 1, 2, 3] rfl) hP hS
            · have hw := hw.2 hc
              refine lv_iconst (v := (-1)) S.1 S.2.1 dCatalog_addOperation_45 (by decide) ?_
              exact zr_iret S hr hlk hK hP hS rfl hw dCatalog_addOperation_46
        · have hw := hw.2 hc
          refine lv_iconst (v := (-1)) S.1 S.2.1 dCatalog_addOperation_27 (by decide) ?_
          exact zr_iret S hr hlk hK hP hS rfl hw dCatalog_addOperation_28
