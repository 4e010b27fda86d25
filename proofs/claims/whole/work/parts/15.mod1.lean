/-! predicates and contracts, printed by wip/whole/gen -/
/-! Mod.type -/
theorem dMod_type_0 : decode bMod_type 0 = .ok (.aload_n 0, 1) := by decide +kernel
theorem dMod_type_1 : decode bMod_type 1 = .ok (.getfield 98, 3) := by decide +kernel
theorem dMod_type_4 : decode bMod_type 4 = .ok (.iconst 4, 1) := by decide +kernel
theorem dMod_type_5 : decode bMod_type 5 = .ok (.if_icmp .eq 40, 3) := by decide +kernel
theorem dMod_type_8 : decode bMod_type 8 = .ok (.aload_n 0, 1) := by decide +kernel
theorem dMod_type_9 : decode bMod_type 9 = .ok (.getfield 101, 3) := by decide +kernel
theorem dMod_type_12 : decode bMod_type 12 = .ok (.ifCond .gt 33, 3) := by decide +kernel
theorem dMod_type_15 : decode bMod_type 15 = .ok (.iload_n 1, 1) := by decide +kernel
theorem dMod_type_16 : decode bMod_type 16 = .ok (.ifCond .lt 29, 3) := by decide +kernel
theorem dMod_type_19 : decode bMod_type 19 = .ok (.iload_n 1, 1) := by decide +kernel
theorem dMod_type_20 : decode bMod_type 20 = .ok (.aload_n 0, 1) := by decide +kernel
theorem dMod_type_21 : decode bMod_type 21 = .ok (.getfield 98, 3) := by decide +kernel
theorem dMod_type_24 : decode bMod_type 24 = .ok (.if_icmp .gt 21, 3) := by decide +kernel
theorem dMod_type_27 : decode bMod_type 27 = .ok (.iload_n 2, 1) := by decide +kernel
theorem dMod_type_28 : decode bMod_type 28 = .ok (.ifCond .lt 17, 3) := by decide +kernel
theorem dMod_type_31 : decode bMod_type 31 = .ok (.iload_n 2, 1) := by decide +kernel
theorem dMod_type_32 : decode bMod_type 32 = .ok (.iconst 4, 1) := by decide +kernel
theorem dMod_type_33 : decode bMod_type 33 = .ok (.if_icmp .gt 12, 3) := by decide +kernel
theorem dMod_type_36 : decode bMod_type 36 = .ok (.iload_n 3, 1) := by decide +kernel
theorem dMod_type_37 : decode bMod_type 37 = .ok (.ifCond .lt 8, 3) := by decide +kernel
theorem dMod_type_40 : decode bMod_type 40 = .ok (.iload_n 3, 1) := by decide +kernel
theorem dMod_type_41 : decode bMod_type 41 = .ok (.iconst 3, 1) := by decide +kernel
theorem dMod_type_42 : decode bMod_type 42 = .ok (.if_icmp .le 5, 3) := by decide +kernel
theorem dMod_type_45 : decode bMod_type 45 = .ok (.iconst (-1), 1) := by decide +kernel
theorem dMod_type_46 : decode bMod_type 46 = .ok (.ireturn, 1) := by decide +kernel
theorem dMod_type_47 : decode bMod_type 47 = .ok (.aload_n 0, 1) := by decide +kernel
theorem dMod_type_48 : decode bMod_type 48 = .ok (.dup, 1) := by decide +kernel
theorem dMod_type_49 : decode bMod_type 49 = .ok (.getfield 98, 3) := by decide +kernel
theorem dMod_type_52 : decode bMod_type 52 = .ok (.iconst 1, 1) := by decide +kernel
theorem dMod_type_53 : decode bMod_type 53 = .ok (.iadd, 1) := by decide +kernel
theorem dMod_type_54 : decode bMod_type 54 = .ok (.putfield 98, 3) := by decide +kernel
theorem dMod_type_57 : decode bMod_type 57 = .ok (.aload_n 0, 1) := by decide +kernel
theorem dMod_type_58 : decode bMod_type 58 = .ok (.getfield 7, 3) := by decide +kernel
theorem dMod_type_61 : decode bMod_type 61 = .ok (.aload_n 0, 1) := by decide +kernel
theorem dMod_type_62 : decode bMod_type 62 = .ok (.getfield 98, 3) := by decide +kernel
theorem dMod_type_65 : decode bMod_type 65 = .ok (.iload_n 1, 1) := by decide +kernel
theorem dMod_type_66 : decode bMod_type 66 = .ok (.iastore, 1) := by decide +kernel
theorem dMod_type_67 : decode bMod_type 67 = .ok (.aload_n 0, 1) := by decide +kernel
theorem dMod_type_68 : decode bMod_type 68 = .ok (.getfield 13, 3) := by decide +kernel
theorem dMod_type_71 : decode bMod_type 71 = .ok (.aload_n 0, 1) := by decide +kernel
theorem dMod_type_72 : decode bMod_type 72 = .ok (.getfield 98, 3) := by decide +kernel
theorem dMod_type_75 : decode bMod_type 75 = .ok (.iload_n 2, 1) := by decide +kernel
theorem dMod_type_76 : decode bMod_type 76 = .ok (.iastore, 1) := by decide +kernel
theorem dMod_type_77 : decode bMod_type 77 = .ok (.aload_n 0, 1) := by decide +kernel
theorem dMod_type_78 : decode bMod_type 78 = .ok (.getfield 16, 3) := by decide +kernel
theorem dMod_type_81 : decode bMod_type 81 = .ok (.aload_n 0, 1) := by decide +kernel
theorem dMod_type_82 : decode bMod_type 82 = .ok (.getfield 98, 3) := by decide +kernel
theorem dMod_type_85 : decode bMod_type 85 = .ok (.iload_n 3, 1) := by decide +kernel
theorem dMod_type_86 : decode bMod_type 86 = .ok (.iastore, 1) := by decide +kernel
theorem dMod_type_87 : decode bMod_type 87 = .ok (.aload_n 0, 1) := by decide +kernel
theorem dMod_type_88 : decode bMod_type 88 = .ok (.getfield 98, 3) := by decide +kernel
theorem dMod_type_91 : decode bMod_type 91 = .ok (.ireturn, 1) := by decide +kernel
def wpMod_type (x1 : Int32) (x2 : Int32) (x3 : Int32) (h : zM) (post : Int32 → zM → Prop) : Prop := (((h 0 1) = 4 → post (-1) h) ∧ (¬ (h 0 1) = 4 → (((0 < (h 0 5)) → post (-1) h) ∧ (¬ (0 < (h 0 5)) → (((x1 < 0) → post (-1) h) ∧ (¬ (x1 < 0) → ((((h 0 1) < x1) → post (-1) h) ∧ (¬ ((h 0 1) < x1) → (((x2 < 0) → post (-1) h) ∧ (¬ (x2 < 0) → (((4 < x2) → post (-1) h) ∧ (¬ (4 < x2) → (((x3 < 0) → post (-1) h) ∧ (¬ (x3 < 0) → (((x3 ≤ 3) → ∀ h54 : zM, h54 = zu h 0 1 ((h 0 1) + 1) → (vp_in (h54 0 1) 5 ∧ ∀ h66 : zM, h66 = zu h54 1 (Int32.toNatClampNeg (h54 0 1)) x1 → (vp_in (h66 0 1) 5 ∧ ∀ h76 : zM, h76 = zu h66 2 (Int32.toNatClampNeg (h66 0 1)) x2 → (vp_in (h76 0 1) 5 ∧ ∀ h86 : zM, h86 = zu h76 3 (Int32.toNatClampNeg (h76 0 1)) x3 → post (h86 0 1) h86)))) ∧ (¬ (x3 ≤ 3) → post (-1) h))))))))))))))))
abbrev rmMod_type : Room := { frames := 0, cells := 0, slots := 0, locals := 0 }
set_option maxHeartbeats 4000000 in
set_option maxRecDepth 100000 in
theorem cMod_type (l : Launch) (D : va_G) (cI cC cE : ClassId) (ad : Nat → Nat) (A : Nat → Prop) (hJ : zJ A 28 ad) (x1 : Int32) (x2 : Int32) (x3 : Int32) (h : zM) (post : Int32 → zM → Prop) (hw : wpMod_type x1 x2 x3 h post) : Met l yMod_type (.code yMod_type bMod_type 4 (some .int) :: zt) rmMod_type (va_Pc [.ref (ad 0), .int x1, .int x2, .int x3] (zPre D (zty cI cC cE) 28 ad (mF ad cI) A h)) (va_Qi post (zPst D (zty cI cC cE) 28 ad (mF ad cI)) A) 0 0 A := by
  refine Met.ofW (cc := bMod_type) (maxL := 4) (ret := (some .int)) (by decide) rfl ?_
  intro p e s m args below meth c s₁ B hml hv
  obtain ⟨rfl, hP, hK, hT, hN⟩ := hv
  have hr := B.returns
  have hlk := B.notSynchronized
  have S : zS p m c bMod_type 4 s _ "CallExplorerModel" := ⟨B.exec, B.bytes, hml, findClass_of_methodNamed B.named, fun w hw => atoms_spec (ws := .code yMod_type bMod_type 4 (some .int) :: zt) B.pre w (List.mem_cons_of_mem _ hw)⟩
  have hS : va_S A s.heap s.heap [] := va_S.rf
  have hl := lv_entry ([.ref (ad 0), .int x1, .int x2, .int x3]) (n := 4) (Nat.le_of_ble_eq_true rfl)
  rw [lg_entry_eq]
  generalize (lg_sl ([.ref (ad 0), .int x1, .int x2, .int x3]) ++ List.replicate (4 - (lg_sl ([.ref (ad 0), .int x1, .int x2, .int x3])).length) Slot.unset).toArray = ls at hl ⊢
  have hl : lv_has ls 4 [(0, .ref (ad 0)), (1, .int x1), (2, .int x2), (3, .int x3)] := hl
  show W p l e rmMod_type s m ([.ref (ad 0), .int x1, .int x2, .int x3] : List Value).toArray below meth c s.heap [] 0 0 (zQi post D (zty cI cC cE) 28 ad (mF ad cI) A below ([.ref (ad 0), .int x1, .int x2, .int x3] : List Value).toArray s) _
  unfold wpMod_type at hw
  refine lv_aload_n S.1 S.2.1 dMod_type_0 rfl (lv_at hl 0 rfl) ?_
  refine zr_get S hK hP (by decide) (mF_0 _) fMod_classes q829 rfl dMod_type_1 ?_
  refine lv_iconst (v := 4) S.1 S.2.1 dMod_type_4 (by decide) ?_
  refine lv_icmp_eq S.1 S.2.1 dMod_type_5 rfl (fun hc => ?_) (fun hc => ?_)
  · have hw := hw.1 hc
    refine lv_iconst (v := (-1)) S.1 S.2.1 dMod_type_45 (by decide) ?_
    exact zr_iret S hr hlk hK hP hS rfl hw dMod_type_46
  · have hw := hw.2 hc
    refine lv_aload_n S.1 S.2.1 dMod_type_8 rfl (lv_at hl 0 rfl) ?_
    refine zr_get S hK hP (by decide) (mF_0 _) fMod_operations q833 rfl dMod_type_9 ?_
    refine lv_if_gt S.1 S.2.1 dMod_type_12 rfl (fun hc => ?_) (fun hc => ?_)
    · have hw := hw.1 hc
      refine lv_iconst (v := (-1)) S.1 S.2.1 dMod_type_45 (by decide) ?_
      exact zr_iret S hr hlk hK hP hS rfl hw dMod_type_46
    · have hw := hw.2 hc
      refine lv_iload_n S.1 S.2.1 dMod_type_15 rfl (lv_at hl 1 rfl) ?_
      refine lv_if_lt S.1 S.2.1 dMod_type_16 rfl (fun hc => ?_) (fun hc => ?_)
      · have hw := hw.1 hc
        refine lv_iconst (v := (-1)) S.1 S.2.1 dMod_type_45 (by decide) ?_
        exact zr_iret S hr hlk hK hP hS rfl hw dMod_type_46
      · have hw := hw.2 hc
        refine lv_iload_n S.1 S.2.1 dMod_type_19 rfl (lv_at hl 1 rfl) ?_
        refine lv_aload_n S.1 S.2.1 dMod_type_20 rfl (lv_at hl 0 rfl) ?_
        refine zr_get S hK hP (by decide) (mF_0 _) fMod_classes q829 rfl dMod_type_21 ?_
        refine lv_icmp_gt S.1 S.2.1 dMod_type_24 rfl (fun hc => ?_) (fun hc => ?_)
        · have hw := hw.1 hc
          refine lv_iconst (v := (-1)) S.1 S.2.1 dMod_type_45 (by decide) ?_
          exact zr_iret S hr hlk hK hP hS rfl hw dMod_type_46
        · have hw := hw.2 hc
          refine lv_iload_n S.1 S.2.1 dMod_type_27 rfl (lv_at hl 2 rfl) ?_
          refine lv_if_lt S.1 S.2.1 dMod_type_28 rfl (fun hc => ?_) (fun hc => ?_)
          · have hw := hw.1 hc
            refine lv_iconst (v := (-1)) S.1 S.2.1 dMod_type_45 (by decide) ?_
            exact zr_iret S hr hlk hK hP hS rfl hw dMod_type_46
          · have hw := hw.2 hc
            refine lv_iload_n S.1 S.2.1 dMod_type_31 rfl (lv_at hl 2 rfl) ?_
            refine lv_iconst (v := 4) S.1 S.2.1 dMod_type_32 (by decide) ?_
            refine lv_icmp_gt S.1 S.2.1 dMod_type_33 rfl (fun hc => ?_) (fun hc => ?_)
            · have hw := hw.1 hc
              refine lv_iconst (v := (-1)) S.1 S.2.1 dMod_type_45 (by decide) ?_
              exact zr_iret S hr hlk hK hP hS rfl hw dMod_type_46
            · have hw := hw.2 hc
              refine lv_iload_n S.1 S.2.1 dMod_type_36 rfl (lv_at hl 3 rfl) ?_
              refine lv_if_lt S.1 S.2.1 dMod_type_37 rfl (fun hc => ?_) (fun hc => ?_)
              · have hw := hw.1 hc
                refine lv_iconst (v := (-1)) S.1 S.2.1 dMod_type_45 (by decide) ?_
                exact zr_iret S hr hlk hK hP hS rfl hw dMod_type_46
              · have hw := hw.2 hc
                refine lv_iload_n S.1 S.2.1 dMod_type_40 rfl (lv_at hl 3 rfl) ?_
                refine lv_iconst (v := 3) S.1 S.2.1 dMod_type_41 (by decide) ?_
                refine lv_icmp_le S.1 S.2.1 dMod_type_42 rfl (fun hc => ?_) (fun hc => ?_)
                · have hw := hw.1 hc
                  refine lv_aload_n S.1 S.2.1 dMod_type_47 rfl (lv_at hl 0 rfl) ?_
                  refine lv_dup S.1 S.2.1 dMod_type_48 rfl ?_
                  refine zr_get S hK hP (by decide) (mF_0 _) fMod_classes q829 rfl dMod_type_49 ?_
                  refine lv_iconst (v := 1) S.1 S.2.1 dMod_type_52 (by decide) ?_
                  refine lv_iadd S.1 S.2.1 dMod_type_53 ?_
                  refine zr_put S hK hJ hP hS (by decide) (mF_0 _) fMod_classes q829 rfl rfl (Nat.le_of_ble_eq_true rfl) (mF_0 _) dMod_type_54 (fun h54 H locs e54 hP hS => ?_)
                  have hw := hw h54 e54
                  refine lv_aload_n S.1 S.2.1 dMod_type_57 rfl (lv_at hl 0 rfl) ?_
                  refine zr_get S hK hP (by decide) (mF_0 _) fMod_parent q830 rfl dMod_type_58 ?_
                  refine lv_aload_n S.1 S.2.1 dMod_type_61 rfl (lv_at hl 0 rfl) ?_
                  refine zr_get S hK hP (by decide) (mF_0 _) fMod_classes q829 rfl dMod_type_62 ?_
                  refine lv_iload_n S.1 S.2.1 dMod_type_65 rfl (lv_at hl 1 rfl) ?_
                  obtain ⟨z66, hw⟩ := hw
                  refine zr_ast S hK hJ hP hS (by decide) mF_1 0 rfl z66 dMod_type_66 (fun h66 H locs e66 hP hS => ?_)
                  have hw := hw h66 e66
                  refine lv_aload_n S.1 S.2.1 dMod_type_67 rfl (lv_at hl 0 rfl) ?_
                  refine zr_get S hK hP (by decide) (mF_0 _) fMod_sense q831 rfl dMod_type_68 ?_
                  refine lv_aload_n S.1 S.2.1 dMod_type_71 rfl (lv_at hl 0 rfl) ?_
                  refine zr_get S hK hP (by decide) (mF_0 _) fMod_classes q829 rfl dMod_type_72 ?_
                  refine lv_iload_n S.1 S.2.1 dMod_type_75 rfl (lv_at hl 2 rfl) ?_
                  obtain ⟨z76, hw⟩ := hw
                  refine zr_ast S hK hJ hP hS (by decide) mF_2 0 rfl z76 dMod_type_76 (fun h76 H locs e76 hP hS => ?_)
                  have hw := hw h76 e76
                  refine lv_aload_n S.1 S.2.1 dMod_type_77 rfl (lv_at hl 0 rfl) ?_
                  refine zr_get S hK hP (by decide) (mF_0 _) fMod_mark q832 rfl dMod_type_78 ?_
                  refine lv_aload_n S.1 S.2.1 dMod_type_81 rfl (lv_at hl 0 rfl) ?_
                  refine zr_get S hK hP (by decide) (mF_0 _) fMod_classes q829 rfl dMod_type_82 ?_
                  refine lv_iload_n S.1 S.2.1 dMod_type_85 rfl (lv_at hl 3 rfl) ?_
                  obtain ⟨z86, hw⟩ := hw
                  refine zr_ast S hK hJ hP hS (by decide) mF_3 0 rfl z86 dMod_type_86 (fun h86 H locs e86 hP hS => ?_)
                  have hw := hw h86 e86
                  refine lv_aload_n S.1 S.2.1 dMod_type_87 rfl (lv_at hl 0 rfl) ?_
                  refine zr_get S hK hP (by decide) (mF_0 _) fMod_classes q829 rfl dMod_type_88 ?_
                  exact zr_iret S hr hlk hK hP hS rfl hw dMod_type_91
                · have hw := hw.2 hc
                  refine lv_iconst (v := (-1)) S.1 S.2.1 dMod_type_45 (by decide) ?_
                  exact zr_iret S hr hlk hK hP hS rfl hw dMod_type_46
/-! Mod.isClass -/
theorem dMod_isClass_0 : decode bMod_isClass 0 = .ok (.iload_n 1, 1) := by decide +kernel
theorem dMod_isClass_1 : decode bMod_isClass 1 = .ok (.iconst 1, 1) := by decide +kernel
theorem dMod_isClass_2 : decode bMod_isClass 2 = .ok (.if_icmp .lt 15, 3) := by decide +kernel
theorem dMod_isClass_5 : decode bMod_isClass 5 = .ok (.iload_n 1, 1) := by decide +kernel
theorem dMod_isClass_6 : decode bMod_isClass 6 = .ok (.aload_n 0, 1) := by decide +kernel
theorem dMod_isClass_7 : decode bMod_isClass 7 = .ok (.getfield 98, 3) := by decide +kernel
theorem dMod_isClass_10 : decode bMod_isClass 10 = .ok (.if_icmp .gt 7, 3) := by decide +kernel
theorem dMod_isClass_13 : decode bMod_isClass 13 = .ok (.iconst 1, 1) := by decide +kernel
theorem dMod_isClass_14 : decode bMod_isClass 14 = .ok (.goto 4, 3) := by decide +kernel
theorem dMod_isClass_17 : decode bMod_isClass 17 = .ok (.iconst 0, 1) := by decide +kernel
theorem dMod_isClass_18 : decode bMod_isClass 18 = .ok (.ireturn, 1) := by decide +kernel
def wpMod_isClass (x1 : Int32) (h : zM) (post : Int32 → zM → Prop) : Prop := (((x1 < 1) → post 0 h) ∧ (¬ (x1 < 1) → ((((h 0 1) < x1) → post 0 h) ∧ (¬ ((h 0 1) < x1) → post 1 h))))
abbrev rmMod_isClass : Room := { frames := 0, cells := 0, slots := 0, locals := 0 }
set_option maxHeartbeats 4000000 in
set_option maxRecDepth 100000 in
theorem cMod_isClass (l : Launch) (D : va_G) (cI cC cE : ClassId) (ad : Nat → Nat) (A : Nat → Prop) (hJ : zJ A 28 ad) (x1 : Int32) (h : zM) (post : Int32 → zM → Prop) (hw : wpMod_isClass x1 h post) : Met l yMod_isClass (.code yMod_isClass bMod_isClass 2 (some .boolean) :: zt) rmMod_isClass (va_Pc [.ref (ad 0), .int x1] (zPre D (zty cI cC cE) 28 ad (mF ad cI) A h)) (va_Qi post (zPst D (zty cI cC cE) 28 ad (mF ad cI)) A) 0 0 A := by
  refine Met.ofW (cc := bMod_isClass) (maxL := 2) (ret := (some .boolean)) (by decide) rfl ?_
  intro p e s m args below meth c s₁ B hml hv
  obtain ⟨rfl, hP, hK, hT, hN⟩ := hv
  have hr := B.returns
  have hlk := B.notSynchronized
  have S : zS p m c bMod_isClass 2 s _ "CallExplorerModel" := ⟨B.exec, B.bytes, hml, findClass_of_methodNamed B.named, fun w hw => atoms_spec (ws := .code yMod_isClass bMod_isClass 2 (some .boolean) :: zt) B.pre w (List.mem_cons_of_mem _ hw)⟩
  have hS : va_S A s.heap s.heap [] := va_S.rf
  have hl := lv_entry ([.ref (ad 0), .int x1]) (n := 2) (Nat.le_of_ble_eq_true rfl)
  rw [lg_entry_eq]
  generalize (lg_sl ([.ref (ad 0), .int x1]) ++ List.replicate (2 - (lg_sl ([.ref (ad 0), .int x1])).length) Slot.unset).toArray = ls at hl ⊢
  have hl : lv_has ls 2 [(0, .ref (ad 0)), (1, .int x1)] := hl
  show W p l e rmMod_isClass s m ([.ref (ad 0), .int x1] : List Value).toArray below meth c s.heap [] 0 0 (zQi post D (zty cI cC cE) 28 ad (mF ad cI) A below ([.ref (ad 0), .int x1] : List Value).toArray s) _
  unfold wpMod_isClass at hw
  refine lv_iload_n S.1 S.2.1 dMod_isClass_0 rfl (lv_at hl 1 rfl) ?_
  refine lv_iconst (v := 1) S.1 S.2.1 dMod_isClass_1 (by decide) ?_
  refine lv_icmp_lt S.1 S.2.1 dMod_isClass_2 rfl (fun hc => ?_) (fun hc => ?_)
  · have hw := hw.1 hc
    refine lv_iconst (v := 0) S.1 S.2.1 dMod_isClass_17 (by decide) ?_
    exact zr_iret S hr hlk hK hP hS rfl hw dMod_isClass_18
  · have hw := hw.2 hc
    refine lv_iload_n S.1 S.2.1 dMod_isClass_5 rfl (lv_at hl 1 rfl) ?_
    refine lv_aload_n S.1 S.2.1 dMod_isClass_6 rfl (lv_at hl 0 rfl) ?_
    refine zr_get S hK hP (by decide) (mF_0 _) fMod_classes q829 rfl dMod_isClass_7 ?_
    refine lv_icmp_gt S.1 S.2.1 dMod_isClass_10 rfl (fun hc => ?_) (fun hc => ?_)
    · have hw := hw.1 hc
      refine lv_iconst (v := 0) S.1 S.2.1 dMod_isClass_17 (by decide) ?_
      exact zr_iret S hr hlk hK hP hS rfl hw dMod_isClass_18
    · have hw := hw.2 hc
      refine lv_iconst (v := 1) S.1 S.2.1 dMod_isClass_13 (by decide) ?_
      refine lv_goto S.1 S.2.1 dMod_isClass_14 rfl ?_
      exact zr_iret S hr hlk hK hP hS rfl hw dMod_isClass_18
/-! Mod.hasD -/
theorem dMod_hasD_0 : decode bMod_hasD 0 = .ok (.iload_n 0, 1) := by decide +kernel
theorem dMod_hasD_1 : decode bMod_hasD 1 = .ok (.iconst 1, 1) := by decide +kernel
theorem dMod_hasD_2 : decode bMod_hasD 2 = .ok (.if_icmp .eq 19, 3) := by decide +kernel
theorem dMod_hasD_5 : decode bMod_hasD 5 = .ok (.iload_n 0, 1) := by decide +kernel
theorem dMod_hasD_6 : decode bMod_hasD 6 = .ok (.iconst 4, 1) := by decide +kernel
theorem dMod_hasD_7 : decode bMod_hasD 7 = .ok (.if_icmp .eq 14, 3) := by decide +kernel
theorem dMod_hasD_10 : decode bMod_hasD 10 = .ok (.iload_n 0, 1) := by decide +kernel
theorem dMod_hasD_11 : decode bMod_hasD 11 = .ok (.iconst 5, 1) := by decide +kernel
theorem dMod_hasD_12 : decode bMod_hasD 12 = .ok (.if_icmp .eq 9, 3) := by decide +kernel
theorem dMod_hasD_15 : decode bMod_hasD 15 = .ok (.iload_n 0, 1) := by decide +kernel
theorem dMod_hasD_16 : decode bMod_hasD 16 = .ok (.bipush 9, 2) := by decide +kernel
theorem dMod_hasD_18 : decode bMod_hasD 18 = .ok (.if_icmp .ne 7, 3) := by decide +kernel
theorem dMod_hasD_21 : decode bMod_hasD 21 = .ok (.iconst 1, 1) := by decide +kernel
theorem dMod_hasD_22 : decode bMod_hasD 22 = .ok (.goto 4, 3) := by decide +kernel
theorem dMod_hasD_25 : decode bMod_hasD 25 = .ok (.iconst 0, 1) := by decide +kernel
theorem dMod_hasD_26 : decode bMod_hasD 26 = .ok (.ireturn, 1) := by decide +kernel
def wpMod_hasD (x0 : Int32) (h : zM) (post : Int32 → zM → Prop) : Prop := ((x0 = 1 → post 1 h) ∧ (¬ x0 = 1 → ((x0 = 4 → post 1 h) ∧ (¬ x0 = 4 → ((x0 = 5 → post 1 h) ∧ (¬ x0 = 5 → ((¬ x0 = 9 → post 0 h) ∧ (x0 = 9 → post 1 h))))))))
abbrev rmMod_hasD : Room := { frames := 0, cells := 0, slots := 0, locals := 0 }
set_option maxHeartbeats 4000000 in
set_option maxRecDepth 100000 in
theorem cMod_hasD (l : Launch) (D : va_G) (cI cC cE : ClassId) (ad : Nat → Nat) (A : Nat → Prop) (hJ : zJ A 28 ad) (x0 : Int32) (h : zM) (post : Int32 → zM → Prop) (hw : wpMod_hasD x0 h post) : Met l yMod_hasD (.code yMod_hasD bMod_hasD 1 (some .boolean) :: zt) rmMod_hasD (va_Pc [.int x0] (zPre D (zty cI cC cE) 28 ad (mF ad cI) A h)) (va_Qi post (zPst D (zty cI cC cE) 28 ad (mF ad cI)) A) 0 0 A := by
  refine Met.ofW (cc := bMod_hasD) (maxL := 1) (ret := (some .boolean)) (by decide) rfl ?_
  intro p e s m args below meth c s₁ B hml hv
  obtain ⟨rfl, hP, hK, hT, hN⟩ := hv
  have hr := B.returns
  have hlk := B.notSynchronized
  have S : zS p m c bMod_hasD 1 s _ "CallExplorerModel" := ⟨B.exec, B.bytes, hml, findClass_of_methodNamed B.named, fun w hw => atoms_spec (ws := .code yMod_hasD bMod_hasD 1 (some .boolean) :: zt) B.pre w (List.mem_cons_of_mem _ hw)⟩
  have hS : va_S A s.heap s.heap [] := va_S.rf
  have hl := lv_entry ([.int x0]) (n := 1) (Nat.le_of_ble_eq_true rfl)
  rw [lg_entry_eq]
  generalize (lg_sl ([.int x0]) ++ List.replicate (1 - (lg_sl ([.int x0])).length) Slot.unset).toArray = ls at hl ⊢
  have hl : lv_has ls 1 [(0, .int x0)] := hl
  show W p l e rmMod_hasD s m ([.int x0] : List Value).toArray below meth c s.heap [] 0 0 (zQi post D (zty cI cC cE) 28 ad (mF ad cI) A below ([.int x0] : List Value).toArray s) _
  unfold wpMod_hasD at hw
  refine lv_iload_n S.1 S.2.1 dMod_hasD_0 rfl (lv_at hl 0 rfl) ?_
  refine lv_iconst (v := 1) S.1 S.2.1 dMod_hasD_1 (by decide) ?_
  refine lv_icmp_eq S.1 S.2.1 dMod_hasD_2 rfl (fun hc => ?_) (fun hc => ?_)
  · have hw := hw.1 hc
    refine lv_iconst (v := 1) S.1 S.2.1 dMod_hasD_21 (by decide) ?_
    refine lv_goto S.1 S.2.1 dMod_hasD_22 rfl ?_
    exact zr_iret S hr hlk hK hP hS rfl hw dMod_hasD_26
  · have hw := hw.2 hc
    refine lv_iload_n S.1 S.2.1 dMod_hasD_5 rfl (lv_at hl 0 rfl) ?_
    refine lv_iconst (v := 4) S.1 S.2.1 dMod_hasD_6 (by decide) ?_
    refine lv_icmp_eq S.1 S.2.1 dMod_hasD_7 rfl (fun hc => ?_) (fun hc => ?_)
    · have hw := hw.1 hc
      refine lv_iconst (v := 1) S.1 S.2.1 dMod_hasD_21 (by decide) ?_
      refine lv_goto S.1 S.2.1 dMod_hasD_22 rfl ?_
      exact zr_iret S hr hlk hK hP hS rfl hw dMod_hasD_26
    · have hw := hw.2 hc
      refine lv_iload_n S.1 S.2.1 dMod_hasD_10 rfl (lv_at hl 0 rfl) ?_
      refine lv_iconst (v := 5) S.1 S.2.1 dMod_hasD_11 (by decide) ?_
      refine lv_icmp_eq S.1 S.2.1 dMod_hasD_12 rfl (fun hc => ?_) (fun hc => ?_)
      · have hw := hw.1 hc
        refine lv_iconst (v := 1) S.1 S.2.1 dMod_hasD_21 (by decide) ?_
        refine lv_goto S.1 S.2.1 dMod_hasD_22 rfl ?_
        exact zr_iret S hr hlk hK hP hS rfl hw dMod_hasD_26
      · have hw := hw.2 hc
        refine lv_iload_n S.1 S.2.1 dMod_hasD_15 rfl (lv_at hl 0 rfl) ?_
        refine lv_bipush (v := 9) S.1 S.2.1 dMod_hasD_16 (by decide) ?_
        refine lv_icmp_ne S.1 S.2.1 dMod_hasD_18 rfl (fun hc => ?_) (fun hc => ?_)
        · have hw := hw.1 hc
          refine lv_iconst (v := 0) S.1 S.2.1 dMod_hasD_25 (by decide) ?_
          exact zr_iret S hr hlk hK hP hS rfl hw dMod_hasD_26
        · have hw := hw.2 hc
          refine lv_iconst (v := 1) S.1 S.2.1 dMod_hasD_21 (by decide) ?_
          refine lv_goto S.1 S.2.1 dMod_hasD_22 rfl ?_
          exact zr_iret S hr hlk hK hP hS rfl hw dMod_hasD_26
/-! Mod.operation -/
theorem dMod_operation_0 : decode bMod_operation 0 = .ok (.aload_n 0, 1) := by decide +kernel
theorem dMod_operation_1 : decode bMod_operation 1 = .ok (.getfield 101, 3) := by decide +kernel
theorem dMod_operation_4 : decode bMod_operation 4 = .ok (.bipush 10, 2) := by decide +kernel
theorem dMod_operation_6 : decode bMod_operation 6 = .ok (.if_icmp .eq 36, 3) := by decide +kernel
theorem dMod_operation_9 : decode bMod_operation 9 = .ok (.iload_n 1, 1) := by decide +kernel
theorem dMod_operation_10 : decode bMod_operation 10 = .ok (.ifCond .lt 32, 3) := by decide +kernel
theorem dMod_operation_13 : decode bMod_operation 13 = .ok (.iload_n 1, 1) := by decide +kernel
theorem dMod_operation_14 : decode bMod_operation 14 = .ok (.bipush 9, 2) := by decide +kernel
theorem dMod_operation_16 : decode bMod_operation 16 = .ok (.if_icmp .gt 26, 3) := by decide +kernel
theorem dMod_operation_19 : decode bMod_operation 19 = .ok (.aload_n 0, 1) := by decide +kernel
theorem dMod_operation_20 : decode bMod_operation 20 = .ok (.iload_n 2, 1) := by decide +kernel
theorem dMod_operation_21 : decode bMod_operation 21 = .ok (.invokevirtual 104, 3) := by decide +kernel
theorem dMod_operation_24 : decode bMod_operation 24 = .ok (.ifCond .eq 18, 3) := by decide +kernel
theorem dMod_operation_27 : decode bMod_operation 27 = .ok (.iload_n 1, 1) := by decide +kernel
theorem dMod_operation_28 : decode bMod_operation 28 = .ok (.invokestatic 108, 3) := by decide +kernel
theorem dMod_operation_31 : decode bMod_operation 31 = .ok (.ifCond .eq 13, 3) := by decide +kernel
theorem dMod_operation_34 : decode bMod_operation 34 = .ok (.aload_n 0, 1) := by decide +kernel
theorem dMod_operation_35 : decode bMod_operation 35 = .ok (.iload_n 3, 1) := by decide +kernel
theorem dMod_operation_36 : decode bMod_operation 36 = .ok (.invokevirtual 104, 3) := by decide +kernel
theorem dMod_operation_39 : decode bMod_operation 39 = .ok (.ifCond .ne 5, 3) := by decide +kernel
theorem dMod_operation_42 : decode bMod_operation 42 = .ok (.iconst (-1), 1) := by decide +kernel
theorem dMod_operation_43 : decode bMod_operation 43 = .ok (.ireturn, 1) := by decide +kernel
theorem dMod_operation_44 : decode bMod_operation 44 = .ok (.aload_n 0, 1) := by decide +kernel
theorem dMod_operation_45 : decode bMod_operation 45 = .ok (.getfield 19, 3) := by decide +kernel
theorem dMod_operation_48 : decode bMod_operation 48 = .ok (.aload_n 0, 1) := by decide +kernel
theorem dMod_operation_49 : decode bMod_operation 49 = .ok (.getfield 101, 3) := by decide +kernel
theorem dMod_operation_52 : decode bMod_operation 52 = .ok (.iload_n 1, 1) := by decide +kernel
theorem dMod_operation_53 : decode bMod_operation 53 = .ok (.iastore, 1) := by decide +kernel
theorem dMod_operation_54 : decode bMod_operation 54 = .ok (.aload_n 0, 1) := by decide +kernel
theorem dMod_operation_55 : decode bMod_operation 55 = .ok (.getfield 22, 3) := by decide +kernel
theorem dMod_operation_58 : decode bMod_operation 58 = .ok (.aload_n 0, 1) := by decide +kernel
theorem dMod_operation_59 : decode bMod_operation 59 = .ok (.getfield 101, 3) := by decide +kernel
theorem dMod_operation_62 : decode bMod_operation 62 = .ok (.iload_n 2, 1) := by decide +kernel
theorem dMod_operation_63 : decode bMod_operation 63 = .ok (.iastore, 1) := by decide +kernel
theorem dMod_operation_64 : decode bMod_operation 64 = .ok (.aload_n 0, 1) := by decide +kernel
theorem dMod_operation_65 : decode bMod_operation 65 = .ok (.getfield 25, 3) := by decide +kernel
theorem dMod_operation_68 : decode bMod_operation 68 = .ok (.aload_n 0, 1) := by decide +kernel
theorem dMod_operation_69 : decode bMod_operation 69 = .ok (.getfield 101, 3) := by decide +kernel
theorem dMod_operation_72 : decode bMod_operation 72 = .ok (.iload_n 3, 1) := by decide +kernel
theorem dMod_operation_73 : decode bMod_operation 73 = .ok (.iastore, 1) := by decide +kernel
theorem dMod_operation_74 : decode bMod_operation 74 = .ok (.aload_n 0, 1) := by decide +kernel
theorem dMod_operation_75 : decode bMod_operation 75 = .ok (.dup, 1) := by decide +kernel
theorem dMod_operation_76 : decode bMod_operation 76 = .ok (.getfield 101, 3) := by decide +kernel
theorem dMod_operation_79 : decode bMod_operation 79 = .ok (.iconst 1, 1) := by decide +kernel
theorem dMod_operation_80 : decode bMod_operation 80 = .ok (.iadd, 1) := by decide +kernel
theorem dMod_operation_81 : decode bMod_operation 81 = .ok (.putfield 101, 3) := by decide +kernel
theorem dMod_operation_84 : decode bMod_operation 84 = .ok (.aload_n 0, 1) := by decide +kernel
theorem dMod_operation_85 : decode bMod_operation 85 = .ok (.getfield 101, 3) := by decide +kernel
theorem dMod_operation_88 : decode bMod_operation 88 = .ok (.iconst 1, 1) := by decide +kernel
theorem dMod_operation_89 : decode bMod_operation 89 = .ok (.isub, 1) := by decide +kernel
theorem dMod_operation_90 : decode bMod_operation 90 = .ok (.ireturn, 1) := by decide +kernel
def wbMod_operation_44 (post : Int32 → zM → Prop) (v1 : Int32) (v2 : Int32) (v3 : Int32) (h : zM) : Prop := (vp_in (h 0 5) 10 ∧ ∀ h53 : zM, h53 = zu h 4 (Int32.toNatClampNeg (h 0 5)) v1 → (vp_in (h53 0 5) 10 ∧ ∀ h63 : zM, h63 = zu h53 5 (Int32.toNatClampNeg (h53 0 5)) v2 → (vp_in (h63 0 5) 10 ∧ ∀ h73 : zM, h73 = zu h63 6 (Int32.toNatClampNeg (h63 0 5)) v3 → ∀ h81 : zM, h81 = zu h73 0 5 ((h73 0 5) + 1) → post ((h81 0 5) - 1) h81)))
def wpMod_operation (x1 : Int32) (x2 : Int32) (x3 : Int32) (h : zM) (post : Int32 → zM → Prop) : Prop := (((h 0 5) = 10 → post (-1) h) ∧ (¬ (h 0 5) = 10 → (((x1 < 0) → post (-1) h) ∧ (¬ (x1 < 0) → (((9 < x1) → post (-1) h) ∧ (¬ (9 < x1) → wpMod_isClass x2 h (fun r21 h21 => ((r21 = 0 → post (-1) h21) ∧ (¬ r21 = 0 → wpMod_hasD x1 h21 (fun r28 h28 => ((r28 = 0 → wbMod_operation_44 post x1 x2 x3 h28) ∧ (¬ r28 = 0 → wpMod_isClass x3 h28 (fun r36 h36 => ((¬ r36 = 0 → wbMod_operation_44 post x1 x2 x3 h36) ∧ (r36 = 0 → post (-1) h36)))))))))))))))
abbrev rmMod_operation : Room := { frames := 1, cells := 0, slots := 0, locals := 21 }
set_option maxHeartbeats 4000000 in
set_option maxRecDepth 100000 in
theorem cMod_operation (l : Launch) (D : va_G) (cI cC cE : ClassId) (ad : Nat → Nat) (A : Nat → Prop) (hJ : zJ A 28 ad) (x1 : Int32) (x2 : Int32) (x3 : Int32) (h : zM) (post : Int32 → zM → Prop) (hw : wpMod_operation x1 x2 x3 h post) : Met l yMod_operation (.code yMod_operation bMod_operation 4 (some .int) :: zt) rmMod_operation (va_Pc [.ref (ad 0), .int x1, .int x2, .int x3] (zPre D (zty cI cC cE) 28 ad (mF ad cI) A h)) (va_Qi post (zPst D (zty cI cC cE) 28 ad (mF ad cI)) A) 0 0 A := by
  refine Met.ofW (cc := bMod_operation) (maxL := 4) (ret := (some .int)) (by decide) rfl ?_
  intro p e s m args below meth c s₁ B hml hv
  obtain ⟨rfl, hP, hK, hT, hN⟩ := hv
  have hr := B.returns
  have hlk := B.notSynchronized
  have S : zS p m c bMod_operation 4 s _ "CallExplorerModel" := ⟨B.exec, B.bytes, hml, findClass_of_methodNamed B.named, fun w hw => atoms_spec (ws := .code yMod_operation bMod_operation 4 (some .int) :: zt) B.pre w (List.mem_cons_of_mem _ hw)⟩
  have hS : va_S A s.heap s.heap [] := va_S.rf
  have hl := lv_entry ([.ref (ad 0), .int x1, .int x2, .int x3]) (n := 4) (Nat.le_of_ble_eq_true rfl)
  rw [lg_entry_eq]
  generalize (lg_sl ([.ref (ad 0), .int x1, .int x2, .int x3]) ++ List.replicate (4 - (lg_sl ([.ref (ad 0), .int x1, .int x2, .int x3])).length) Slot.unset).toArray = ls at hl ⊢
  have hl : lv_has ls 4 [(0, .ref (ad 0)), (1, .int x1), (2, .int x2), (3, .int x3)] := hl
  show W p l e rmMod_operation s m ([.ref (ad 0), .int x1, .int x2, .int x3] : List Value).toArray below meth c s.heap [] 0 0 (zQi post D (zty cI cC cE) 28 ad (mF ad cI) A below ([.ref (ad 0), .int x1, .int x2, .int x3] : List Value).toArray s) _
  have J44 : ∀ (v1 : Int32) (v2 : Int32) (v3 : Int32) (h : zM) (H : Heap) (locs : List Loc) (ls : Array Slot), wbMod_operation_44 post v1 v2 v3 h → lv_has ls 4 [(0, .ref (ad 0)), (1, .int v1), (2, .int v2), (3, .int v3)] → va_P D zcl (zW 28 ad (mF ad cI) h) H → va_S A s.heap H locs → W p l e rmMod_operation s m ([.ref (ad 0), .int x1, .int x2, .int x3] : List Value).toArray below meth c H locs 0 0 (zQi post D (zty cI cC cE) 28 ad (mF ad cI) A below ([.ref (ad 0), .int x1, .int x2, .int x3] : List Value).toArray s) (F0 m 44 ls []) := by
    intro v1 v2 v3 h H locs ls hw hl hP hS
    unfold wbMod_operation_44 at hw
    refine lv_aload_n S.1 S.2.1 dMod_operation_44 rfl (lv_at hl 0 rfl) ?_
    refine zr_get S hK hP (by decide) (mF_0 _) fMod_kind q834 rfl dMod_operation_45 ?_
    refine lv_aload_n S.1 S.2.1 dMod_operation_48 rfl (lv_at hl 0 rfl) ?_
    refine zr_get S hK hP (by decide) (mF_0 _) fMod_operations q833 rfl dMod_operation_49 ?_
    refine lv_iload_n S.1 S.2.1 dMod_operation_52 rfl (lv_at hl 1 rfl) ?_
    obtain ⟨z53, hw⟩ := hw
    refine zr_ast S hK hJ hP hS (by decide) mF_4 0 rfl z53 dMod_operation_53 (fun h53 H locs e53 hP hS => ?_)
    have hw := hw h53 e53
    refine lv_aload_n S.1 S.2.1 dMod_operation_54 rfl (lv_at hl 0 rfl) ?_
    refine zr_get S hK hP (by decide) (mF_0 _) fMod_first q835 rfl dMod_operation_55 ?_
    refine lv_aload_n S.1 S.2.1 dMod_operation_58 rfl (lv_at hl 0 rfl) ?_
    refine zr_get S hK hP (by decide) (mF_0 _) fMod_operations q833 rfl dMod_operation_59 ?_
    refine lv_iload_n S.1 S.2.1 dMod_operation_62 rfl (lv_at hl 2 rfl) ?_
    obtain ⟨z63, hw⟩ := hw
    refine zr_ast S hK hJ hP hS (by decide) mF_5 0 rfl z63 dMod_operation_63 (fun h63 H locs e63 hP hS => ?_)
    have hw := hw h63 e63
    refine lv_aload_n S.1 S.2.1 dMod_operation_64 rfl (lv_at hl 0 rfl) ?_
    refine zr_get S hK hP (by decide) (mF_0 _) fMod_second q836 rfl dMod_operation_65 ?_
    refine lv_aload_n S.1 S.2.1 dMod_operation_68 rfl (lv_at hl 0 rfl) ?_
    refine zr_get S hK hP (by decide) (mF_0 _) fMod_operations q833 rfl dMod_operation_69 ?_
    refine lv_iload_n S.1 S.2.1 dMod_operation_72 rfl (lv_at hl 3 rfl) ?_
    obtain ⟨z73, hw⟩ := hw
    refine zr_ast S hK hJ hP hS (by decide) mF_6 0 rfl z73 dMod_operation_73 (fun h73 H locs e73 hP hS => ?_)
    have hw := hw h73 e73
    refine lv_aload_n S.1 S.2.1 dMod_operation_74 rfl (lv_at hl 0 rfl) ?_
    refine lv_dup S.1 S.2.1 dMod_operation_75 rfl ?_
    refine zr_get S hK hP (by decide) (mF_0 _) fMod_operations q833 rfl dMod_operation_76 ?_
    refine lv_iconst (v := 1) S.1 S.2.1 dMod_operation_79 (by decide) ?_
    refine lv_iadd S.1 S.2.1 dMod_operation_80 ?_
    refine zr_put S hK hJ hP hS (by decide) (mF_0 _) fMod_operations q833 rfl rfl (Nat.le_of_ble_eq_true rfl) (mF_0 _) dMod_operation_81 (fun h81 H locs e81 hP hS => ?_)
    have hw := hw h81 e81
    refine lv_aload_n S.1 S.2.1 dMod_operation_84 rfl (lv_at hl 0 rfl) ?_
    refine zr_get S hK hP (by decide) (mF_0 _) fMod_operations q833 rfl dMod_operation_85 ?_
    refine lv_iconst (v := 1) S.1 S.2.1 dMod_operation_88 (by decide) ?_
    refine lv_isub S.1 S.2.1 dMod_operation_89 ?_
    exact zr_iret S hr hlk hK hP hS rfl hw dMod_operation_90
  unfold wpMod_operation at hw
  refine lv_aload_n S.1 S.2.1 dMod_operation_0 rfl (lv_at hl 0 rfl) ?_
  refine zr_get S hK hP (by decide) (mF_0 _) fMod_operations q833 rfl dMod_operation_1 ?_
  refine lv_bipush (v := 10) S.1 S.2.1 dMod_operation_4 (by decide) ?_
  refine lv_icmp_eq S.1 S.2.1 dMod_operation_6 rfl (fun hc => ?_) (fun hc => ?_)
  · have hw := hw.1 hc
    refine lv_iconst (v := (-1)) S.1 S.2.1 dMod_operation_42 (by decide) ?_
    exact zr_iret S hr hlk hK hP hS rfl hw dMod_operation_43
  · have hw := hw.2 hc
    refine lv_iload_n S.1 S.2.1 dMod_operation_9 rfl (lv_at hl 1 rfl) ?_
    refine lv_if_lt S.1 S.2.1 dMod_operation_10 rfl (fun hc => ?_) (fun hc => ?_)
    · have hw := hw.1 hc
      refine lv_iconst (v := (-1)) S.1 S.2.1 dMod_operation_42 (by decide) ?_
      exact zr_iret S hr hlk hK hP hS rfl hw dMod_operation_43
    · have hw := hw.2 hc
      refine lv_iload_n S.1 S.2.1 dMod_operation_13 rfl (lv_at hl 1 rfl) ?_
      refine lv_bipush (v := 9) S.1 S.2.1 dMod_operation_14 (by decide) ?_
      refine lv_icmp_gt S.1 S.2.1 dMod_operation_16 rfl (fun hc => ?_) (fun hc => ?_)
      · have hw := hw.1 hc
        refine lv_iconst (v := (-1)) S.1 S.2.1 dMod_operation_42 (by decide) ?_
        exact zr_iret S hr hlk hK hP hS rfl hw dMod_operation_43
      · have hw := hw.2 hc
        refine lv_aload_n S.1 S.2.1 dMod_operation_19 rfl (lv_at hl 0 rfl) ?_
        refine lv_iload_n S.1 S.2.1 dMod_operation_20 rfl (lv_at hl 2 rfl) ?_
        refine zr_i (zr_V (As := [.int x2]) (rest := []) S hK hT hN hP hS (by decide) (mF_0 _) rfl (cMod_isClass l D cI cC cE ad A hJ _ _ _ hw) caMod_104 ⟨Nat.le_of_ble_eq_true rfl, Nat.le_of_ble_eq_true rfl⟩ ⟨rfl, rfl⟩ rfl hl.1 rfl (Nat.le_of_ble_eq_true rfl) dMod_operation_21) hS (fun r21 h21 H locs hw hP hS => ?_)
        refine lv_if_eq S.1 S.2.1 dMod_operation_24 rfl (fun hc => ?_) (fun hc => ?_)
        · have hw := hw.1 hc
          refine lv_iconst (v := (-1)) S.1 S.2.1 dMod_operation_42 (by decide) ?_
          exact zr_iret S hr hlk hK hP hS rfl hw dMod_operation_43
        · have hw := hw.2 hc
          refine lv_iload_n S.1 S.2.1 dMod_operation_27 rfl (lv_at hl 1 rfl) ?_
          refine zr_i (zr_T (As := [.int x1]) (rest := []) S hK hT hN hP hS (cMod_hasD l D cI cC cE ad A hJ _ _ _ hw) caMod_108 ⟨Nat.le_of_ble_eq_true rfl, Nat.le_of_ble_eq_true rfl⟩ ⟨rfl, rfl⟩ rfl hl.1 rfl (Nat.le_of_ble_eq_true rfl) dMod_operation_28) hS (fun r28 h28 H locs hw hP hS => ?_)
          refine lv_if_eq S.1 S.2.1 dMod_operation_31 rfl (fun hc => ?_) (fun hc => ?_)
          · have hw := hw.1 hc
            exact J44 _ _ _ _ _ _ _ hw (lv_sub hl [0, 1, 2, 3] rfl) hP hS
          · have hw := hw.2 hc
            refine lv_aload_n S.1 S.2.1 dMod_operation_34 rfl (lv_at hl 0 rfl) ?_
            refine lv_iload_n S.1 S.2.1 dMod_operation_35 rfl (lv_at hl 3 rfl) ?_
            refine zr_i (zr_V (As := [.int x3]) (rest := []) S hK hT hN hP hS (by decide) (mF_0 _) rfl (cMod_isClass l D cI cC cE ad A hJ _ _ _ hw) caMod_104 ⟨Nat.le_of_ble_eq_true rfl, Nat.le_of_ble_eq_true rfl⟩ ⟨rfl, rfl⟩ rfl hl.1 rfl (Nat.le_of_ble_eq_true rfl) dMod_operation_36) hS (fun r36 h36 H locs hw hP hS => ?_)
            refine lv_if_ne S.1 S.2.1 dMod_operation_39 rfl (fun hc => ?_) (fun hc => ?_)
            · have hw := hw.1 hc
              exact J44 _ _ _ _ _ _ _ hw (lv_sub hl [0, 1, 2, 3] rfl) hP hS
            · have hw := hw.2 hc
              refine lv_iconst (v := (-1)) S.1 S.2.1 dMod_operation_42 (by decide) ?_
              exact zr_iret S hr hlk hK hP hS rfl hw dMod_operation_43
/-! Mod.literal -/
theorem dMod_literal_0 : decode bMod_literal 0 = .ok (.aload_n 0, 1) := by decide +kernel
theorem dMod_literal_1 : decode bMod_literal 1 = .ok (.getfield 28, 3) := by decide +kernel
theorem dMod_literal_4 : decode bMod_literal 4 = .ok (.bipush 8, 2) := by decide +kernel
theorem dMod_literal_6 : decode bMod_literal 6 = .ok (.if_icmp .ne 5, 3) := by decide +kernel
theorem dMod_literal_9 : decode bMod_literal 9 = .ok (.iconst (-1), 1) := by decide +kernel
theorem dMod_literal_10 : decode bMod_literal 10 = .ok (.ireturn, 1) := by decide +kernel
theorem dMod_literal_11 : decode bMod_literal 11 = .ok (.iconst 0, 1) := by decide +kernel
theorem dMod_literal_12 : decode bMod_literal 12 = .ok (.istore_n 2, 1) := by decide +kernel
theorem dMod_literal_13 : decode bMod_literal 13 = .ok (.iload_n 2, 1) := by decide +kernel
theorem dMod_literal_14 : decode bMod_literal 14 = .ok (.aload_n 0, 1) := by decide +kernel
theorem dMod_literal_15 : decode bMod_literal 15 = .ok (.getfield 28, 3) := by decide +kernel
theorem dMod_literal_18 : decode bMod_literal 18 = .ok (.if_icmp .ge 21, 3) := by decide +kernel
theorem dMod_literal_21 : decode bMod_literal 21 = .ok (.aload_n 0, 1) := by decide +kernel
theorem dMod_literal_22 : decode bMod_literal 22 = .ok (.getfield 32, 3) := by decide +kernel
theorem dMod_literal_25 : decode bMod_literal 25 = .ok (.iload_n 2, 1) := by decide +kernel
theorem dMod_literal_26 : decode bMod_literal 26 = .ok (.iaload, 1) := by decide +kernel
theorem dMod_literal_27 : decode bMod_literal 27 = .ok (.iload_n 1, 1) := by decide +kernel
theorem dMod_literal_28 : decode bMod_literal 28 = .ok (.if_icmp .ne 5, 3) := by decide +kernel
theorem dMod_literal_31 : decode bMod_literal 31 = .ok (.iconst (-1), 1) := by decide +kernel
theorem dMod_literal_32 : decode bMod_literal 32 = .ok (.ireturn, 1) := by decide +kernel
theorem dMod_literal_33 : decode bMod_literal 33 = .ok (.iinc 2 1, 3) := by decide +kernel
theorem dMod_literal_36 : decode bMod_literal 36 = .ok (.goto (-23), 3) := by decide +kernel
theorem dMod_literal_39 : decode bMod_literal 39 = .ok (.aload_n 0, 1) := by decide +kernel
theorem dMod_literal_40 : decode bMod_literal 40 = .ok (.getfield 32, 3) := by decide +kernel
theorem dMod_literal_43 : decode bMod_literal 43 = .ok (.aload_n 0, 1) := by decide +kernel
theorem dMod_literal_44 : decode bMod_literal 44 = .ok (.getfield 28, 3) := by decide +kernel
theorem dMod_literal_47 : decode bMod_literal 47 = .ok (.iload_n 1, 1) := by decide +kernel
theorem dMod_literal_48 : decode bMod_literal 48 = .ok (.iastore, 1) := by decide +kernel
theorem dMod_literal_49 : decode bMod_literal 49 = .ok (.aload_n 0, 1) := by decide +kernel
theorem dMod_literal_50 : decode bMod_literal 50 = .ok (.dup, 1) := by decide +kernel
theorem dMod_literal_51 : decode bMod_literal 51 = .ok (.getfield 28, 3) := by decide +kernel
theorem dMod_literal_54 : decode bMod_literal 54 = .ok (.iconst 1, 1) := by decide +kernel
theorem dMod_literal_55 : decode bMod_literal 55 = .ok (.iadd, 1) := by decide +kernel
theorem dMod_literal_56 : decode bMod_literal 56 = .ok (.putfield 28, 3) := by decide +kernel
theorem dMod_literal_59 : decode bMod_literal 59 = .ok (.aload_n 0, 1) := by decide +kernel
theorem dMod_literal_60 : decode bMod_literal 60 = .ok (.getfield 28, 3) := by decide +kernel
theorem dMod_literal_63 : decode bMod_literal 63 = .ok (.iconst 1, 1) := by decide +kernel
theorem dMod_literal_64 : decode bMod_literal 64 = .ok (.isub, 1) := by decide +kernel
theorem dMod_literal_65 : decode bMod_literal 65 = .ok (.ireturn, 1) := by decide +kernel
def stMod_literal_13 (post : Int32 → zM → Prop) (L13 : (Int32 × Int32 × zM) → Prop) : (Int32 × Int32 × zM) → Prop := fun s => match s with
  | (v1, v2, h) => ((((h 0 9) ≤ v2) → (vp_in (h 0 9) 8 ∧ ∀ h48 : zM, h48 = zu h 7 (Int32.toNatClampNeg (h 0 9)) v1 → ∀ h56 : zM, h56 = zu h48 0 9 ((h48 0 9) + 1) → post ((h56 0 9) - 1) h56)) ∧ (¬ ((h 0 9) ≤ v2) → (vp_in v2 8 ∧ ((¬ (h 7 (Int32.toNatClampNeg v2)) = v1 → L13 (v1, (v2 + 1), h)) ∧ ((h 7 (Int32.toNatClampNeg v2)) = v1 → post (-1) h)))))
def wpMod_literal (x1 : Int32) (h : zM) (post : Int32 → zM → Prop) : Prop := ((¬ (h 0 9) = 8 → zL (stMod_literal_13 post) (x1, 0, h)) ∧ ((h 0 9) = 8 → post (-1) h))
abbrev rmMod_literal : Room := { frames := 0, cells := 0, slots := 0, locals := 0 }
set_option maxHeartbeats 4000000 in
set_option maxRecDepth 100000 in
theorem cMod_literal (l : Launch) (D : va_G) (cI cC cE : ClassId) (ad : Nat → Nat) (A : Nat → Prop) (hJ : zJ A 28 ad) (x1 : Int32) (h : zM) (post : Int32 → zM → Prop) (hw : wpMod_literal x1 h post) : Met l yMod_literal (.code yMod_literal bMod_literal 3 (some .int) :: zt) rmMod_literal (va_Pc [.ref (ad 0), .int x1] (zPre D (zty cI cC cE) 28 ad (mF ad cI) A h)) (va_Qi post (zPst D (zty cI cC cE) 28 ad (mF ad cI)) A) 0 0 A := by
  refine Met.ofW (cc := bMod_literal) (maxL := 3) (ret := (some .int)) (by decide) rfl ?_
  intro p e s m args below meth c s₁ B hml hv
  obtain ⟨rfl, hP, hK, hT, hN⟩ := hv
  have hr := B.returns
  have hlk := B.notSynchronized
  have S : zS p m c bMod_literal 3 s _ "CallExplorerModel" := ⟨B.exec, B.bytes, hml, findClass_of_methodNamed B.named, fun w hw => atoms_spec (ws := .code yMod_literal bMod_literal 3 (some .int) :: zt) B.pre w (List.mem_cons_of_mem _ hw)⟩
  have hS : va_S A s.heap s.heap [] := va_S.rf
  have hl := lv_entry ([.ref (ad 0), .int x1]) (n := 3) (Nat.le_of_ble_eq_true rfl)
  rw [lg_entry_eq]
  generalize (lg_sl ([.ref (ad 0), .int x1]) ++ List.replicate (3 - (lg_sl ([.ref (ad 0), .int x1])).length) Slot.unset).toArray = ls at hl ⊢
  have hl : lv_has ls 3 [(0, .ref (ad 0)), (1, .int x1)] := hl
  show W p l e rmMod_literal s m ([.ref (ad 0), .int x1] : List Value).toArray below meth c s.heap [] 0 0 (zQi post D (zty cI cC cE) 28 ad (mF ad cI) A below ([.ref (ad 0), .int x1] : List Value).toArray s) _
  have J13 : ∀ (fu : Nat) (v1 : Int32) (v2 : Int32) (h : zM) (H : Heap) (locs : List Loc) (ls : Array Slot), zl (stMod_literal_13 post) fu (v1, v2, h) → lv_has ls 3 [(0, .ref (ad 0)), (1, .int v1), (2, .int v2)] → va_P D zcl (zW 28 ad (mF ad cI) h) H → va_S A s.heap H locs → W p l e rmMod_literal s m ([.ref (ad 0), .int x1] : List Value).toArray below meth c H locs 0 0 (zQi post D (zty cI cC cE) 28 ad (mF ad cI) A below ([.ref (ad 0), .int x1] : List Value).toArray s) (F0 m 13 ls []) := by
    intro fu13
    induction fu13 with
    | zero =>
      intro v1 v2 h H locs ls hw
      exact (zl_0 hw).elim
    | succ fu13 ih13 =>
      intro v1 v2 h H locs ls hw hl hP hS
      have hw := zl_s hw
      generalize zl (stMod_literal_13 post) fu13 = L13 at hw ih13
      unfold stMod_literal_13 at hw
      dsimp only at hw
      refine lv_iload_n S.1 S.2.1 dMod_literal_13 rfl (lv_at hl 2 rfl) ?_
      refine lv_aload_n S.1 S.2.1 dMod_literal_14 rfl (lv_at hl 0 rfl) ?_
      refine zr_get S hK hP (by decide) (mF_0 _) fMod_literals q837 rfl dMod_literal_15 ?_
      refine lv_icmp_ge S.1 S.2.1 dMod_literal_18 rfl (fun hc => ?_) (fun hc => ?_)
      · have hw := hw.1 hc
        refine lv_aload_n S.1 S.2.1 dMod_literal_39 rfl (lv_at hl 0 rfl) ?_
        refine zr_get S hK hP (by decide) (mF_0 _) fMod_literal q838 rfl dMod_literal_40 ?_
        refine lv_aload_n S.1 S.2.1 dMod_literal_43 rfl (lv_at hl 0 rfl) ?_
        refine zr_get S hK hP (by decide) (mF_0 _) fMod_literals q837 rfl dMod_literal_44 ?_
        refine lv_iload_n S.1 S.2.1 dMod_literal_47 rfl (lv_at hl 1 rfl) ?_
        obtain ⟨z48, hw⟩ := hw
        refine zr_ast S hK hJ hP hS (by decide) mF_7 0 rfl z48 dMod_literal_48 (fun h48 H locs e48 hP hS => ?_)
        have hw := hw h48 e48
        refine lv_aload_n S.1 S.2.1 dMod_literal_49 rfl (lv_at hl 0 rfl) ?_
        refine lv_dup S.1 S.2.1 dMod_literal_50 rfl ?_
        refine zr_get S hK hP (by decide) (mF_0 _) fMod_literals q837 rfl dMod_literal_51 ?_
        refine lv_iconst (v := 1) S.1 S.2.1 dMod_literal_54 (by decide) ?_
        refine lv_iadd S.1 S.2.1 dMod_literal_55 ?_
        refine zr_put S hK hJ hP hS (by decide) (mF_0 _) fMod_literals q837 rfl rfl (Nat.le_of_ble_eq_true rfl) (mF_0 _) dMod_literal_56 (fun h56 H locs e56 hP hS => ?_)
        have hw := hw h56 e56
        refine lv_aload_n S.1 S.2.1 dMod_literal_59 rfl (lv_at hl 0 rfl) ?_
        refine zr_get S hK hP (by decide) (mF_0 _) fMod_literals q837 rfl dMod_literal_60 ?_
        refine lv_iconst (v := 1) S.1 S.2.1 dMod_literal_63 (by decide) ?_
        refine lv_isub S.1 S.2.1 dMod_literal_64 ?_
        exact zr_iret S hr hlk hK hP hS rfl hw dMod_literal_65
      · have hw := hw.2 hc
        refine lv_aload_n S.1 S.2.1 dMod_literal_21 rfl (lv_at hl 0 rfl) ?_
        refine zr_get S hK hP (by decide) (mF_0 _) fMod_literal q838 rfl dMod_literal_22 ?_
        refine lv_iload_n S.1 S.2.1 dMod_literal_25 rfl (lv_at hl 2 rfl) ?_
        obtain ⟨z26, hw⟩ := hw
        refine zr_ald S hK hP (by decide) (mF_7 _) 0 rfl z26 dMod_literal_26 ?_
        refine lv_iload_n S.1 S.2.1 dMod_literal_27 rfl (lv_at hl 1 rfl) ?_
        refine lv_icmp_ne S.1 S.2.1 dMod_literal_28 rfl (fun hc => ?_) (fun hc => ?_)
        · have hw := hw.1 hc
          refine lv_iinc (v := (v2 + 1)) (lv' := [(2, .int (v2 + 1)), (0, .ref (ad 0)), (1, .int v1)]) (k := 2) S.1 S.2.1 dMod_literal_33 hl rfl rfl (by decide) rfl (fun ls hl => ?_)
          refine lv_goto S.1 S.2.1 dMod_literal_36 rfl ?_
          exact ih13 _ _ _ _ _ _ hw (lv_sub hl [1, 2, 0] rfl) hP hS
        · have hw := hw.2 hc
          refine lv_iconst (v := (-1)) S.1 S.2.1 dMod_literal_31 (by decide) ?_
          exact zr_iret S hr hlk hK hP hS rfl hw dMod_literal_32
  unfold wpMod_literal at hw
  refine lv_aload_n S.1 S.2.1 dMod_literal_0 rfl (lv_at hl 0 rfl) ?_
  refine zr_get S hK hP (by decide) (mF_0 _) fMod_literals q837 rfl dMod_literal_1 ?_
  refine lv_bipush (v := 8) S.1 S.2.1 dMod_literal_4 (by decide) ?_
  refine lv_icmp_ne S.1 S.2.1 dMod_literal_6 rfl (fun hc => ?_) (fun hc => ?_)
  · have hw := hw.1 hc
    refine lv_iconst (v := 0) S.1 S.2.1 dMod_literal_11 (by decide) ?_
    refine lv_istore_n (lv' := [(2, .int 0), (0, .ref (ad 0)), (1, .int x1)]) S.1 S.2.1 dMod_literal_12 rfl hl (by decide) rfl (fun ls hl => ?_)
    obtain ⟨fu, hw⟩ := hw
    exact J13 fu _ _ _ _ _ _ hw (lv_sub hl [1, 2, 0] rfl) hP hS
  · have hw := hw.2 hc
    refine lv_iconst (v := (-1)) S.1 S.2.1 dMod_literal_9 (by decide) ?_
    exact zr_iret S hr hlk hK hP hS rfl hw dMod_literal_10
/-! Mod.is -/
theorem dMod_is_0 : decode bMod_is 0 = .ok (.iload_n 1, 1) := by decide +kernel
theorem dMod_is_1 : decode bMod_is 1 = .ok (.istore_n 3, 1) := by decide +kernel
theorem dMod_is_2 : decode bMod_is 2 = .ok (.iconst 0, 1) := by decide +kernel
theorem dMod_is_3 : decode bMod_is 3 = .ok (.istore 4, 2) := by decide +kernel
theorem dMod_is_5 : decode bMod_is 5 = .ok (.iload 4, 2) := by decide +kernel
theorem dMod_is_7 : decode bMod_is 7 = .ok (.iconst 5, 1) := by decide +kernel
theorem dMod_is_8 : decode bMod_is 8 = .ok (.if_icmp .ge 25, 3) := by decide +kernel
theorem dMod_is_11 : decode bMod_is 11 = .ok (.iload_n 3, 1) := by decide +kernel
theorem dMod_is_12 : decode bMod_is 12 = .ok (.ifCond .eq 21, 3) := by decide +kernel
theorem dMod_is_15 : decode bMod_is 15 = .ok (.iload_n 3, 1) := by decide +kernel
theorem dMod_is_16 : decode bMod_is 16 = .ok (.iload_n 2, 1) := by decide +kernel
theorem dMod_is_17 : decode bMod_is 17 = .ok (.if_icmp .eq 16, 3) := by decide +kernel
theorem dMod_is_20 : decode bMod_is 20 = .ok (.aload_n 0, 1) := by decide +kernel
theorem dMod_is_21 : decode bMod_is 21 = .ok (.getfield 7, 3) := by decide +kernel
theorem dMod_is_24 : decode bMod_is 24 = .ok (.iload_n 3, 1) := by decide +kernel
theorem dMod_is_25 : decode bMod_is 25 = .ok (.iaload, 1) := by decide +kernel
theorem dMod_is_26 : decode bMod_is 26 = .ok (.istore_n 3, 1) := by decide +kernel
theorem dMod_is_27 : decode bMod_is 27 = .ok (.iinc 4 1, 3) := by decide +kernel
theorem dMod_is_30 : decode bMod_is 30 = .ok (.goto (-25), 3) := by decide +kernel
theorem dMod_is_33 : decode bMod_is 33 = .ok (.iload_n 1, 1) := by decide +kernel
theorem dMod_is_34 : decode bMod_is 34 = .ok (.ifCond .eq 12, 3) := by decide +kernel
theorem dMod_is_37 : decode bMod_is 37 = .ok (.iload_n 3, 1) := by decide +kernel
theorem dMod_is_38 : decode bMod_is 38 = .ok (.iload_n 2, 1) := by decide +kernel
theorem dMod_is_39 : decode bMod_is 39 = .ok (.if_icmp .ne 7, 3) := by decide +kernel
theorem dMod_is_42 : decode bMod_is 42 = .ok (.iconst 1, 1) := by decide +kernel
theorem dMod_is_43 : decode bMod_is 43 = .ok (.goto 4, 3) := by decide +kernel
theorem dMod_is_46 : decode bMod_is 46 = .ok (.iconst 0, 1) := by decide +kernel
theorem dMod_is_47 : decode bMod_is 47 = .ok (.ireturn, 1) := by decide +kernel
def wbMod_is_33 (post : Int32 → zM → Prop) (v1 : Int32) (v2 : Int32) (v3 : Int32) (h : zM) : Prop := ((v1 = 0 → post 0 h) ∧ (¬ v1 = 0 → ((¬ v3 = v2 → post 0 h) ∧ (v3 = v2 → post 1 h))))
def stMod_is_5 (post : Int32 → zM → Prop) (L5 : (Int32 × Int32 × Int32 × Int32 × zM) → Prop) : (Int32 × Int32 × Int32 × Int32 × zM) → Prop := fun s => match s with
  | (v1, v2, v3, v4, h) => (((5 ≤ v4) → wbMod_is_33 post v1 v2 v3 h) ∧ (¬ (5 ≤ v4) → ((v3 = 0 → wbMod_is_33 post v1 v2 v3 h) ∧ (¬ v3 = 0 → ((v3 = v2 → wbMod_is_33 post v1 v2 v3 h) ∧ (¬ v3 = v2 → (vp_in v3 5 ∧ ∀ y26 : Int32, y26 = (h 1 (Int32.toNatClampNeg v3)) → L5 (v1, v2, y26, (v4 + 1), h))))))))
def wpMod_is (x1 : Int32) (x2 : Int32) (h : zM) (post : Int32 → zM → Prop) : Prop := zL (stMod_is_5 post) (x1, x2, x1, 0, h)
abbrev rmMod_is : Room := { frames := 0, cells := 0, slots := 0, locals := 0 }
set_option maxHeartbeats 4000000 in
set_option maxRecDepth 100000 in
theorem cMod_is (l : Launch) (D : va_G) (cI cC cE : ClassId) (ad : Nat → Nat) (A : Nat → Prop) (hJ : zJ A 28 ad) (x1 : Int32) (x2 : Int32) (h : zM) (post : Int32 → zM → Prop) (hw : wpMod_is x1 x2 h post) : Met l yMod_is (.code yMod_is bMod_is 5 (some .boolean) :: zt) rmMod_is (va_Pc [.ref (ad 0), .int x1, .int x2] (zPre D (zty cI cC cE) 28 ad (mF ad cI) A h)) (va_Qi post (zPst D (zty cI cC cE) 28 ad (mF ad cI)) A) 0 0 A := by
  refine Met.ofW (cc := bMod_is) (maxL := 5) (ret := (some .boolean)) (by decide) rfl ?_
  intro p e s m args below meth c s₁ B hml hv
  obtain ⟨rfl, hP, hK, hT, hN⟩ := hv
  have hr := B.returns
  have hlk := B.notSynchronized
  have S : zS p m c bMod_is 5 s _ "CallExplorerModel" := ⟨B.exec, B.bytes, hml, findClass_of_methodNamed B.named, fun w hw => atoms_spec (ws := .code yMod_is bMod_is 5 (some .boolean) :: zt) B.pre w (List.mem_cons_of_mem _ hw)⟩
  have hS : va_S A s.heap s.heap [] := va_S.rf
  have hl := lv_entry ([.ref (ad 0), .int x1, .int x2]) (n := 5) (Nat.le_of_ble_eq_true rfl)
  rw [lg_entry_eq]
  generalize (lg_sl ([.ref (ad 0), .int x1, .int x2]) ++ List.replicate (5 - (lg_sl ([.ref (ad 0), .int x1, .int x2])).length) Slot.unset).toArray = ls at hl ⊢
  have hl : lv_has ls 5 [(0, .ref (ad 0)), (1, .int x1), (2, .int x2)] := hl
  show W p l e rmMod_is s m ([.ref (ad 0), .int x1, .int x2] : List Value).toArray below meth c s.heap [] 0 0 (zQi post D (zty cI cC cE) 28 ad (mF ad cI) A below ([.ref (ad 0), .int x1, .int x2] : List Value).toArray s) _
  have J33 : ∀ (v1 : Int32) (v2 : Int32) (v3 : Int32) (h : zM) (H : Heap) (locs : List Loc) (ls : Array Slot), wbMod_is_33 post v1 v2 v3 h → lv_has ls 5 [(1, .int v1), (2, .int v2), (3, .int v3)] → va_P D zcl (zW 28 ad (mF ad cI) h) H → va_S A s.heap H locs → W p l e rmMod_is s m ([.ref (ad 0), .int x1, .int x2] : List Value).toArray below meth c H locs 0 0 (zQi post D (zty cI cC cE) 28 ad (mF ad cI) A below ([.ref (ad 0), .int x1, .int x2] : List Value).toArray s) (F0 m 33 ls []) := by
    intro v1 v2 v3 h H locs ls hw hl hP hS
    unfold wbMod_is_33 at hw
    refine lv_iload_n S.1 S.2.1 dMod_is_33 rfl (lv_at hl 0 rfl) ?_
    refine lv_if_eq S.1 S.2.1 dMod_is_34 rfl (fun hc => ?_) (fun hc => ?_)
    · have hw := hw.1 hc
      refine lv_iconst (v := 0) S.1 S.2.1 dMod_is_46 (by decide) ?_
      exact zr_iret S hr hlk hK hP hS rfl hw dMod_is_47
    · have hw := hw.2 hc
      refine lv_iload_n S.1 S.2.1 dMod_is_37 rfl (lv_at hl 2 rfl) ?_
      refine lv_iload_n S.1 S.2.1 dMod_is_38 rfl (lv_at hl 1 rfl) ?_
      refine lv_icmp_ne S.1 S.2.1 dMod_is_39 rfl (fun hc => ?_) (fun hc => ?_)
      · have hw := hw.1 hc
        refine lv_iconst (v := 0) S.1 S.2.1 dMod_is_46 (by decide) ?_
        exact zr_iret S hr hlk hK hP hS rfl hw dMod_is_47
      · have hw := hw.2 hc
        refine lv_iconst (v := 1) S.1 S.2.1 dMod_is_42 (by decide) ?_
        refine lv_goto S.1 S.2.1 dMod_is_43 rfl ?_
        exact zr_iret S hr hlk hK hP hS rfl hw dMod_is_47
  have J5 : ∀ (fu : Nat) (v1 : Int32) (v2 : Int32) (v3 : Int32) (v4 : Int32) (h : zM) (H : Heap) (locs : List Loc) (ls : Array Slot), zl (stMod_is_5 post) fu (v1, v2, v3, v4, h) → lv_has ls 5 [(0, .ref (ad 0)), (1, .int v1), (2, .int v2), (3, .int v3), (4, .int v4)] → va_P D zcl (zW 28 ad (mF ad cI) h) H → va_S A s.heap H locs → W p l e rmMod_is s m ([.ref (ad 0), .int x1, .int x2] : List Value).toArray below meth c H locs 0 0 (zQi post D (zty cI cC cE) 28 ad (mF ad cI) A below ([.ref (ad 0), .int x1, .int x2] : List Value).toArray s) (F0 m 5 ls []) := by
    intro fu5
    induction fu5 with
    | zero =>
      intro v1 v2 v3 v4 h H locs ls hw
      exact (zl_0 hw).elim
    | succ fu5 ih5 =>
      intro v1 v2 v3 v4 h H locs ls hw hl hP hS
      have hw := zl_s hw
      generalize zl (stMod_is_5 post) fu5 = L5 at hw ih5
      unfold stMod_is_5 at hw
      dsimp only at hw
      refine lv_iload S.1 S.2.1 dMod_is_5 (lv_at hl 4 rfl) ?_
      refine lv_iconst (v := 5) S.1 S.2.1 dMod_is_7 (by decide) ?_
      refine lv_icmp_ge S.1 S.2.1 dMod_is_8 rfl (fun hc => ?_) (fun hc => ?_)
      · have hw := hw.1 hc
        exact J33 _ _ _ _ _ _ _ hw (lv_sub hl [1, 2, 3] rfl) hP hS
      · have hw := hw.2 hc
        refine lv_iload_n S.1 S.2.1 dMod_is_11 rfl (lv_at hl 3 rfl) ?_
        refine lv_if_eq S.1 S.2.1 dMod_is_12 rfl (fun hc => ?_) (fun hc => ?_)
        · have hw := hw.1 hc
          exact J33 _ _ _ _ _ _ _ hw (lv_sub hl [1, 2, 3] rfl) hP hS
        · have hw := hw.2 hc
          refine lv_iload_n S.1 S.2.1 dMod_is_15 rfl (lv_at hl 3 rfl) ?_
          refine lv_iload_n S.1 S.2.1 dMod_is_16 rfl (lv_at hl 2 rfl) ?_
          refine lv_icmp_eq S.1 S.2.1 dMod_is_17 rfl (fun hc => ?_) (fun hc => ?_)
          · have hw := hw.1 hc
            exact J33 _ _ _ _ _ _ _ hw (lv_sub hl [1, 2, 3] rfl) hP hS
          · have hw := hw.2 hc
            refine lv_aload_n S.1 S.2.1 dMod_is_20 rfl (lv_at hl 0 rfl) ?_
            refine zr_get S hK hP (by decide) (mF_0 _) fMod_parent q830 rfl dMod_is_21 ?_
            refine lv_iload_n S.1 S.2.1 dMod_is_24 rfl (lv_at hl 3 rfl) ?_
            obtain ⟨z25, hw⟩ := hw
            refine zr_ald S hK hP (by decide) (mF_1 _) 0 rfl z25 dMod_is_25 ?_
            refine lv_topi (fun y26 e26 => ?_)
            have hw := hw y26 e26
            refine lv_istore_n (lv' := [(3, .int y26), (0, .ref (ad 0)), (1, .int v1), (2, .int v2), (4, .int v4)]) S.1 S.2.1 dMod_is_26 rfl hl (by decide) rfl (fun ls hl => ?_)
            refine lv_iinc (v := (v4 + 1)) (lv' := [(4, .int (v4 + 1)), (3, .int y26), (0, .ref (ad 0)), (1, .int v1), (2, .int v2)]) (k := 4) S.1 S.2.1 dMod_is_27 hl rfl rfl (by decide) rfl (fun ls hl => ?_)
            refine lv_goto S.1 S.2.1 dMod_is_30 rfl ?_
            exact ih5 _ _ _ _ _ _ _ _ hw (lv_sub hl [2, 3, 4, 1, 0] rfl) hP hS
  unfold wpMod_is at hw
  refine lv_iload_n S.1 S.2.1 dMod_is_0 rfl (lv_at hl 1 rfl) ?_
  refine lv_istore_n (lv' := [(3, .int x1), (0, .ref (ad 0)), (1, .int x1), (2, .int x2)]) S.1 S.2.1 dMod_is_1 rfl hl (by decide) rfl (fun ls hl => ?_)
  refine lv_iconst (v := 0) S.1 S.2.1 dMod_is_2 (by decide) ?_
  refine lv_istore (lv' := [(4, .int 0), (3, .int x1), (0, .ref (ad 0)), (1, .int x1), (2, .int x2)]) S.1 S.2.1 dMod_is_3 hl (by decide) rfl (fun ls hl => ?_)
  obtain ⟨fu, hw⟩ := hw
  exact J5 fu _ _ _ _ _ _ _ _ hw (lv_sub hl [2, 3, 4, 1, 0] rfl) hP hS
/-! Mod.arity -/
theorem dMod_arity_0 : decode bMod_arity 0 = .ok (.iload_n 0, 1) := by decide +kernel
theorem dMod_arity_1 : decode bMod_arity 1 = .ok (.iconst 3, 1) := by decide +kernel
theorem dMod_arity_2 : decode bMod_arity 2 = .ok (.if_icmp .eq 20, 3) := by decide +kernel
theorem dMod_arity_5 : decode bMod_arity 5 = .ok (.iload_n 0, 1) := by decide +kernel
theorem dMod_arity_6 : decode bMod_arity 6 = .ok (.iconst 4, 1) := by decide +kernel
theorem dMod_arity_7 : decode bMod_arity 7 = .ok (.if_icmp .eq 15, 3) := by decide +kernel
theorem dMod_arity_10 : decode bMod_arity 10 = .ok (.iload_n 0, 1) := by decide +kernel
theorem dMod_arity_11 : decode bMod_arity 11 = .ok (.bipush 6, 2) := by decide +kernel
theorem dMod_arity_13 : decode bMod_arity 13 = .ok (.if_icmp .eq 9, 3) := by decide +kernel
theorem dMod_arity_16 : decode bMod_arity 16 = .ok (.iload_n 0, 1) := by decide +kernel
theorem dMod_arity_17 : decode bMod_arity 17 = .ok (.bipush 9, 2) := by decide +kernel
theorem dMod_arity_19 : decode bMod_arity 19 = .ok (.if_icmp .ne 7, 3) := by decide +kernel
theorem dMod_arity_22 : decode bMod_arity 22 = .ok (.iconst 2, 1) := by decide +kernel
theorem dMod_arity_23 : decode bMod_arity 23 = .ok (.goto 4, 3) := by decide +kernel
theorem dMod_arity_26 : decode bMod_arity 26 = .ok (.iconst 1, 1) := by decide +kernel
theorem dMod_arity_27 : decode bMod_arity 27 = .ok (.ireturn, 1) := by decide +kernel
def wpMod_arity (x0 : Int32) (h : zM) (post : Int32 → zM → Prop) : Prop := ((x0 = 3 → post 2 h) ∧ (¬ x0 = 3 → ((x0 = 4 → post 2 h) ∧ (¬ x0 = 4 → ((x0 = 6 → post 2 h) ∧ (¬ x0 = 6 → ((¬ x0 = 9 → post 1 h) ∧ (x0 = 9 → post 2 h))))))))
abbrev rmMod_arity : Room := { frames := 0, cells := 0, slots := 0, locals := 0 }
set_option maxHeartbeats 4000000 in
set_option maxRecDepth 100000 in
theorem cMod_arity (l : Launch) (D : va_G) (cI cC cE : ClassId) (ad : Nat → Nat) (A : Nat → Prop) (hJ : zJ A 28 ad) (x0 : Int32) (h : zM) (post : Int32 → zM → Prop) (hw : wpMod_arity x0 h post) : Met l yMod_arity (.code yMod_arity bMod_arity 1 (some .int) :: zt) rmMod_arity (va_Pc [.int x0] (zPre D (zty cI cC cE) 28 ad (mF ad cI) A h)) (va_Qi post (zPst D (zty cI cC cE) 28 ad (mF ad cI)) A) 0 0 A := by
  refine Met.ofW (cc := bMod_arity) (maxL := 1) (ret := (some .int)) (by decide) rfl ?_
  intro p e s m args below meth c s₁ B hml hv
  obtain ⟨rfl, hP, hK, hT, hN⟩ := hv
  have hr := B.returns
  have hlk := B.notSynchronized
  have S : zS p m c bMod_arity 1 s _ "CallExplorerModel" := ⟨B.exec, B.bytes, hml, findClass_of_methodNamed B.named, fun w hw => atoms_spec (ws := .code yMod_arity bMod_arity 1 (some .int) :: zt) B.pre w (List.mem_cons_of_mem _ hw)⟩
  have hS : va_S A s.heap s.heap [] := va_S.rf
  have hl := lv_entry ([.int x0]) (n := 1) (Nat.le_of_ble_eq_true rfl)
  rw [lg_entry_eq]
  generalize (lg_sl ([.int x0]) ++ List.replicate (1 - (lg_sl ([.int x0])).length) Slot.unset).toArray = ls at hl ⊢
  have hl : lv_has ls 1 [(0, .int x0)] := hl
  show W p l e rmMod_arity s m ([.int x0] : List Value).toArray below meth c s.heap [] 0 0 (zQi post D (zty cI cC cE) 28 ad (mF ad cI) A below ([.int x0] : List Value).toArray s) _
  unfold wpMod_arity at hw
  refine lv_iload_n S.1 S.2.1 dMod_arity_0 rfl (lv_at hl 0 rfl) ?_
  refine lv_iconst (v := 3) S.1 S.2.1 dMod_arity_1 (by decide) ?_
  refine lv_icmp_eq S.1 S.2.1 dMod_arity_2 rfl (fun hc => ?_) (fun hc => ?_)
  · have hw := hw.1 hc
    refine lv_iconst (v := 2) S.1 S.2.1 dMod_arity_22 (by decide) ?_
    refine lv_goto S.1 S.2.1 dMod_arity_23 rfl ?_
    exact zr_iret S hr hlk hK hP hS rfl hw dMod_arity_27
  · have hw := hw.2 hc
    refine lv_iload_n S.1 S.2.1 dMod_arity_5 rfl (lv_at hl 0 rfl) ?_
    refine lv_iconst (v := 4) S.1 S.2.1 dMod_arity_6 (by decide) ?_
    refine lv_icmp_eq S.1 S.2.1 dMod_arity_7 rfl (fun hc => ?_) (fun hc => ?_)
    · have hw := hw.1 hc
      refine lv_iconst (v := 2) S.1 S.2.1 dMod_arity_22 (by decide) ?_
      refine lv_goto S.1 S.2.1 dMod_arity_23 rfl ?_
      exact zr_iret S hr hlk hK hP hS rfl hw dMod_arity_27
    · have hw := hw.2 hc
      refine lv_iload_n S.1 S.2.1 dMod_arity_10 rfl (lv_at hl 0 rfl) ?_
      refine lv_bipush (v := 6) S.1 S.2.1 dMod_arity_11 (by decide) ?_
      refine lv_icmp_eq S.1 S.2.1 dMod_arity_13 rfl (fun hc => ?_) (fun hc => ?_)
      · have hw := hw.1 hc
        refine lv_iconst (v := 2) S.1 S.2.1 dMod_arity_22 (by decide) ?_
        refine lv_goto S.1 S.2.1 dMod_arity_23 rfl ?_
        exact zr_iret S hr hlk hK hP hS rfl hw dMod_arity_27
      · have hw := hw.2 hc
        refine lv_iload_n S.1 S.2.1 dMod_arity_16 rfl (lv_at hl 0 rfl) ?_
        refine lv_bipush (v := 9) S.1 S.2.1 dMod_arity_17 (by decide) ?_
        refine lv_icmp_ne S.1 S.2.1 dMod_arity_19 rfl (fun hc => ?_) (fun hc => ?_)
        · have hw := hw.1 hc
          refine lv_iconst (v := 1) S.1 S.2.1 dMod_arity_26 (by decide) ?_
          exact zr_iret S hr hlk hK hP hS rfl hw dMod_arity_27
        · have hw := hw.2 hc
          refine lv_iconst (v := 2) S.1 S.2.1 dMod_arity_22 (by decide) ?_
          refine lv_goto S.1 S.2.1 dMod_arity_23 rfl ?_
          exact zr_iret S hr hlk hK hP hS rfl hw dMod_arity_27
/-! Mod.wants -/
theorem dMod_wants_0 : decode bMod_wants 0 = .ok (.aload_n 0, 1) := by decide +kernel
theorem dMod_wants_1 : decode bMod_wants 1 = .ok (.getfield 19, 3) := by decide +kernel
theorem dMod_wants_4 : decode bMod_wants 4 = .ok (.iload_n 1, 1) := by decide +kernel
theorem dMod_wants_5 : decode bMod_wants 5 = .ok (.iaload, 1) := by decide +kernel
theorem dMod_wants_6 : decode bMod_wants 6 = .ok (.istore_n 3, 1) := by decide +kernel
theorem dMod_wants_7 : decode bMod_wants 7 = .ok (.iload_n 2, 1) := by decide +kernel
theorem dMod_wants_8 : decode bMod_wants 8 = .ok (.ifCond .ne 32, 3) := by decide +kernel
theorem dMod_wants_11 : decode bMod_wants 11 = .ok (.iload_n 3, 1) := by decide +kernel
theorem dMod_wants_12 : decode bMod_wants 12 = .ok (.ifCond .ne 7, 3) := by decide +kernel
theorem dMod_wants_15 : decode bMod_wants 15 = .ok (.iconst 0, 1) := by decide +kernel
theorem dMod_wants_16 : decode bMod_wants 16 = .ok (.goto 23, 3) := by decide +kernel
theorem dMod_wants_19 : decode bMod_wants 19 = .ok (.iload_n 3, 1) := by decide +kernel
theorem dMod_wants_20 : decode bMod_wants 20 = .ok (.iconst 1, 1) := by decide +kernel
theorem dMod_wants_21 : decode bMod_wants 21 = .ok (.if_icmp .ne 12, 3) := by decide +kernel
theorem dMod_wants_24 : decode bMod_wants 24 = .ok (.aload_n 0, 1) := by decide +kernel
theorem dMod_wants_25 : decode bMod_wants 25 = .ok (.getfield 25, 3) := by decide +kernel
theorem dMod_wants_28 : decode bMod_wants 28 = .ok (.iload_n 1, 1) := by decide +kernel
theorem dMod_wants_29 : decode bMod_wants 29 = .ok (.iaload, 1) := by decide +kernel
theorem dMod_wants_30 : decode bMod_wants 30 = .ok (.goto 9, 3) := by decide +kernel
theorem dMod_wants_33 : decode bMod_wants 33 = .ok (.aload_n 0, 1) := by decide +kernel
theorem dMod_wants_34 : decode bMod_wants 34 = .ok (.getfield 22, 3) := by decide +kernel
theorem dMod_wants_37 : decode bMod_wants 37 = .ok (.iload_n 1, 1) := by decide +kernel
theorem dMod_wants_38 : decode bMod_wants 38 = .ok (.iaload, 1) := by decide +kernel
theorem dMod_wants_39 : decode bMod_wants 39 = .ok (.ireturn, 1) := by decide +kernel
theorem dMod_wants_40 : decode bMod_wants 40 = .ok (.iload_n 3, 1) := by decide +kernel
theorem dMod_wants_41 : decode bMod_wants 41 = .ok (.iconst 3, 1) := by decide +kernel
theorem dMod_wants_42 : decode bMod_wants 42 = .ok (.if_icmp .eq 9, 3) := by decide +kernel
theorem dMod_wants_45 : decode bMod_wants 45 = .ok (.iload_n 3, 1) := by decide +kernel
theorem dMod_wants_46 : decode bMod_wants 46 = .ok (.bipush 6, 2) := by decide +kernel
theorem dMod_wants_48 : decode bMod_wants 48 = .ok (.if_icmp .ne 7, 3) := by decide +kernel
theorem dMod_wants_51 : decode bMod_wants 51 = .ok (.iconst 0, 1) := by decide +kernel
theorem dMod_wants_52 : decode bMod_wants 52 = .ok (.goto 9, 3) := by decide +kernel
theorem dMod_wants_55 : decode bMod_wants 55 = .ok (.aload_n 0, 1) := by decide +kernel
theorem dMod_wants_56 : decode bMod_wants 56 = .ok (.getfield 25, 3) := by decide +kernel
theorem dMod_wants_59 : decode bMod_wants 59 = .ok (.iload_n 1, 1) := by decide +kernel
theorem dMod_wants_60 : decode bMod_wants 60 = .ok (.iaload, 1) := by decide +kernel
theorem dMod_wants_61 : decode bMod_wants 61 = .ok (.ireturn, 1) := by decide +kernel
def wpMod_wants (x1 : Int32) (x2 : Int32) (h : zM) (post : Int32 → zM → Prop) : Prop := (vp_in x1 10 ∧ ∀ y6 : Int32, y6 = (h 4 (Int32.toNatClampNeg x1)) → ((¬ x2 = 0 → ((y6 = 3 → post 0 h) ∧ (¬ y6 = 3 → ((¬ y6 = 6 → (vp_in x1 10 ∧ post (h 6 (Int32.toNatClampNeg x1)) h)) ∧ (y6 = 6 → post 0 h))))) ∧ (x2 = 0 → ((¬ y6 = 0 → ((¬ y6 = 1 → (vp_in x1 10 ∧ post (h 5 (Int32.toNatClampNeg x1)) h)) ∧ (y6 = 1 → (vp_in x1 10 ∧ post (h 6 (Int32.toNatClampNeg x1)) h)))) ∧ (y6 = 0 → post 0 h)))))
abbrev rmMod_wants : Room := { frames := 0, cells := 0, slots := 0, locals := 0 }
set_option maxHeartbeats 4000000 in
set_option maxRecDepth 100000 in
theorem cMod_wants (l : Launch) (D : va_G) (cI cC cE : ClassId) (ad : Nat → Nat) (A : Nat → Prop) (hJ : zJ A 28 ad) (x1 : Int32) (x2 : Int32) (h : zM) (post : Int32 → zM → Prop) (hw : wpMod_wants x1 x2 h post) : Met l yMod_wants (.code yMod_wants bMod_wants 4 (some .int) :: zt) rmMod_wants (va_Pc [.ref (ad 0), .int x1, .int x2] (zPre D (zty cI cC cE) 28 ad (mF ad cI) A h)) (va_Qi post (zPst D (zty cI cC cE) 28 ad (mF ad cI)) A) 0 0 A := by
  refine Met.ofW (cc := bMod_wants) (maxL := 4) (ret := (some .int)) (by decide) rfl ?_
  intro p e s m args below meth c s₁ B hml hv
  obtain ⟨rfl, hP, hK, hT, hN⟩ := hv
  have hr := B.returns
  have hlk := B.notSynchronized
  have S : zS p m c bMod_wants 4 s _ "CallExplorerModel" := ⟨B.exec, B.bytes, hml, findClass_of_methodNamed B.named, fun w hw => atoms_spec (ws := .code yMod_wants bMod_wants 4 (some .int) :: zt) B.pre w (List.mem_cons_of_mem _ hw)⟩
  have hS : va_S A s.heap s.heap [] := va_S.rf
  have hl := lv_entry ([.ref (ad 0), .int x1, .int x2]) (n := 4) (Nat.le_of_ble_eq_true rfl)
  rw [lg_entry_eq]
  generalize (lg_sl ([.ref (ad 0), .int x1, .int x2]) ++ List.replicate (4 - (lg_sl ([.ref (ad 0), .int x1, .int x2])).length) Slot.unset).toArray = ls at hl ⊢
  have hl : lv_has ls 4 [(0, .ref (ad 0)), (1, .int x1), (2, .int x2)] := hl
  show W p l e rmMod_wants s m ([.ref (ad 0), .int x1, .int x2] : List Value).toArray below meth c s.heap [] 0 0 (zQi post D (zty cI cC cE) 28 ad (mF ad cI) A below ([.ref (ad 0), .int x1, .int x2] : List Value).toArray s) _
  unfold wpMod_wants at hw
  refine lv_aload_n S.1 S.2.1 dMod_wants_0 rfl (lv_at hl 0 rfl) ?_
  refine zr_get S hK hP (by decide) (mF_0 _) fMod_kind q834 rfl dMod_wants_1 ?_
  refine lv_iload_n S.1 S.2.1 dMod_wants_4 rfl (lv_at hl 1 rfl) ?_
  obtain ⟨z5, hw⟩ := hw
  refine zr_ald S hK hP (by decide) (mF_4 _) 0 rfl z5 dMod_wants_5 ?_
  refine lv_topi (fun y6 e6 => ?_)
  have hw := hw y6 e6
  refine lv_istore_n (lv' := [(3, .int y6), (0, .ref (ad 0)), (1, .int x1), (2, .int x2)]) S.1 S.2.1 dMod_wants_6 rfl hl (by decide) rfl (fun ls hl => ?_)
  refine lv_iload_n S.1 S.2.1 dMod_wants_7 rfl (lv_at hl 3 rfl) ?_
  refine lv_if_ne S.1 S.2.1 dMod_wants_8 rfl (fun hc => ?_) (fun hc => ?_)
  · have hw := hw.1 hc
    refine lv_iload_n S.1 S.2.1 dMod_wants_40 rfl (lv_at hl 0 rfl) ?_
    refine lv_iconst (v := 3) S.1 S.2.1 dMod_wants_41 (by decide) ?_
    refine lv_icmp_eq S.1 S.2.1 dMod_wants_42 rfl (fun hc => ?_) (fun hc => ?_)
    · have hw := hw.1 hc
      refine lv_iconst (v := 0) S.1 S.2.1 dMod_wants_51 (by decide) ?_
      refine lv_goto S.1 S.2.1 dMod_wants_52 rfl ?_
      exact zr_iret S hr hlk hK hP hS rfl hw dMod_wants_61
    · have hw := hw.2 hc
      refine lv_iload_n S.1 S.2.1 dMod_wants_45 rfl (lv_at hl 0 rfl) ?_
      refine lv_bipush (v := 6) S.1 S.2.1 dMod_wants_46 (by decide) ?_
      refine lv_icmp_ne S.1 S.2.1 dMod_wants_48 rfl (fun hc => ?_) (fun hc => ?_)
      · have hw := hw.1 hc
        refine lv_aload_n S.1 S.2.1 dMod_wants_55 rfl (lv_at hl 1 rfl) ?_
        refine zr_get S hK hP (by decide) (mF_0 _) fMod_second q836 rfl dMod_wants_56 ?_
        refine lv_iload_n S.1 S.2.1 dMod_wants_59 rfl (lv_at hl 2 rfl) ?_
        obtain ⟨z60, hw⟩ := hw
        refine zr_ald S hK hP (by decide) (mF_6 _) 0 rfl z60 dMod_wants_60 ?_
        exact zr_iret S hr hlk hK hP hS rfl hw dMod_wants_61
      · have hw := hw.2 hc
        refine lv_iconst (v := 0) S.1 S.2.1 dMod_wants_51 (by decide) ?_
        refine lv_goto S.1 S.2.1 dMod_wants_52 rfl ?_
        exact zr_iret S hr hlk hK hP hS rfl hw dMod_wants_61
  · have hw := hw.2 hc
    refine lv_iload_n S.1 S.2.1 dMod_wants_11 rfl (lv_at hl 0 rfl) ?_
    refine lv_if_ne S.1 S.2.1 dMod_wants_12 rfl (fun hc => ?_) (fun hc => ?_)
    · have hw := hw.1 hc
      refine lv_iload_n S.1 S.2.1 dMod_wants_19 rfl (lv_at hl 0 rfl) ?_
      refine lv_iconst (v := 1) S.1 S.2.1 dMod_wants_20 (by decide) ?_
      refine lv_icmp_ne S.1 S.2.1 dMod_wants_21 rfl (fun hc => ?_) (fun hc => ?_)
      · have hw := hw.1 hc
        refine lv_aload_n S.1 S.2.1 dMod_wants_33 rfl (lv_at hl 1 rfl) ?_
        refine zr_get S hK hP (by decide) (mF_0 _) fMod_first q835 rfl dMod_wants_34 ?_
        refine lv_iload_n S.1 S.2.1 dMod_wants_37 rfl (lv_at hl 2 rfl) ?_
        obtain ⟨z38, hw⟩ := hw
        refine zr_ald S hK hP (by decide) (mF_5 _) 0 rfl z38 dMod_wants_38 ?_
        exact zr_iret S hr hlk hK hP hS rfl hw dMod_wants_39
      · have hw := hw.2 hc
        refine lv_aload_n S.1 S.2.1 dMod_wants_24 rfl (lv_at hl 1 rfl) ?_
        refine zr_get S hK hP (by decide) (mF_0 _) fMod_second q836 rfl dMod_wants_25 ?_
        refine lv_iload_n S.1 S.2.1 dMod_wants_28 rfl (lv_at hl 2 rfl) ?_
        obtain ⟨z29, hw⟩ := hw
        refine zr_ald S hK hP (by decide) (mF_6 _) 0 rfl z29 dMod_wants_29 ?_
        refine lv_goto S.1 S.2.1 dMod_wants_30 rfl ?_
        exact zr_iret S hr hlk hK hP hS rfl hw dMod_wants_39
    · have hw := hw.2 hc
      refine lv_iconst (v := 0) S.1 S.2.1 dMod_wants_15 (by decide) ?_
      refine lv_goto S.1 S.2.1 dMod_wants_16 rfl ?_
      exact zr_iret S hr hlk hK hP hS rfl hw dMod_wants_39
/-! Mod.gives -/
theorem dMod_gives_0 : decode bMod_gives 0 = .ok (.aload_n 0, 1) := by decide +kernel
theorem dMod_gives_1 : decode bMod_gives 1 = .ok (.getfield 19, 3) := by decide +kernel
theorem dMod_gives_4 : decode bMod_gives 4 = .ok (.iload_n 1, 1) := by decide +kernel
theorem dMod_gives_5 : decode bMod_gives 5 = .ok (.iaload, 1) := by decide +kernel
theorem dMod_gives_6 : decode bMod_gives 6 = .ok (.istore_n 2, 1) := by decide +kernel
theorem dMod_gives_7 : decode bMod_gives 7 = .ok (.iload_n 2, 1) := by decide +kernel
theorem dMod_gives_8 : decode bMod_gives 8 = .ok (.ifCond .eq 18, 3) := by decide +kernel
theorem dMod_gives_11 : decode bMod_gives 11 = .ok (.iload_n 2, 1) := by decide +kernel
theorem dMod_gives_12 : decode bMod_gives 12 = .ok (.iconst 1, 1) := by decide +kernel
theorem dMod_gives_13 : decode bMod_gives 13 = .ok (.if_icmp .eq 13, 3) := by decide +kernel
theorem dMod_gives_16 : decode bMod_gives 16 = .ok (.iload_n 2, 1) := by decide +kernel
theorem dMod_gives_17 : decode bMod_gives 17 = .ok (.iconst 3, 1) := by decide +kernel
theorem dMod_gives_18 : decode bMod_gives 18 = .ok (.if_icmp .eq 8, 3) := by decide +kernel
theorem dMod_gives_21 : decode bMod_gives 21 = .ok (.iload_n 2, 1) := by decide +kernel
theorem dMod_gives_22 : decode bMod_gives 22 = .ok (.iconst 4, 1) := by decide +kernel
theorem dMod_gives_23 : decode bMod_gives 23 = .ok (.if_icmp .ne 12, 3) := by decide +kernel
theorem dMod_gives_26 : decode bMod_gives 26 = .ok (.aload_n 0, 1) := by decide +kernel
theorem dMod_gives_27 : decode bMod_gives 27 = .ok (.getfield 22, 3) := by decide +kernel
theorem dMod_gives_30 : decode bMod_gives 30 = .ok (.iload_n 1, 1) := by decide +kernel
theorem dMod_gives_31 : decode bMod_gives 31 = .ok (.iaload, 1) := by decide +kernel
theorem dMod_gives_32 : decode bMod_gives 32 = .ok (.goto 18, 3) := by decide +kernel
theorem dMod_gives_35 : decode bMod_gives 35 = .ok (.iload_n 2, 1) := by decide +kernel
theorem dMod_gives_36 : decode bMod_gives 36 = .ok (.iconst 5, 1) := by decide +kernel
theorem dMod_gives_37 : decode bMod_gives 37 = .ok (.if_icmp .ne 12, 3) := by decide +kernel
theorem dMod_gives_40 : decode bMod_gives 40 = .ok (.aload_n 0, 1) := by decide +kernel
theorem dMod_gives_41 : decode bMod_gives 41 = .ok (.getfield 25, 3) := by decide +kernel
theorem dMod_gives_44 : decode bMod_gives 44 = .ok (.iload_n 1, 1) := by decide +kernel
theorem dMod_gives_45 : decode bMod_gives 45 = .ok (.iaload, 1) := by decide +kernel
theorem dMod_gives_46 : decode bMod_gives 46 = .ok (.goto 4, 3) := by decide +kernel
theorem dMod_gives_49 : decode bMod_gives 49 = .ok (.iconst 0, 1) := by decide +kernel
theorem dMod_gives_50 : decode bMod_gives 50 = .ok (.ireturn, 1) := by decide +kernel
def wbMod_gives_26 (post : Int32 → zM → Prop) (v1 : Int32) (h : zM) : Prop := (vp_in v1 10 ∧ post (h 5 (Int32.toNatClampNeg v1)) h)
def wpMod_gives (x1 : Int32) (h : zM) (post : Int32 → zM → Prop) : Prop := (vp_in x1 10 ∧ ∀ y6 : Int32, y6 = (h 4 (Int32.toNatClampNeg x1)) → ((y6 = 0 → wbMod_gives_26 post x1 h) ∧ (¬ y6 = 0 → ((y6 = 1 → wbMod_gives_26 post x1 h) ∧ (¬ y6 = 1 → ((y6 = 3 → wbMod_gives_26 post x1 h) ∧ (¬ y6 = 3 → ((¬ y6 = 4 → ((¬ y6 = 5 → post 0 h) ∧ (y6 = 5 → (vp_in x1 10 ∧ post (h 6 (Int32.toNatClampNeg x1)) h)))) ∧ (y6 = 4 → wbMod_gives_26 post x1 h)))))))))
abbrev rmMod_gives : Room := { frames := 0, cells := 0, slots := 0, locals := 0 }
set_option maxHeartbeats 4000000 in
set_option maxRecDepth 100000 in
theorem cMod_gives (l : Launch) (D : va_G) (cI cC cE : ClassId) (ad : Nat → Nat) (A : Nat → Prop) (hJ : zJ A 28 ad) (x1 : Int32) (h : zM) (post : Int32 → zM → Prop) (hw : wpMod_gives x1 h post) : Met l yMod_gives (.code yMod_gives bMod_gives 3 (some .int) :: zt) rmMod_gives (va_Pc [.ref (ad 0), .int x1] (zPre D (zty cI cC cE) 28 ad (mF ad cI) A h)) (va_Qi post (zPst D (zty cI cC cE) 28 ad (mF ad cI)) A) 0 0 A := by
  refine Met.ofW (cc := bMod_gives) (maxL := 3) (ret := (some .int)) (by decide) rfl ?_
  intro p e s m args below meth c s₁ B hml hv
  obtain ⟨rfl, hP, hK, hT, hN⟩ := hv
  have hr := B.returns
  have hlk := B.notSynchronized
  have S : zS p m c bMod_gives 3 s _ "CallExplorerModel" := ⟨B.exec, B.bytes, hml, findClass_of_methodNamed B.named, fun w hw => atoms_spec (ws := .code yMod_gives bMod_gives 3 (some .int) :: zt) B.pre w (List.mem_cons_of_mem _ hw)⟩
  have hS : va_S A s.heap s.heap [] := va_S.rf
  have hl := lv_entry ([.ref (ad 0), .int x1]) (n := 3) (Nat.le_of_ble_eq_true rfl)
  rw [lg_entry_eq]
  generalize (lg_sl ([.ref (ad 0), .int x1]) ++ List.replicate (3 - (lg_sl ([.ref (ad 0), .int x1])).length) Slot.unset).toArray = ls at hl ⊢
  have hl : lv_has ls 3 [(0, .ref (ad 0)), (1, .int x1)] := hl
  show W p l e rmMod_gives s m ([.ref (ad 0), .int x1] : List Value).toArray below meth c s.heap [] 0 0 (zQi post D (zty cI cC cE) 28 ad (mF ad cI) A below ([.ref (ad 0), .int x1] : List Value).toArray s) _
  have J26 : ∀ (v1 : Int32) (h : zM) (H : Heap) (locs : List Loc) (ls : Array Slot), wbMod_gives_26 post v1 h → lv_has ls 3 [(0, .ref (ad 0)), (1, .int v1)] → va_P D zcl (zW 28 ad (mF ad cI) h) H → va_S A s.heap H locs → W p l e rmMod_gives s m ([.ref (ad 0), .int x1] : List Value).toArray below meth c H locs 0 0 (zQi post D (zty cI cC cE) 28 ad (mF ad cI) A below ([.ref (ad 0), .int x1] : List Value).toArray s) (F0 m 26 ls []) := by
    intro v1 h H locs ls hw hl hP hS
    unfold wbMod_gives_26 at hw
    refine lv_aload_n S.1 S.2.1 dMod_gives_26 rfl (lv_at hl 0 rfl) ?_
    refine zr_get S hK hP (by decide) (mF_0 _) fMod_first q835 rfl dMod_gives_27 ?_
    refine lv_iload_n S.1 S.2.1 dMod_gives_30 rfl (lv_at hl 1 rfl) ?_
    obtain ⟨z31, hw⟩ := hw
    refine zr_ald S hK hP (by decide) (mF_5 _) 0 rfl z31 dMod_gives_31 ?_
    refine lv_goto S.1 S.2.1 dMod_gives_32 rfl ?_
    exact zr_iret S hr hlk hK hP hS rfl hw dMod_gives_50
  unfold wpMod_gives at hw
  refine lv_aload_n S.1 S.2.1 dMod_gives_0 rfl (lv_at hl 0 rfl) ?_
  refine zr_get S hK hP (by decide) (mF_0 _) fMod_kind q834 rfl dMod_gives_1 ?_
  refine lv_iload_n S.1 S.2.1 dMod_gives_4 rfl (lv_at hl 1 rfl) ?_
  obtain ⟨z5, hw⟩ := hw
  refine zr_ald S hK hP (by decide) (mF_4 _) 0 rfl z5 dMod_gives_5 ?_
  refine lv_topi (fun y6 e6 => ?_)
  have hw := hw y6 e6
  refine lv_istore_n (lv' := [(2, .int y6), (0, .ref (ad 0)), (1, .int x1)]) S.1 S.2.1 dMod_gives_6 rfl hl (by decide) rfl (fun ls hl => ?_)
  refine lv_iload_n S.1 S.2.1 dMod_gives_7 rfl (lv_at hl 0 rfl) ?_
  refine lv_if_eq S.1 S.2.1 dMod_gives_8 rfl (fun hc => ?_) (fun hc => ?_)
  · have hw := hw.1 hc
    exact J26 _ _ _ _ _ hw (lv_sub hl [1, 2] rfl) hP hS
  · have hw := hw.2 hc
    refine lv_iload_n S.1 S.2.1 dMod_gives_11 rfl (lv_at hl 0 rfl) ?_
    refine lv_iconst (v := 1) S.1 S.2.1 dMod_gives_12 (by decide) ?_
    refine lv_icmp_eq S.1 S.2.1 dMod_gives_13 rfl (fun hc => ?_) (fun hc => ?_)
    · have hw := hw.1 hc
      exact J26 _ _ _ _ _ hw (lv_sub hl [1, 2] rfl) hP hS
    · have hw := hw.2 hc
      refine lv_iload_n S.1 S.2.1 dMod_gives_16 rfl (lv_at hl 0 rfl) ?_
      refine lv_iconst (v := 3) S.1 S.2.1 dMod_gives_17 (by decide) ?_
      refine lv_icmp_eq S.1 S.2.1 dMod_gives_18 rfl (fun hc => ?_) (fun hc => ?_)
      · have hw := hw.1 hc
        exact J26 _ _ _ _ _ hw (lv_sub hl [1, 2] rfl) hP hS
      · have hw := hw.2 hc
        refine lv_iload_n S.1 S.2.1 dMod_gives_21 rfl (lv_at hl 0 rfl) ?_
        refine lv_iconst (v := 4) S.1 S.2.1 dMod_gives_22 (by decide) ?_
        refine lv_icmp_ne S.1 S.2.1 dMod_gives_23 rfl (fun hc => ?_) (fun hc => ?_)
        · have hw := hw.1 hc
          refine lv_iload_n S.1 S.2.1 dMod_gives_35 rfl (lv_at hl 0 rfl) ?_
          refine lv_iconst (v := 5) S.1 S.2.1 dMod_gives_36 (by decide) ?_
          refine lv_icmp_ne S.1 S.2.1 dMod_gives_37 rfl (fun hc => ?_) (fun hc => ?_)
          · have hw := hw.1 hc
            refine lv_iconst (v := 0) S.1 S.2.1 dMod_gives_49 (by decide) ?_
            exact zr_iret S hr hlk hK hP hS rfl hw dMod_gives_50
          · have hw := hw.2 hc
            refine lv_aload_n S.1 S.2.1 dMod_gives_40 rfl (lv_at hl 1 rfl) ?_
            refine zr_get S hK hP (by decide) (mF_0 _) fMod_second q836 rfl dMod_gives_41 ?_
            refine lv_iload_n S.1 S.2.1 dMod_gives_44 rfl (lv_at hl 2 rfl) ?_
            obtain ⟨z45, hw⟩ := hw
            refine zr_ald S hK hP (by decide) (mF_6 _) 0 rfl z45 dMod_gives_45 ?_
            refine lv_goto S.1 S.2.1 dMod_gives_46 rfl ?_
            exact zr_iret S hr hlk hK hP hS rfl hw dMod_gives_50
        · have hw := hw.2 hc
          exact J26 _ _ _ _ _ hw (lv_sub hl [1, 2] rfl) hP hS
/-! Mod.made -/
theorem dMod_made_0 : decode bMod_made 0 = .ok (.aload_n 0, 1) := by decide +kernel
theorem dMod_made_1 : decode bMod_made 1 = .ok (.getfield 71, 3) := by decide +kernel
theorem dMod_made_4 : decode bMod_made 4 = .ok (.aload_n 0, 1) := by decide +kernel
theorem dMod_made_5 : decode bMod_made 5 = .ok (.getfield 111, 3) := by decide +kernel
theorem dMod_made_8 : decode bMod_made 8 = .ok (.iload_n 1, 1) := by decide +kernel
theorem dMod_made_9 : decode bMod_made 9 = .ok (.iastore, 1) := by decide +kernel
theorem dMod_made_10 : decode bMod_made 10 = .ok (.aload_n 0, 1) := by decide +kernel
theorem dMod_made_11 : decode bMod_made 11 = .ok (.getfield 74, 3) := by decide +kernel
theorem dMod_made_14 : decode bMod_made 14 = .ok (.aload_n 0, 1) := by decide +kernel
theorem dMod_made_15 : decode bMod_made 15 = .ok (.getfield 111, 3) := by decide +kernel
theorem dMod_made_18 : decode bMod_made 18 = .ok (.iload_n 2, 1) := by decide +kernel
theorem dMod_made_19 : decode bMod_made 19 = .ok (.iastore, 1) := by decide +kernel
theorem dMod_made_20 : decode bMod_made 20 = .ok (.aload_n 0, 1) := by decide +kernel
theorem dMod_made_21 : decode bMod_made 21 = .ok (.getfield 77, 3) := by decide +kernel
theorem dMod_made_24 : decode bMod_made 24 = .ok (.aload_n 0, 1) := by decide +kernel
theorem dMod_made_25 : decode bMod_made 25 = .ok (.getfield 111, 3) := by decide +kernel
theorem dMod_made_28 : decode bMod_made 28 = .ok (.iload_n 3, 1) := by decide +kernel
theorem dMod_made_29 : decode bMod_made 29 = .ok (.iastore, 1) := by decide +kernel
theorem dMod_made_30 : decode bMod_made 30 = .ok (.aload_n 0, 1) := by decide +kernel
theorem dMod_made_31 : decode bMod_made 31 = .ok (.dup, 1) := by decide +kernel
theorem dMod_made_32 : decode bMod_made 32 = .ok (.getfield 111, 3) := by decide +kernel
theorem dMod_made_35 : decode bMod_made 35 = .ok (.iconst 1, 1) := by decide +kernel
theorem dMod_made_36 : decode bMod_made 36 = .ok (.iadd, 1) := by decide +kernel
theorem dMod_made_37 : decode bMod_made 37 = .ok (.putfield 111, 3) := by decide +kernel
theorem dMod_made_40 : decode bMod_made 40 = .ok (.aload_n 0, 1) := by decide +kernel
theorem dMod_made_41 : decode bMod_made 41 = .ok (.getfield 111, 3) := by decide +kernel
theorem dMod_made_44 : decode bMod_made 44 = .ok (.iconst 1, 1) := by decide +kernel
theorem dMod_made_45 : decode bMod_made 45 = .ok (.isub, 1) := by decide +kernel
theorem dMod_made_46 : decode bMod_made 46 = .ok (.ireturn, 1) := by decide +kernel
def wpMod_made (x1 : Int32) (x2 : Int32) (x3 : Int32) (h : zM) (post : Int32 → zM → Prop) : Prop := (vp_in (h 0 25) 10 ∧ ∀ h9 : zM, h9 = zu h 20 (Int32.toNatClampNeg (h 0 25)) x1 → (vp_in (h9 0 25) 10 ∧ ∀ h19 : zM, h19 = zu h9 21 (Int32.toNatClampNeg (h9 0 25)) x2 → (vp_in (h19 0 25) 10 ∧ ∀ h29 : zM, h29 = zu h19 22 (Int32.toNatClampNeg (h19 0 25)) x3 → ∀ h37 : zM, h37 = zu h29 0 25 ((h29 0 25) + 1) → post ((h37 0 25) - 1) h37)))
abbrev rmMod_made : Room := { frames := 0, cells := 0, slots := 0, locals := 0 }
set_option maxHeartbeats 4000000 in
set_option maxRecDepth 100000 in
theorem cMod_made (l : Launch) (D : va_G) (cI cC cE : ClassId) (ad : Nat → Nat) (A : Nat → Prop) (hJ : zJ A 28 ad) (x1 : Int32) (x2 : Int32) (x3 : Int32) (h : zM) (post : Int32 → zM → Prop) (hw : wpMod_made x1 x2 x3 h post) : Met l yMod_made (.code yMod_made bMod_made 4 (some .int) :: zt) rmMod_made (va_Pc [.ref (ad 0), .int x1, .int x2, .int x3] (zPre D (zty cI cC cE) 28 ad (mF ad cI) A h)) (va_Qi post (zPst D (zty cI cC cE) 28 ad (mF ad cI)) A) 0 0 A := by
  refine Met.ofW (cc := bMod_made) (maxL := 4) (ret := (some .int)) (by decide) rfl ?_
  intro p e s m args below meth c s₁ B hml hv
  obtain ⟨rfl, hP, hK, hT, hN⟩ := hv
  have hr := B.returns
  have hlk := B.notSynchronized
  have S : zS p m c bMod_made 4 s _ "CallExplorerModel" := ⟨B.exec, B.bytes, hml, findClass_of_methodNamed B.named, fun w hw => atoms_spec (ws := .code yMod_made bMod_made 4 (some .int) :: zt) B.pre w (List.mem_cons_of_mem _ hw)⟩
  have hS : va_S A s.heap s.heap [] := va_S.rf
  have hl := lv_entry ([.ref (ad 0), .int x1, .int x2, .int x3]) (n := 4) (Nat.le_of_ble_eq_true rfl)
  rw [lg_entry_eq]
  generalize (lg_sl ([.ref (ad 0), .int x1, .int x2, .int x3]) ++ List.replicate (4 - (lg_sl ([.ref (ad 0), .int x1, .int x2, .int x3])).length) Slot.unset).toArray = ls at hl ⊢
  have hl : lv_has ls 4 [(0, .ref (ad 0)), (1, .int x1), (2, .int x2), (3, .int x3)] := hl
  show W p l e rmMod_made s m ([.ref (ad 0), .int x1, .int x2, .int x3] : List Value).toArray below meth c s.heap [] 0 0 (zQi post D (zty cI cC cE) 28 ad (mF ad cI) A below ([.ref (ad 0), .int x1, .int x2, .int x3] : List Value).toArray s) _
  unfold wpMod_made at hw
  refine lv_aload_n S.1 S.2.1 dMod_made_0 rfl (lv_at hl 0 rfl) ?_
  refine zr_get S hK hP (by decide) (mF_0 _) fMod_of q854 rfl dMod_made_1 ?_
  refine lv_aload_n S.1 S.2.1 dMod_made_4 rfl (lv_at hl 0 rfl) ?_
  refine zr_get S hK hP (by decide) (mF_0 _) fMod_objects q853 rfl dMod_made_5 ?_
  refine lv_iload_n S.1 S.2.1 dMod_made_8 rfl (lv_at hl 1 rfl) ?_
  obtain ⟨z9, hw⟩ := hw
  refine zr_ast S hK hJ hP hS (by decide) mF_20 0 rfl z9 dMod_made_9 (fun h9 H locs e9 hP hS => ?_)
  have hw := hw h9 e9
  refine lv_aload_n S.1 S.2.1 dMod_made_10 rfl (lv_at hl 0 rfl) ?_
  refine zr_get S hK hP (by decide) (mF_0 _) fMod_value q855 rfl dMod_made_11 ?_
  refine lv_aload_n S.1 S.2.1 dMod_made_14 rfl (lv_at hl 0 rfl) ?_
  refine zr_get S hK hP (by decide) (mF_0 _) fMod_objects q853 rfl dMod_made_15 ?_
  refine lv_iload_n S.1 S.2.1 dMod_made_18 rfl (lv_at hl 2 rfl) ?_
  obtain ⟨z19, hw⟩ := hw
  refine zr_ast S hK hJ hP hS (by decide) mF_21 0 rfl z19 dMod_made_19 (fun h19 H locs e19 hP hS => ?_)
  have hw := hw h19 e19
  refine lv_aload_n S.1 S.2.1 dMod_made_20 rfl (lv_at hl 0 rfl) ?_
  refine zr_get S hK hP (by decide) (mF_0 _) fMod_next q856 rfl dMod_made_21 ?_
  refine lv_aload_n S.1 S.2.1 dMod_made_24 rfl (lv_at hl 0 rfl) ?_
  refine zr_get S hK hP (by decide) (mF_0 _) fMod_objects q853 rfl dMod_made_25 ?_
  refine lv_iload_n S.1 S.2.1 dMod_made_28 rfl (lv_at hl 3 rfl) ?_
  obtain ⟨z29, hw⟩ := hw
  refine zr_ast S hK hJ hP hS (by decide) mF_22 0 rfl z29 dMod_made_29 (fun h29 H locs e29 hP hS => ?_)
  have hw := hw h29 e29
  refine lv_aload_n S.1 S.2.1 dMod_made_30 rfl (lv_at hl 0 rfl) ?_
  refine lv_dup S.1 S.2.1 dMod_made_31 rfl ?_
  refine zr_get S hK hP (by decide) (mF_0 _) fMod_objects q853 rfl dMod_made_32 ?_
  refine lv_iconst (v := 1) S.1 S.2.1 dMod_made_35 (by decide) ?_
  refine lv_iadd S.1 S.2.1 dMod_made_36 ?_
  refine zr_put S hK hJ hP hS (by decide) (mF_0 _) fMod_objects q853 rfl rfl (Nat.le_of_ble_eq_true rfl) (mF_0 _) dMod_made_37 (fun h37 H locs e37 hP hS => ?_)
  have hw := hw h37 e37
  refine lv_aload_n S.1 S.2.1 dMod_made_40 rfl (lv_at hl 0 rfl) ?_
  refine zr_get S hK hP (by decide) (mF_0 _) fMod_objects q853 rfl dMod_made_41 ?_
  refine lv_iconst (v := 1) S.1 S.2.1 dMod_made_44 (by decide) ?_
  refine lv_isub S.1 S.2.1 dMod_made_45 ?_
  exact zr_iret S hr hlk hK hP hS rfl hw dMod_made_46
/-! Mod.valueOf -/
theorem dMod_valueOf_0 : decode bMod_valueOf 0 = .ok (.aload_n 0, 1) := by decide +kernel
theorem dMod_valueOf_1 : decode bMod_valueOf 1 = .ok (.getfield 38, 3) := by decide +kernel
theorem dMod_valueOf_4 : decode bMod_valueOf 4 = .ok (.iconst 2, 1) := by decide +kernel
theorem dMod_valueOf_5 : decode bMod_valueOf 5 = .ok (.iload_n 1, 1) := by decide +kernel
theorem dMod_valueOf_6 : decode bMod_valueOf 6 = .ok (.imul, 1) := by decide +kernel
theorem dMod_valueOf_7 : decode bMod_valueOf 7 = .ok (.iload_n 2, 1) := by decide +kernel
theorem dMod_valueOf_8 : decode bMod_valueOf 8 = .ok (.iadd, 1) := by decide +kernel
theorem dMod_valueOf_9 : decode bMod_valueOf 9 = .ok (.iaload, 1) := by decide +kernel
theorem dMod_valueOf_10 : decode bMod_valueOf 10 = .ok (.istore_n 3, 1) := by decide +kernel
theorem dMod_valueOf_11 : decode bMod_valueOf 11 = .ok (.iload_n 3, 1) := by decide +kernel
theorem dMod_valueOf_12 : decode bMod_valueOf 12 = .ok (.ifCond .ne 21, 3) := by decide +kernel
theorem dMod_valueOf_15 : decode bMod_valueOf 15 = .ok (.aload_n 0, 1) := by decide +kernel
theorem dMod_valueOf_16 : decode bMod_valueOf 16 = .ok (.getfield 80, 3) := by decide +kernel
theorem dMod_valueOf_19 : decode bMod_valueOf 19 = .ok (.aload_n 0, 1) := by decide +kernel
theorem dMod_valueOf_20 : decode bMod_valueOf 20 = .ok (.getfield 41, 3) := by decide +kernel
theorem dMod_valueOf_23 : decode bMod_valueOf 23 = .ok (.iconst 2, 1) := by decide +kernel
theorem dMod_valueOf_24 : decode bMod_valueOf 24 = .ok (.iload_n 1, 1) := by decide +kernel
theorem dMod_valueOf_25 : decode bMod_valueOf 25 = .ok (.imul, 1) := by decide +kernel
theorem dMod_valueOf_26 : decode bMod_valueOf 26 = .ok (.iload_n 2, 1) := by decide +kernel
theorem dMod_valueOf_27 : decode bMod_valueOf 27 = .ok (.iadd, 1) := by decide +kernel
theorem dMod_valueOf_28 : decode bMod_valueOf 28 = .ok (.iaload, 1) := by decide +kernel
theorem dMod_valueOf_29 : decode bMod_valueOf 29 = .ok (.iaload, 1) := by decide +kernel
theorem dMod_valueOf_30 : decode bMod_valueOf 30 = .ok (.goto 22, 3) := by decide +kernel
theorem dMod_valueOf_33 : decode bMod_valueOf 33 = .ok (.iload_n 3, 1) := by decide +kernel
theorem dMod_valueOf_34 : decode bMod_valueOf 34 = .ok (.iconst 1, 1) := by decide +kernel
theorem dMod_valueOf_35 : decode bMod_valueOf 35 = .ok (.if_icmp .ne 16, 3) := by decide +kernel
theorem dMod_valueOf_38 : decode bMod_valueOf 38 = .ok (.aload_n 0, 1) := by decide +kernel
theorem dMod_valueOf_39 : decode bMod_valueOf 39 = .ok (.getfield 41, 3) := by decide +kernel
theorem dMod_valueOf_42 : decode bMod_valueOf 42 = .ok (.iconst 2, 1) := by decide +kernel
theorem dMod_valueOf_43 : decode bMod_valueOf 43 = .ok (.iload_n 1, 1) := by decide +kernel
theorem dMod_valueOf_44 : decode bMod_valueOf 44 = .ok (.imul, 1) := by decide +kernel
theorem dMod_valueOf_45 : decode bMod_valueOf 45 = .ok (.iload_n 2, 1) := by decide +kernel
theorem dMod_valueOf_46 : decode bMod_valueOf 46 = .ok (.iadd, 1) := by decide +kernel
theorem dMod_valueOf_47 : decode bMod_valueOf 47 = .ok (.iaload, 1) := by decide +kernel
theorem dMod_valueOf_48 : decode bMod_valueOf 48 = .ok (.goto 4, 3) := by decide +kernel
theorem dMod_valueOf_51 : decode bMod_valueOf 51 = .ok (.iconst (-1), 1) := by decide +kernel
theorem dMod_valueOf_52 : decode bMod_valueOf 52 = .ok (.ireturn, 1) := by decide +kernel
def wpMod_valueOf (x1 : Int32) (x2 : Int32) (h : zM) (post : Int32 → zM → Prop) : Prop := (vp_in ((2 * x1) + x2) 40 ∧ ∀ y10 : Int32, y10 = (h 9 (Int32.toNatClampNeg ((2 * x1) + x2))) → ((¬ y10 = 0 → ((¬ y10 = 1 → post (-1) h) ∧ (y10 = 1 → (vp_in ((2 * x1) + x2) 40 ∧ post (h 10 (Int32.toNatClampNeg ((2 * x1) + x2))) h)))) ∧ (y10 = 0 → (vp_in ((2 * x1) + x2) 40 ∧ (vp_in (h 10 (Int32.toNatClampNeg ((2 * x1) + x2))) 10 ∧ post (h 23 (Int32.toNatClampNeg (h 10 (Int32.toNatClampNeg ((2 * x1) + x2))))) h)))))
abbrev rmMod_valueOf : Room := { frames := 0, cells := 0, slots := 0, locals := 0 }
set_option maxHeartbeats 4000000 in
set_option maxRecDepth 100000 in
theorem cMod_valueOf (l : Launch) (D : va_G) (cI cC cE : ClassId) (ad : Nat → Nat) (A : Nat → Prop) (hJ : zJ A 28 ad) (x1 : Int32) (x2 : Int32) (h : zM) (post : Int32 → zM → Prop) (hw : wpMod_valueOf x1 x2 h post) : Met l yMod_valueOf (.code yMod_valueOf bMod_valueOf 4 (some .int) :: zt) rmMod_valueOf (va_Pc [.ref (ad 0), .int x1, .int x2] (zPre D (zty cI cC cE) 28 ad (mF ad cI) A h)) (va_Qi post (zPst D (zty cI cC cE) 28 ad (mF ad cI)) A) 0 0 A := by
  refine Met.ofW (cc := bMod_valueOf) (maxL := 4) (ret := (some .int)) (by decide) rfl ?_
  intro p e s m args below meth c s₁ B hml hv
  obtain ⟨rfl, hP, hK, hT, hN⟩ := hv
  have hr := B.returns
  have hlk := B.notSynchronized
  have S : zS p m c bMod_valueOf 4 s _ "CallExplorerModel" := ⟨B.exec, B.bytes, hml, findClass_of_methodNamed B.named, fun w hw => atoms_spec (ws := .code yMod_valueOf bMod_valueOf 4 (some .int) :: zt) B.pre w (List.mem_cons_of_mem _ hw)⟩
  have hS : va_S A s.heap s.heap [] := va_S.rf
  have hl := lv_entry ([.ref (ad 0), .int x1, .int x2]) (n := 4) (Nat.le_of_ble_eq_true rfl)
  rw [lg_entry_eq]
  generalize (lg_sl ([.ref (ad 0), .int x1, .int x2]) ++ List.replicate (4 - (lg_sl ([.ref (ad 0), .int x1, .int x2])).length) Slot.unset).toArray = ls at hl ⊢
  have hl : lv_has ls 4 [(0, .ref (ad 0)), (1, .int x1), (2, .int x2)] := hl
  show W p l e rmMod_valueOf s m ([.ref (ad 0), .int x1, .int x2] : List Value).toArray below meth c s.heap [] 0 0 (zQi post D (zty cI cC cE) 28 ad (mF ad cI) A below ([.ref (ad 0), .int x1, .int x2] : List Value).toArray s) _
  unfold wpMod_valueOf at hw
  refine lv_aload_n S.1 S.2.1 dMod_valueOf_0 rfl (lv_at hl 0 rfl) ?_
  refine zr_get S hK hP (by decide) (mF_0 _) fMod_how q841 rfl dMod_valueOf_1 ?_
  refine lv_iconst (v := 2) S.1 S.2.1 dMod_valueOf_4 (by decide) ?_
  refine lv_iload_n S.1 S.2.1 dMod_valueOf_5 rfl (lv_at hl 1 rfl) ?_
  refine lv_imul S.1 S.2.1 dMod_valueOf_6 ?_
  refine lv_iload_n S.1 S.2.1 dMod_valueOf_7 rfl (lv_at hl 2 rfl) ?_
  refine lv_iadd S.1 S.2.1 dMod_valueOf_8 ?_
  obtain ⟨z9, hw⟩ := hw
  refine zr_ald S hK hP (by decide) (mF_9 _) 0 rfl z9 dMod_valueOf_9 ?_
  refine lv_topi (fun y10 e10 => ?_)
  have hw := hw y10 e10
  refine lv_istore_n (lv' := [(3, .int y10), (0, .ref (ad 0)), (1, .int x1), (2, .int x2)]) S.1 S.2.1 dMod_valueOf_10 rfl hl (by decide) rfl (fun ls hl => ?_)
  refine lv_iload_n S.1 S.2.1 dMod_valueOf_11 rfl (lv_at hl 0 rfl) ?_
  refine lv_if_ne S.1 S.2.1 dMod_valueOf_12 rfl (fun hc => ?_) (fun hc => ?_)
  · have hw := hw.1 hc
    refine lv_iload_n S.1 S.2.1 dMod_valueOf_33 rfl (lv_at hl 0 rfl) ?_
    refine lv_iconst (v := 1) S.1 S.2.1 dMod_valueOf_34 (by decide) ?_
    refine lv_icmp_ne S.1 S.2.1 dMod_valueOf_35 rfl (fun hc => ?_) (fun hc => ?_)
    · have hw := hw.1 hc
      refine lv_iconst (v := (-1)) S.1 S.2.1 dMod_valueOf_51 (by decide) ?_
      exact zr_iret S hr hlk hK hP hS rfl hw dMod_valueOf_52
    · have hw := hw.2 hc
      refine lv_aload_n S.1 S.2.1 dMod_valueOf_38 rfl (lv_at hl 1 rfl) ?_
      refine zr_get S hK hP (by decide) (mF_0 _) fMod_arg q842 rfl dMod_valueOf_39 ?_
      refine lv_iconst (v := 2) S.1 S.2.1 dMod_valueOf_42 (by decide) ?_
      refine lv_iload_n S.1 S.2.1 dMod_valueOf_43 rfl (lv_at hl 2 rfl) ?_
      refine lv_imul S.1 S.2.1 dMod_valueOf_44 ?_
      refine lv_iload_n S.1 S.2.1 dMod_valueOf_45 rfl (lv_at hl 3 rfl) ?_
      refine lv_iadd S.1 S.2.1 dMod_valueOf_46 ?_
      obtain ⟨z47, hw⟩ := hw
      refine zr_ald S hK hP (by decide) (mF_10 _) 0 rfl z47 dMod_valueOf_47 ?_
      refine lv_goto S.1 S.2.1 dMod_valueOf_48 rfl ?_
      exact zr_iret S hr hlk hK hP hS rfl hw dMod_valueOf_52
  · have hw := hw.2 hc
    refine lv_aload_n S.1 S.2.1 dMod_valueOf_15 rfl (lv_at hl 1 rfl) ?_
    refine zr_get S hK hP (by decide) (mF_0 _) fMod_result q857 rfl dMod_valueOf_16 ?_
    refine lv_aload_n S.1 S.2.1 dMod_valueOf_19 rfl (lv_at hl 1 rfl) ?_
    refine zr_get S hK hP (by decide) (mF_0 _) fMod_arg q842 rfl dMod_valueOf_20 ?_
    refine lv_iconst (v := 2) S.1 S.2.1 dMod_valueOf_23 (by decide) ?_
    refine lv_iload_n S.1 S.2.1 dMod_valueOf_24 rfl (lv_at hl 2 rfl) ?_
    refine lv_imul S.1 S.2.1 dMod_valueOf_25 ?_
    refine lv_iload_n S.1 S.2.1 dMod_valueOf_26 rfl (lv_at hl 3 rfl) ?_
    refine lv_iadd S.1 S.2.1 dMod_valueOf_27 ?_
    obtain ⟨z28, hw⟩ := hw
    refine zr_ald S hK hP (by decide) (mF_10 _) 0 rfl z28 dMod_valueOf_28 ?_
    obtain ⟨z29, hw⟩ := hw
    refine zr_ald S hK hP (by decide) (mF_23 _) 0 rfl z29 dMod_valueOf_29 ?_
    refine lv_goto S.1 S.2.1 dMod_valueOf_30 rfl ?_
    exact zr_iret S hr hlk hK hP hS rfl hw dMod_valueOf_52
/-! Mod.fits -/
theorem dMod_fits_0 : decode bMod_fits 0 = .ok (.lload_n 0, 1) := by decide +kernel
theorem dMod_fits_1 : decode bMod_fits 1 = .ok (.ldc2_w 114, 3) := by decide +kernel
theorem dMod_fits_4 : decode bMod_fits 4 = .ok (.lcmp, 1) := by decide +kernel
theorem dMod_fits_5 : decode bMod_fits 5 = .ok (.ifCond .lt 15, 3) := by decide +kernel
theorem dMod_fits_8 : decode bMod_fits 8 = .ok (.lload_n 0, 1) := by decide +kernel
theorem dMod_fits_9 : decode bMod_fits 9 = .ok (.ldc2_w 116, 3) := by decide +kernel
theorem dMod_fits_12 : decode bMod_fits 12 = .ok (.lcmp, 1) := by decide +kernel
theorem dMod_fits_13 : decode bMod_fits 13 = .ok (.ifCond .gt 7, 3) := by decide +kernel
theorem dMod_fits_16 : decode bMod_fits 16 = .ok (.iconst 1, 1) := by decide +kernel
theorem dMod_fits_17 : decode bMod_fits 17 = .ok (.goto 4, 3) := by decide +kernel
theorem dMod_fits_20 : decode bMod_fits 20 = .ok (.iconst 0, 1) := by decide +kernel
theorem dMod_fits_21 : decode bMod_fits 21 = .ok (.ireturn, 1) := by decide +kernel
def wpMod_fits (w0 : Int64) (h : zM) (post : Int32 → zM → Prop) : Prop := ((((lg_cmp w0 (-100)) < 0) → post 0 h) ∧ (¬ ((lg_cmp w0 (-100)) < 0) → (((0 < (lg_cmp w0 100)) → post 0 h) ∧ (¬ (0 < (lg_cmp w0 100)) → post 1 h))))
abbrev rmMod_fits : Room := { frames := 0, cells := 0, slots := 0, locals := 0 }
set_option maxHeartbeats 4000000 in
set_option maxRecDepth 100000 in
theorem cMod_fits (l : Launch) (D : va_G) (cI cC cE : ClassId) (ad : Nat → Nat) (A : Nat → Prop) (hJ : zJ A 28 ad) (w0 : Int64) (h : zM) (post : Int32 → zM → Prop) (hw : wpMod_fits w0 h post) : Met l yMod_fits (.code yMod_fits bMod_fits 2 (some .boolean) :: zt) rmMod_fits (va_Pc [.long w0] (zPre D (zty cI cC cE) 28 ad (mF ad cI) A h)) (va_Qi post (zPst D (zty cI cC cE) 28 ad (mF ad cI)) A) 0 0 A := by
  refine Met.ofW (cc := bMod_fits) (maxL := 2) (ret := (some .boolean)) (by decide) rfl ?_
  intro p e s m args below meth c s₁ B hml hv
  obtain ⟨rfl, hP, hK, hT, hN⟩ := hv
  have hr := B.returns
  have hlk := B.notSynchronized
  have S : zS p m c bMod_fits 2 s _ "CallExplorerModel" := ⟨B.exec, B.bytes, hml, findClass_of_methodNamed B.named, fun w hw => atoms_spec (ws := .code yMod_fits bMod_fits 2 (some .boolean) :: zt) B.pre w (List.mem_cons_of_mem _ hw)⟩
  have hS : va_S A s.heap s.heap [] := va_S.rf
  have hl := lv_entry ([.long w0]) (n := 2) (Nat.le_of_ble_eq_true rfl)
  rw [lg_entry_eq]
  generalize (lg_sl ([.long w0]) ++ List.replicate (2 - (lg_sl ([.long w0])).length) Slot.unset).toArray = ls at hl ⊢
  have hl : lv_has ls 2 [(0, .long w0)] := hl
  show W p l e rmMod_fits s m ([.long w0] : List Value).toArray below meth c s.heap [] 0 0 (zQi post D (zty cI cC cE) 28 ad (mF ad cI) A below ([.long w0] : List Value).toArray s) _
  unfold wpMod_fits at hw
  refine lv_lload_n S.1 S.2.1 dMod_fits_0 rfl (lv_at hl 0 rfl) ?_
  refine lv_ldc2 (v := (-100)) S.1 S.2.1 S.2.2.2.1 (S.2.2.2.2 _ q1064) dMod_fits_1 ?_
  refine W.lcmp S.1 S.2.1 dMod_fits_4 ?_
  refine lv_if_lt S.1 S.2.1 dMod_fits_5 rfl (fun hc => ?_) (fun hc => ?_)
  · have hw := hw.1 hc
    refine lv_iconst (v := 0) S.1 S.2.1 dMod_fits_20 (by decide) ?_
    exact zr_iret S hr hlk hK hP hS rfl hw dMod_fits_21
  · have hw := hw.2 hc
    refine lv_lload_n S.1 S.2.1 dMod_fits_8 rfl (lv_at hl 0 rfl) ?_
    refine lv_ldc2 (v := 100) S.1 S.2.1 S.2.2.2.1 (S.2.2.2.2 _ q1065) dMod_fits_9 ?_
    refine W.lcmp S.1 S.2.1 dMod_fits_12 ?_
    refine lv_if_gt S.1 S.2.1 dMod_fits_13 rfl (fun hc => ?_) (fun hc => ?_)
    · have hw := hw.1 hc
      refine lv_iconst (v := 0) S.1 S.2.1 dMod_fits_20 (by decide) ?_
      exact zr_iret S hr hlk hK hP hS rfl hw dMod_fits_21
    · have hw := hw.2 hc
      refine lv_iconst (v := 1) S.1 S.2.1 dMod_fits_16 (by decide) ?_
      refine lv_goto S.1 S.2.1 dMod_fits_17 rfl ?_
      exact zr_iret S hr hlk hK hP hS rfl hw dMod_fits_21
/-! Mod.reaches -/
theorem dMod_reaches_0 : decode bMod_reaches 0 = .ok (.iload_n 1, 1) := by decide +kernel
theorem dMod_reaches_1 : decode bMod_reaches 1 = .ok (.istore_n 3, 1) := by decide +kernel
theorem dMod_reaches_2 : decode bMod_reaches 2 = .ok (.iconst 0, 1) := by decide +kernel
theorem dMod_reaches_3 : decode bMod_reaches 3 = .ok (.istore 4, 2) := by decide +kernel
theorem dMod_reaches_5 : decode bMod_reaches 5 = .ok (.iload 4, 2) := by decide +kernel
theorem dMod_reaches_7 : decode bMod_reaches 7 = .ok (.bipush 10, 2) := by decide +kernel
theorem dMod_reaches_9 : decode bMod_reaches 9 = .ok (.if_icmp .ge 25, 3) := by decide +kernel
theorem dMod_reaches_12 : decode bMod_reaches 12 = .ok (.iload_n 3, 1) := by decide +kernel
theorem dMod_reaches_13 : decode bMod_reaches 13 = .ok (.ifCond .lt 21, 3) := by decide +kernel
theorem dMod_reaches_16 : decode bMod_reaches 16 = .ok (.iload_n 3, 1) := by decide +kernel
theorem dMod_reaches_17 : decode bMod_reaches 17 = .ok (.iload_n 2, 1) := by decide +kernel
theorem dMod_reaches_18 : decode bMod_reaches 18 = .ok (.if_icmp .eq 16, 3) := by decide +kernel
theorem dMod_reaches_21 : decode bMod_reaches 21 = .ok (.aload_n 0, 1) := by decide +kernel
theorem dMod_reaches_22 : decode bMod_reaches 22 = .ok (.getfield 77, 3) := by decide +kernel
theorem dMod_reaches_25 : decode bMod_reaches 25 = .ok (.iload_n 3, 1) := by decide +kernel
theorem dMod_reaches_26 : decode bMod_reaches 26 = .ok (.iaload, 1) := by decide +kernel
theorem dMod_reaches_27 : decode bMod_reaches 27 = .ok (.istore_n 3, 1) := by decide +kernel
theorem dMod_reaches_28 : decode bMod_reaches 28 = .ok (.iinc 4 1, 3) := by decide +kernel
theorem dMod_reaches_31 : decode bMod_reaches 31 = .ok (.goto (-26), 3) := by decide +kernel
theorem dMod_reaches_34 : decode bMod_reaches 34 = .ok (.iload_n 3, 1) := by decide +kernel
theorem dMod_reaches_35 : decode bMod_reaches 35 = .ok (.ifCond .lt 12, 3) := by decide +kernel
theorem dMod_reaches_38 : decode bMod_reaches 38 = .ok (.iload_n 3, 1) := by decide +kernel
theorem dMod_reaches_39 : decode bMod_reaches 39 = .ok (.iload_n 2, 1) := by decide +kernel
theorem dMod_reaches_40 : decode bMod_reaches 40 = .ok (.if_icmp .ne 7, 3) := by decide +kernel
theorem dMod_reaches_43 : decode bMod_reaches 43 = .ok (.iconst 1, 1) := by decide +kernel
theorem dMod_reaches_44 : decode bMod_reaches 44 = .ok (.goto 4, 3) := by decide +kernel
theorem dMod_reaches_47 : decode bMod_reaches 47 = .ok (.iconst 0, 1) := by decide +kernel
theorem dMod_reaches_48 : decode bMod_reaches 48 = .ok (.ireturn, 1) := by decide +kernel
def wbMod_reaches_34 (post : Int32 → zM → Prop) (v2 : Int32) (v3 : Int32) (h : zM) : Prop := (((v3 < 0) → post 0 h) ∧ (¬ (v3 < 0) → ((¬ v3 = v2 → post 0 h) ∧ (v3 = v2 → post 1 h))))
def stMod_reaches_5 (post : Int32 → zM → Prop) (L5 : (Int32 × Int32 × Int32 × zM) → Prop) : (Int32 × Int32 × Int32 × zM) → Prop := fun s => match s with
  | (v2, v3, v4, h) => (((10 ≤ v4) → wbMod_reaches_34 post v2 v3 h) ∧ (¬ (10 ≤ v4) → (((v3 < 0) → wbMod_reaches_34 post v2 v3 h) ∧ (¬ (v3 < 0) → ((v3 = v2 → wbMod_reaches_34 post v2 v3 h) ∧ (¬ v3 = v2 → (vp_in v3 10 ∧ ∀ y27 : Int32, y27 = (h 22 (Int32.toNatClampNeg v3)) → L5 (v2, y27, (v4 + 1), h))))))))
def wpMod_reaches (x1 : Int32) (x2 : Int32) (h : zM) (post : Int32 → zM → Prop) : Prop := zL (stMod_reaches_5 post) (x2, x1, 0, h)
abbrev rmMod_reaches : Room := { frames := 0, cells := 0, slots := 0, locals := 0 }
set_option maxHeartbeats 4000000 in
set_option maxRecDepth 100000 in
theorem cMod_reaches (l : Launch) (D : va_G) (cI cC cE : ClassId) (ad : Nat → Nat) (A : Nat → Prop) (hJ : zJ A 28 ad) (x1 : Int32) (x2 : Int32) (h : zM) (post : Int32 → zM → Prop) (hw : wpMod_reaches x1 x2 h post) : Met l yMod_reaches (.code yMod_reaches bMod_reaches 5 (some .boolean) :: zt) rmMod_reaches (va_Pc [.ref (ad 0), .int x1, .int x2] (zPre D (zty cI cC cE) 28 ad (mF ad cI) A h)) (va_Qi post (zPst D (zty cI cC cE) 28 ad (mF ad cI)) A) 0 0 A := by
  refine Met.ofW (cc := bMod_reaches) (maxL := 5) (ret := (some .boolean)) (by decide) rfl ?_
  intro p e s m args below meth c s₁ B hml hv
  obtain ⟨rfl, hP, hK, hT, hN⟩ := hv
  have hr := B.returns
  have hlk := B.notSynchronized
  have S : zS p m c bMod_reaches 5 s _ "CallExplorerModel" := ⟨B.exec, B.bytes, hml, findClass_of_methodNamed B.named, fun w hw => atoms_spec (ws := .code yMod_reaches bMod_reaches 5 (some .boolean) :: zt) B.pre w (List.mem_cons_of_mem _ hw)⟩
  have hS : va_S A s.heap s.heap [] := va_S.rf
  have hl := lv_entry ([.ref (ad 0), .int x1, .int x2]) (n := 5) (Nat.le_of_ble_eq_true rfl)
  rw [lg_entry_eq]
  generalize (lg_sl ([.ref (ad 0), .int x1, .int x2]) ++ List.replicate (5 - (lg_sl ([.ref (ad 0), .int x1, .int x2])).length) Slot.unset).toArray = ls at hl ⊢
  have hl : lv_has ls 5 [(0, .ref (ad 0)), (1, .int x1), (2, .int x2)] := hl
  show W p l e rmMod_reaches s m ([.ref (ad 0), .int x1, .int x2] : List Value).toArray below meth c s.heap [] 0 0 (zQi post D (zty cI cC cE) 28 ad (mF ad cI) A below ([.ref (ad 0), .int x1, .int x2] : List Value).toArray s) _
  have J34 : ∀ (v2 : Int32) (v3 : Int32) (h : zM) (H : Heap) (locs : List Loc) (ls : Array Slot), wbMod_reaches_34 post v2 v3 h → lv_has ls 5 [(2, .int v2), (3, .int v3)] → va_P D zcl (zW 28 ad (mF ad cI) h) H → va_S A s.heap H locs → W p l e rmMod_reaches s m ([.ref (ad 0), .int x1, .int x2] : List Value).toArray below meth c H locs 0 0 (zQi post D (zty cI cC cE) 28 ad (mF ad cI) A below ([.ref (ad 0), .int x1, .int x2] : List Value).toArray s) (F0 m 34 ls []) := by
    intro v2 v3 h H locs ls hw hl hP hS
    unfold wbMod_reaches_34 at hw
    refine lv_iload_n S.1 S.2.1 dMod_reaches_34 rfl (lv_at hl 1 rfl) ?_
    refine lv_if_lt S.1 S.2.1 dMod_reaches_35 rfl (fun hc => ?_) (fun hc => ?_)
    · have hw := hw.1 hc
      refine lv_iconst (v := 0) S.1 S.2.1 dMod_reaches_47 (by decide) ?_
      exact zr_iret S hr hlk hK hP hS rfl hw dMod_reaches_48
    · have hw := hw.2 hc
      refine lv_iload_n S.1 S.2.1 dMod_reaches_38 rfl (lv_at hl 1 rfl) ?_
      refine lv_iload_n S.1 S.2.1 dMod_reaches_39 rfl (lv_at hl 0 rfl) ?_
      refine lv_icmp_ne S.1 S.2.1 dMod_reaches_40 rfl (fun hc => ?_) (fun hc => ?_)
      · have hw := hw.1 hc
        refine lv_iconst (v := 0) S.1 S.2.1 dMod_reaches_47 (by decide) ?_
        exact zr_iret S hr hlk hK hP hS rfl hw dMod_reaches_48
      · have hw := hw.2 hc
        refine lv_iconst (v := 1) S.1 S.2.1 dMod_reaches_43 (by decide) ?_
        refine lv_goto S.1 S.2.1 dMod_reaches_44 rfl ?_
        exact zr_iret S hr hlk hK hP hS rfl hw dMod_reaches_48
  have J5 : ∀ (fu : Nat) (v2 : Int32) (v3 : Int32) (v4 : Int32) (h : zM) (H : Heap) (locs : List Loc) (ls : Array Slot), zl (stMod_reaches_5 post) fu (v2, v3, v4, h) → lv_has ls 5 [(0, .ref (ad 0)), (2, .int v2), (3, .int v3), (4, .int v4)] → va_P D zcl (zW 28 ad (mF ad cI) h) H → va_S A s.heap H locs → W p l e rmMod_reaches s m ([.ref (ad 0), .int x1, .int x2] : List Value).toArray below meth c H locs 0 0 (zQi post D (zty cI cC cE) 28 ad (mF ad cI) A below ([.ref (ad 0), .int x1, .int x2] : List Value).toArray s) (F0 m 5 ls []) := by
    intro fu5
    induction fu5 with
    | zero =>
      intro v2 v3 v4 h H locs ls hw
      exact (zl_0 hw).elim
    | succ fu5 ih5 =>
      intro v2 v3 v4 h H locs ls hw hl hP hS
      have hw := zl_s hw
      generalize zl (stMod_reaches_5 post) fu5 = L5 at hw ih5
      unfold stMod_reaches_5 at hw
      dsimp only at hw
      refine lv_iload S.1 S.2.1 dMod_reaches_5 (lv_at hl 3 rfl) ?_
      refine lv_bipush (v := 10) S.1 S.2.1 dMod_reaches_7 (by decide) ?_
      refine lv_icmp_ge S.1 S.2.1 dMod_reaches_9 rfl (fun hc => ?_) (fun hc => ?_)
      · have hw := hw.1 hc
        exact J34 _ _ _ _ _ _ hw (lv_sub hl [1, 2] rfl) hP hS
      · have hw := hw.2 hc
        refine lv_iload_n S.1 S.2.1 dMod_reaches_12 rfl (lv_at hl 2 rfl) ?_
        refine lv_if_lt S.1 S.2.1 dMod_reaches_13 rfl (fun hc => ?_) (fun hc => ?_)
        · have hw := hw.1 hc
          exact J34 _ _ _ _ _ _ hw (lv_sub hl [1, 2] rfl) hP hS
        · have hw := hw.2 hc
          refine lv_iload_n S.1 S.2.1 dMod_reaches_16 rfl (lv_at hl 2 rfl) ?_
          refine lv_iload_n S.1 S.2.1 dMod_reaches_17 rfl (lv_at hl 1 rfl) ?_
          refine lv_icmp_eq S.1 S.2.1 dMod_reaches_18 rfl (fun hc => ?_) (fun hc => ?_)
          · have hw := hw.1 hc
            exact J34 _ _ _ _ _ _ hw (lv_sub hl [1, 2] rfl) hP hS
          · have hw := hw.2 hc
            refine lv_aload_n S.1 S.2.1 dMod_reaches_21 rfl (lv_at hl 0 rfl) ?_
            refine zr_get S hK hP (by decide) (mF_0 _) fMod_next q856 rfl dMod_reaches_22 ?_
            refine lv_iload_n S.1 S.2.1 dMod_reaches_25 rfl (lv_at hl 2 rfl) ?_
            obtain ⟨z26, hw⟩ := hw
            refine zr_ald S hK hP (by decide) (mF_22 _) 0 rfl z26 dMod_reaches_26 ?_
            refine lv_topi (fun y27 e27 => ?_)
            have hw := hw y27 e27
            refine lv_istore_n (lv' := [(3, .int y27), (0, .ref (ad 0)), (2, .int v2), (4, .int v4)]) S.1 S.2.1 dMod_reaches_27 rfl hl (by decide) rfl (fun ls hl => ?_)
            refine lv_iinc (v := (v4 + 1)) (lv' := [(4, .int (v4 + 1)), (3, .int y27), (0, .ref (ad 0)), (2, .int v2)]) (k := 3) S.1 S.2.1 dMod_reaches_28 hl rfl rfl (by decide) rfl (fun ls hl => ?_)
            refine lv_goto S.1 S.2.1 dMod_reaches_31 rfl ?_
            exact ih5 _ _ _ _ _ _ _ hw (lv_sub hl [2, 3, 1, 0] rfl) hP hS
  unfold wpMod_reaches at hw
  refine lv_iload_n S.1 S.2.1 dMod_reaches_0 rfl (lv_at hl 1 rfl) ?_
  refine lv_istore_n (lv' := [(3, .int x1), (0, .ref (ad 0)), (1, .int x1), (2, .int x2)]) S.1 S.2.1 dMod_reaches_1 rfl hl (by decide) rfl (fun ls hl => ?_)
  refine lv_iconst (v := 0) S.1 S.2.1 dMod_reaches_2 (by decide) ?_
  refine lv_istore (lv' := [(4, .int 0), (3, .int x1), (0, .ref (ad 0)), (1, .int x1), (2, .int x2)]) S.1 S.2.1 dMod_reaches_3 hl (by decide) rfl (fun ls hl => ?_)
  obtain ⟨fu, hw⟩ := hw
  exact J5 fu _ _ _ _ _ _ _ hw (lv_sub hl [2, 4, 1, 0] rfl) hP hS
/-! Mod.count -/
theorem dMod_count_0 : decode bMod_count 0 = .ok (.iconst 0, 1) := by decide +kernel
theorem dMod_count_1 : decode bMod_count 1 = .ok (.istore_n 2, 1) := by decide +kernel
theorem dMod_count_2 : decode bMod_count 2 = .ok (.iload_n 1, 1) := by decide +kernel
theorem dMod_count_3 : decode bMod_count 3 = .ok (.istore_n 3, 1) := by decide +kernel
theorem dMod_count_4 : decode bMod_count 4 = .ok (.iload_n 2, 1) := by decide +kernel
theorem dMod_count_5 : decode bMod_count 5 = .ok (.bipush 10, 2) := by decide +kernel
theorem dMod_count_7 : decode bMod_count 7 = .ok (.if_icmp .ge 20, 3) := by decide +kernel
theorem dMod_count_10 : decode bMod_count 10 = .ok (.iload_n 3, 1) := by decide +kernel
theorem dMod_count_11 : decode bMod_count 11 = .ok (.ifCond .lt 16, 3) := by decide +kernel
theorem dMod_count_14 : decode bMod_count 14 = .ok (.iinc 2 1, 3) := by decide +kernel
theorem dMod_count_17 : decode bMod_count 17 = .ok (.aload_n 0, 1) := by decide +kernel
theorem dMod_count_18 : decode bMod_count 18 = .ok (.getfield 77, 3) := by decide +kernel
theorem dMod_count_21 : decode bMod_count 21 = .ok (.iload_n 3, 1) := by decide +kernel
theorem dMod_count_22 : decode bMod_count 22 = .ok (.iaload, 1) := by decide +kernel
theorem dMod_count_23 : decode bMod_count 23 = .ok (.istore_n 3, 1) := by decide +kernel
theorem dMod_count_24 : decode bMod_count 24 = .ok (.goto (-20), 3) := by decide +kernel
theorem dMod_count_27 : decode bMod_count 27 = .ok (.iload_n 2, 1) := by decide +kernel
theorem dMod_count_28 : decode bMod_count 28 = .ok (.ireturn, 1) := by decide +kernel
def stMod_count_4 (post : Int32 → zM → Prop) (L4 : (Int32 × Int32 × zM) → Prop) : (Int32 × Int32 × zM) → Prop := fun s => match s with
  | (v2, v3, h) => (((10 ≤ v2) → post v2 h) ∧ (¬ (10 ≤ v2) → (((v3 < 0) → post v2 h) ∧ (¬ (v3 < 0) → (vp_in v3 10 ∧ ∀ y23 : Int32, y23 = (h 22 (Int32.toNatClampNeg v3)) → L4 ((v2 + 1), y23, h))))))
def wpMod_count (x1 : Int32) (h : zM) (post : Int32 → zM → Prop) : Prop := zL (stMod_count_4 post) (0, x1, h)
abbrev rmMod_count : Room := { frames := 0, cells := 0, slots := 0, locals := 0 }
set_option maxHeartbeats 4000000 in
set_option maxRecDepth 100000 in
theorem cMod_count (l : Launch) (D : va_G) (cI cC cE : ClassId) (ad : Nat → Nat) (A : Nat → Prop) (hJ : zJ A 28 ad) (x1 : Int32) (h : zM) (post : Int32 → zM → Prop) (hw : wpMod_count x1 h post) : Met l yMod_count (.code yMod_count bMod_count 4 (some .int) :: zt) rmMod_count (va_Pc [.ref (ad 0), .int x1] (zPre D (zty cI cC cE) 28 ad (mF ad cI) A h)) (va_Qi post (zPst D (zty cI cC cE) 28 ad (mF ad cI)) A) 0 0 A := by
  refine Met.ofW (cc := bMod_count) (maxL := 4) (ret := (some .int)) (by decide) rfl ?_
  intro p e s m args below meth c s₁ B hml hv
  obtain ⟨rfl, hP, hK, hT, hN⟩ := hv
  have hr := B.returns
  have hlk := B.notSynchronized
  have S : zS p m c bMod_count 4 s _ "CallExplorerModel" := ⟨B.exec, B.bytes, hml, findClass_of_methodNamed B.named, fun w hw => atoms_spec (ws := .code yMod_count bMod_count 4 (some .int) :: zt) B.pre w (List.mem_cons_of_mem _ hw)⟩
  have hS : va_S A s.heap s.heap [] := va_S.rf
  have hl := lv_entry ([.ref (ad 0), .int x1]) (n := 4) (Nat.le_of_ble_eq_true rfl)
  rw [lg_entry_eq]
  generalize (lg_sl ([.ref (ad 0), .int x1]) ++ List.replicate (4 - (lg_sl ([.ref (ad 0), .int x1])).length) Slot.unset).toArray = ls at hl ⊢
  have hl : lv_has ls 4 [(0, .ref (ad 0)), (1, .int x1)] := hl
  show W p l e rmMod_count s m ([.ref (ad 0), .int x1] : List Value).toArray below meth c s.heap [] 0 0 (zQi post D (zty cI cC cE) 28 ad (mF ad cI) A below ([.ref (ad 0), .int x1] : List Value).toArray s) _
  have J4 : ∀ (fu : Nat) (v2 : Int32) (v3 : Int32) (h : zM) (H : Heap) (locs : List Loc) (ls : Array Slot), zl (stMod_count_4 post) fu (v2, v3, h) → lv_has ls 4 [(0, .ref (ad 0)), (2, .int v2), (3, .int v3)] → va_P D zcl (zW 28 ad (mF ad cI) h) H → va_S A s.heap H locs → W p l e rmMod_count s m ([.ref (ad 0), .int x1] : List Value).toArray below meth c H locs 0 0 (zQi post D (zty cI cC cE) 28 ad (mF ad cI) A below ([.ref (ad 0), .int x1] : List Value).toArray s) (F0 m 4 ls []) := by
    intro fu4
    induction fu4 with
    | zero =>
      intro v2 v3 h H locs ls hw
      exact (zl_0 hw).elim
    | succ fu4 ih4 =>
      intro v2 v3 h H locs ls hw hl hP hS
      have hw := zl_s hw
      generalize zl (stMod_count_4 post) fu4 = L4 at hw ih4
      unfold stMod_count_4 at hw
      dsimp only at hw
      refine lv_iload_n S.1 S.2.1 dMod_count_4 rfl (lv_at hl 1 rfl) ?_
      refine lv_bipush (v := 10) S.1 S.2.1 dMod_count_5 (by decide) ?_
      refine lv_icmp_ge S.1 S.2.1 dMod_count_7 rfl (fun hc => ?_) (fun hc => ?_)
      · have hw := hw.1 hc
        refine lv_iload_n S.1 S.2.1 dMod_count_27 rfl (lv_at hl 1 rfl) ?_
        exact zr_iret S hr hlk hK hP hS rfl hw dMod_count_28
      · have hw := hw.2 hc
        refine lv_iload_n S.1 S.2.1 dMod_count_10 rfl (lv_at hl 2 rfl) ?_
        refine lv_if_lt S.1 S.2.1 dMod_count_11 rfl (fun hc => ?_) (fun hc => ?_)
        · have hw := hw.1 hc
          refine lv_iload_n S.1 S.2.1 dMod_count_27 rfl (lv_at hl 1 rfl) ?_
          exact zr_iret S hr hlk hK hP hS rfl hw dMod_count_28
        · have hw := hw.2 hc
          refine lv_iinc (v := (v2 + 1)) (lv' := [(2, .int (v2 + 1)), (0, .ref (ad 0)), (3, .int v3)]) (k := 1) S.1 S.2.1 dMod_count_14 hl rfl rfl (by decide) rfl (fun ls hl => ?_)
          refine lv_aload_n S.1 S.2.1 dMod_count_17 rfl (lv_at hl 1 rfl) ?_
          refine zr_get S hK hP (by decide) (mF_0 _) fMod_next q856 rfl dMod_count_18 ?_
          refine lv_iload_n S.1 S.2.1 dMod_count_21 rfl (lv_at hl 2 rfl) ?_
          obtain ⟨z22, hw⟩ := hw
          refine zr_ald S hK hP (by decide) (mF_22 _) 0 rfl z22 dMod_count_22 ?_
          refine lv_topi (fun y23 e23 => ?_)
          have hw := hw y23 e23
          refine lv_istore_n (lv' := [(3, .int y23), (2, .int (v2 + 1)), (0, .ref (ad 0))]) S.1 S.2.1 dMod_count_23 rfl hl (by decide) rfl (fun ls hl => ?_)
          refine lv_goto S.1 S.2.1 dMod_count_24 rfl ?_
          exact ih4 _ _ _ _ _ _ hw (lv_sub hl [2, 1, 0] rfl) hP hS
  unfold wpMod_count at hw
  refine lv_iconst (v := 0) S.1 S.2.1 dMod_count_0 (by decide) ?_
  refine lv_istore_n (lv' := [(2, .int 0), (0, .ref (ad 0)), (1, .int x1)]) S.1 S.2.1 dMod_count_1 rfl hl (by decide) rfl (fun ls hl => ?_)
  refine lv_iload_n S.1 S.2.1 dMod_count_2 rfl (lv_at hl 2 rfl) ?_
  refine lv_istore_n (lv' := [(3, .int x1), (2, .int 0), (0, .ref (ad 0)), (1, .int x1)]) S.1 S.2.1 dMod_count_3 rfl hl (by decide) rfl (fun ls hl => ?_)
  obtain ⟨fu, hw⟩ := hw
  exact J4 fu _ _ _ _ _ _ hw (lv_sub hl [2, 1, 0] rfl) hP hS
/-! Mod.equal -/
theorem dMod_equal_0 : decode bMod_equal 0 = .ok (.iload_n 1, 1) := by decide +kernel
theorem dMod_equal_1 : decode bMod_equal 1 = .ok (.istore_n 3, 1) := by decide +kernel
theorem dMod_equal_2 : decode bMod_equal 2 = .ok (.iload_n 2, 1) := by decide +kernel
theorem dMod_equal_3 : decode bMod_equal 3 = .ok (.istore 4, 2) := by decide +kernel
theorem dMod_equal_5 : decode bMod_equal 5 = .ok (.iconst 0, 1) := by decide +kernel
theorem dMod_equal_6 : decode bMod_equal 6 = .ok (.istore 5, 2) := by decide +kernel
theorem dMod_equal_8 : decode bMod_equal 8 = .ok (.iload 5, 2) := by decide +kernel
theorem dMod_equal_10 : decode bMod_equal 10 = .ok (.bipush 10, 2) := by decide +kernel
theorem dMod_equal_12 : decode bMod_equal 12 = .ok (.if_icmp .ge 177, 3) := by decide +kernel
theorem dMod_equal_15 : decode bMod_equal 15 = .ok (.aload_n 0, 1) := by decide +kernel
theorem dMod_equal_16 : decode bMod_equal 16 = .ok (.getfield 13, 3) := by decide +kernel
theorem dMod_equal_19 : decode bMod_equal 19 = .ok (.aload_n 0, 1) := by decide +kernel
theorem dMod_equal_20 : decode bMod_equal 20 = .ok (.getfield 71, 3) := by decide +kernel
theorem dMod_equal_23 : decode bMod_equal 23 = .ok (.iload_n 3, 1) := by decide +kernel
theorem dMod_equal_24 : decode bMod_equal 24 = .ok (.iaload, 1) := by decide +kernel
theorem dMod_equal_25 : decode bMod_equal 25 = .ok (.iaload, 1) := by decide +kernel
theorem dMod_equal_26 : decode bMod_equal 26 = .ok (.istore 6, 2) := by decide +kernel
theorem dMod_equal_28 : decode bMod_equal 28 = .ok (.iload 6, 2) := by decide +kernel
theorem dMod_equal_30 : decode bMod_equal 30 = .ok (.ifCond .ne 15, 3) := by decide +kernel
theorem dMod_equal_33 : decode bMod_equal 33 = .ok (.iload_n 3, 1) := by decide +kernel
theorem dMod_equal_34 : decode bMod_equal 34 = .ok (.iload 4, 2) := by decide +kernel
theorem dMod_equal_36 : decode bMod_equal 36 = .ok (.if_icmp .ne 7, 3) := by decide +kernel
theorem dMod_equal_39 : decode bMod_equal 39 = .ok (.iconst 1, 1) := by decide +kernel
theorem dMod_equal_40 : decode bMod_equal 40 = .ok (.goto 4, 3) := by decide +kernel
theorem dMod_equal_43 : decode bMod_equal 43 = .ok (.iconst 0, 1) := by decide +kernel
theorem dMod_equal_44 : decode bMod_equal 44 = .ok (.ireturn, 1) := by decide +kernel
theorem dMod_equal_45 : decode bMod_equal 45 = .ok (.iload 6, 2) := by decide +kernel
theorem dMod_equal_47 : decode bMod_equal 47 = .ok (.iconst 4, 1) := by decide +kernel
theorem dMod_equal_48 : decode bMod_equal 48 = .ok (.if_icmp .ne 5, 3) := by decide +kernel
theorem dMod_equal_51 : decode bMod_equal 51 = .ok (.iconst 0, 1) := by decide +kernel
theorem dMod_equal_52 : decode bMod_equal 52 = .ok (.ireturn, 1) := by decide +kernel
theorem dMod_equal_53 : decode bMod_equal 53 = .ok (.iload 6, 2) := by decide +kernel
theorem dMod_equal_55 : decode bMod_equal 55 = .ok (.iconst 3, 1) := by decide +kernel
theorem dMod_equal_56 : decode bMod_equal 56 = .ok (.if_icmp .ne 45, 3) := by decide +kernel
theorem dMod_equal_59 : decode bMod_equal 59 = .ok (.aload_n 0, 1) := by decide +kernel
theorem dMod_equal_60 : decode bMod_equal 60 = .ok (.aload_n 0, 1) := by decide +kernel
theorem dMod_equal_61 : decode bMod_equal 61 = .ok (.getfield 71, 3) := by decide +kernel
theorem dMod_equal_64 : decode bMod_equal 64 = .ok (.iload 4, 2) := by decide +kernel
theorem dMod_equal_66 : decode bMod_equal 66 = .ok (.iaload, 1) := by decide +kernel
theorem dMod_equal_67 : decode bMod_equal 67 = .ok (.aload_n 0, 1) := by decide +kernel
theorem dMod_equal_68 : decode bMod_equal 68 = .ok (.getfield 71, 3) := by decide +kernel
theorem dMod_equal_71 : decode bMod_equal 71 = .ok (.iload_n 3, 1) := by decide +kernel
theorem dMod_equal_72 : decode bMod_equal 72 = .ok (.iaload, 1) := by decide +kernel
theorem dMod_equal_73 : decode bMod_equal 73 = .ok (.invokevirtual 138, 3) := by decide +kernel
theorem dMod_equal_76 : decode bMod_equal 76 = .ok (.ifCond .eq 23, 3) := by decide +kernel
theorem dMod_equal_79 : decode bMod_equal 79 = .ok (.aload_n 0, 1) := by decide +kernel
theorem dMod_equal_80 : decode bMod_equal 80 = .ok (.getfield 74, 3) := by decide +kernel
theorem dMod_equal_83 : decode bMod_equal 83 = .ok (.iload_n 3, 1) := by decide +kernel
theorem dMod_equal_84 : decode bMod_equal 84 = .ok (.iaload, 1) := by decide +kernel
theorem dMod_equal_85 : decode bMod_equal 85 = .ok (.aload_n 0, 1) := by decide +kernel
theorem dMod_equal_86 : decode bMod_equal 86 = .ok (.getfield 74, 3) := by decide +kernel
theorem dMod_equal_89 : decode bMod_equal 89 = .ok (.iload 4, 2) := by decide +kernel
theorem dMod_equal_91 : decode bMod_equal 91 = .ok (.iaload, 1) := by decide +kernel
theorem dMod_equal_92 : decode bMod_equal 92 = .ok (.if_icmp .ne 7, 3) := by decide +kernel
theorem dMod_equal_95 : decode bMod_equal 95 = .ok (.iconst 1, 1) := by decide +kernel
theorem dMod_equal_96 : decode bMod_equal 96 = .ok (.goto 4, 3) := by decide +kernel
theorem dMod_equal_99 : decode bMod_equal 99 = .ok (.iconst 0, 1) := by decide +kernel
theorem dMod_equal_100 : decode bMod_equal 100 = .ok (.ireturn, 1) := by decide +kernel
theorem dMod_equal_101 : decode bMod_equal 101 = .ok (.aload_n 0, 1) := by decide +kernel
theorem dMod_equal_102 : decode bMod_equal 102 = .ok (.getfield 71, 3) := by decide +kernel
theorem dMod_equal_105 : decode bMod_equal 105 = .ok (.iload_n 3, 1) := by decide +kernel
theorem dMod_equal_106 : decode bMod_equal 106 = .ok (.iaload, 1) := by decide +kernel
theorem dMod_equal_107 : decode bMod_equal 107 = .ok (.aload_n 0, 1) := by decide +kernel
theorem dMod_equal_108 : decode bMod_equal 108 = .ok (.getfield 71, 3) := by decide +kernel
theorem dMod_equal_111 : decode bMod_equal 111 = .ok (.iload 4, 2) := by decide +kernel
theorem dMod_equal_113 : decode bMod_equal 113 = .ok (.iaload, 1) := by decide +kernel
theorem dMod_equal_114 : decode bMod_equal 114 = .ok (.if_icmp .ne 19, 3) := by decide +kernel
theorem dMod_equal_117 : decode bMod_equal 117 = .ok (.aload_n 0, 1) := by decide +kernel
theorem dMod_equal_118 : decode bMod_equal 118 = .ok (.getfield 74, 3) := by decide +kernel
theorem dMod_equal_121 : decode bMod_equal 121 = .ok (.iload_n 3, 1) := by decide +kernel
theorem dMod_equal_122 : decode bMod_equal 122 = .ok (.iaload, 1) := by decide +kernel
theorem dMod_equal_123 : decode bMod_equal 123 = .ok (.aload_n 0, 1) := by decide +kernel
theorem dMod_equal_124 : decode bMod_equal 124 = .ok (.getfield 74, 3) := by decide +kernel
theorem dMod_equal_127 : decode bMod_equal 127 = .ok (.iload 4, 2) := by decide +kernel
theorem dMod_equal_129 : decode bMod_equal 129 = .ok (.iaload, 1) := by decide +kernel
theorem dMod_equal_130 : decode bMod_equal 130 = .ok (.if_icmp .eq 5, 3) := by decide +kernel
theorem dMod_equal_133 : decode bMod_equal 133 = .ok (.iconst 0, 1) := by decide +kernel
theorem dMod_equal_134 : decode bMod_equal 134 = .ok (.ireturn, 1) := by decide +kernel
theorem dMod_equal_135 : decode bMod_equal 135 = .ok (.iload 6, 2) := by decide +kernel
theorem dMod_equal_137 : decode bMod_equal 137 = .ok (.iconst 1, 1) := by decide +kernel
theorem dMod_equal_138 : decode bMod_equal 138 = .ok (.if_icmp .ne 5, 3) := by decide +kernel
theorem dMod_equal_141 : decode bMod_equal 141 = .ok (.iconst 1, 1) := by decide +kernel
theorem dMod_equal_142 : decode bMod_equal 142 = .ok (.ireturn, 1) := by decide +kernel
theorem dMod_equal_143 : decode bMod_equal 143 = .ok (.aload_n 0, 1) := by decide +kernel
theorem dMod_equal_144 : decode bMod_equal 144 = .ok (.getfield 77, 3) := by decide +kernel
theorem dMod_equal_147 : decode bMod_equal 147 = .ok (.iload_n 3, 1) := by decide +kernel
theorem dMod_equal_148 : decode bMod_equal 148 = .ok (.iaload, 1) := by decide +kernel
theorem dMod_equal_149 : decode bMod_equal 149 = .ok (.istore_n 3, 1) := by decide +kernel
theorem dMod_equal_150 : decode bMod_equal 150 = .ok (.aload_n 0, 1) := by decide +kernel
theorem dMod_equal_151 : decode bMod_equal 151 = .ok (.getfield 77, 3) := by decide +kernel
theorem dMod_equal_154 : decode bMod_equal 154 = .ok (.iload 4, 2) := by decide +kernel
theorem dMod_equal_156 : decode bMod_equal 156 = .ok (.iaload, 1) := by decide +kernel
theorem dMod_equal_157 : decode bMod_equal 157 = .ok (.istore 4, 2) := by decide +kernel
theorem dMod_equal_159 : decode bMod_equal 159 = .ok (.iload_n 3, 1) := by decide +kernel
theorem dMod_equal_160 : decode bMod_equal 160 = .ok (.ifCond .lt 8, 3) := by decide +kernel
theorem dMod_equal_163 : decode bMod_equal 163 = .ok (.iload 4, 2) := by decide +kernel
theorem dMod_equal_165 : decode bMod_equal 165 = .ok (.ifCond .ge 18, 3) := by decide +kernel
theorem dMod_equal_168 : decode bMod_equal 168 = .ok (.iload_n 3, 1) := by decide +kernel
theorem dMod_equal_169 : decode bMod_equal 169 = .ok (.ifCond .ge 12, 3) := by decide +kernel
theorem dMod_equal_172 : decode bMod_equal 172 = .ok (.iload 4, 2) := by decide +kernel
theorem dMod_equal_174 : decode bMod_equal 174 = .ok (.ifCond .ge 7, 3) := by decide +kernel
theorem dMod_equal_177 : decode bMod_equal 177 = .ok (.iconst 1, 1) := by decide +kernel
theorem dMod_equal_178 : decode bMod_equal 178 = .ok (.goto 4, 3) := by decide +kernel
theorem dMod_equal_181 : decode bMod_equal 181 = .ok (.iconst 0, 1) := by decide +kernel
theorem dMod_equal_182 : decode bMod_equal 182 = .ok (.ireturn, 1) := by decide +kernel
theorem dMod_equal_183 : decode bMod_equal 183 = .ok (.iinc 5 1, 3) := by decide +kernel
theorem dMod_equal_186 : decode bMod_equal 186 = .ok (.goto (-178), 3) := by decide +kernel
theorem dMod_equal_189 : decode bMod_equal 189 = .ok (.iconst 1, 1) := by decide +kernel
theorem dMod_equal_190 : decode bMod_equal 190 = .ok (.ireturn, 1) := by decide +kernel
def wbMod_equal_168 (post : Int32 → zM → Prop) (v3 : Int32) (v4 : Int32) (h : zM) : Prop := (((0 ≤ v3) → post 0 h) ∧ (¬ (0 ≤ v3) → (((0 ≤ v4) → post 0 h) ∧ (¬ (0 ≤ v4) → post 1 h))))
def stMod_equal_8 (post : Int32 → zM → Prop) (L8 : (Int32 × Int32 × Int32 × zM) → Prop) : (Int32 × Int32 × Int32 × zM) → Prop := fun s => match s with
  | (v3, v4, v5, h) => (((10 ≤ v5) → post 1 h) ∧ (¬ (10 ≤ v5) → (vp_in v3 10 ∧ (vp_in (h 20 (Int32.toNatClampNeg v3)) 5 ∧ ∀ y26 : Int32, y26 = (h 2 (Int32.toNatClampNeg (h 20 (Int32.toNatClampNeg v3)))) → ((¬ y26 = 0 → ((¬ y26 = 4 → ((¬ y26 = 3 → (vp_in v3 10 ∧ (vp_in v4 10 ∧ ((¬ (h 20 (Int32.toNatClampNeg v3)) = (h 20 (Int32.toNatClampNeg v4)) → post 0 h) ∧ ((h 20 (Int32.toNatClampNeg v3)) = (h 20 (Int32.toNatClampNeg v4)) → (vp_in v3 10 ∧ (vp_in v4 10 ∧ (((h 21 (Int32.toNatClampNeg v3)) = (h 21 (Int32.toNatClampNeg v4)) → ((¬ y26 = 1 → (vp_in v3 10 ∧ ∀ y149 : Int32, y149 = (h 22 (Int32.toNatClampNeg v3)) → (vp_in v4 10 ∧ ∀ y157 : Int32, y157 = (h 22 (Int32.toNatClampNeg v4)) → (((y149 < 0) → wbMod_equal_168 post y149 y157 h) ∧ (¬ (y149 < 0) → (((0 ≤ y157) → L8 (y149, y157, (v5 + 1), h)) ∧ (¬ (0 ≤ y157) → wbMod_equal_168 post y149 y157 h))))))) ∧ (y26 = 1 → post 1 h))) ∧ (¬ (h 21 (Int32.toNatClampNeg v3)) = (h 21 (Int32.toNatClampNeg v4)) → post 0 h))))))))) ∧ (y26 = 3 → (vp_in v4 10 ∧ (vp_in v3 10 ∧ wpMod_is (h 20 (Int32.toNatClampNeg v4)) (h 20 (Int32.toNatClampNeg v3)) h (fun r73 h73 => ((r73 = 0 → post 0 h73) ∧ (¬ r73 = 0 → (vp_in v3 10 ∧ (vp_in v4 10 ∧ ((¬ (h73 21 (Int32.toNatClampNeg v3)) = (h73 21 (Int32.toNatClampNeg v4)) → post 0 h73) ∧ ((h73 21 (Int32.toNatClampNeg v3)) = (h73 21 (Int32.toNatClampNeg v4)) → post 1 h73)))))))))))) ∧ (y26 = 4 → post 0 h))) ∧ (y26 = 0 → ((¬ v3 = v4 → post 0 h) ∧ (v3 = v4 → post 1 h))))))))
def wpMod_equal (x1 : Int32) (x2 : Int32) (h : zM) (post : Int32 → zM → Prop) : Prop := zL (stMod_equal_8 post) (x1, x2, 0, h)
abbrev rmMod_equal : Room := { frames := 1, cells := 0, slots := 0, locals := 24 }
set_option maxHeartbeats 4000000 in
set_option maxRecDepth 100000 in
theorem cMod_equal (l : Launch) (D : va_G) (cI cC cE : ClassId) (ad : Nat → Nat) (A : Nat → Prop) (hJ : zJ A 28 ad) (x1 : Int32) (x2 : Int32) (h : zM) (post : Int32 → zM → Prop) (hw : wpMod_equal x1 x2 h post) : Met l yMod_equal (.code yMod_equal bMod_equal 7 (some .boolean) :: zt) rmMod_equal (va_Pc [.ref (ad 0), .int x1, .int x2] (zPre D (zty cI cC cE) 28 ad (mF ad cI) A h)) (va_Qi post (zPst D (zty cI cC cE) 28 ad (mF ad cI)) A) 0 0 A := by
  refine Met.ofW (cc := bMod_equal) (maxL := 7) (ret := (some .boolean)) (by decide) rfl ?_
  intro p e s m args below meth c s₁ B hml hv
  obtain ⟨rfl, hP, hK, hT, hN⟩ := hv
  have hr := B.returns
  have hlk := B.notSynchronized
  have S : zS p m c bMod_equal 7 s _ "CallExplorerModel" := ⟨B.exec, B.bytes, hml, findClass_of_methodNamed B.named, fun w hw => atoms_spec (ws := .code yMod_equal bMod_equal 7 (some .boolean) :: zt) B.pre w (List.mem_cons_of_mem _ hw)⟩
  have hS : va_S A s.heap s.heap [] := va_S.rf
  have hl := lv_entry ([.ref (ad 0), .int x1, .int x2]) (n := 7) (Nat.le_of_ble_eq_true rfl)
  rw [lg_entry_eq]
  generalize (lg_sl ([.ref (ad 0), .int x1, .int x2]) ++ List.replicate (7 - (lg_sl ([.ref (ad 0), .int x1, .int x2])).length) Slot.unset).toArray = ls at hl ⊢
  have hl : lv_has ls 7 [(0, .ref (ad 0)), (1, .int x1), (2, .int x2)] := hl
  show W p l e rmMod_equal s m ([.ref (ad 0), .int x1, .int x2] : List Value).toArray below meth c s.heap [] 0 0 (zQi post D (zty cI cC cE) 28 ad (mF ad cI) A below ([.ref (ad 0), .int x1, .int x2] : List Value).toArray s) _
  have J168 : ∀ (v3 : Int32) (v4 : Int32) (h : zM) (H : Heap) (locs : List Loc) (ls : Array Slot), wbMod_equal_168 post v3 v4 h → lv_has ls 7 [(3, .int v3), (4, .int v4)] → va_P D zcl (zW 28 ad (mF ad cI) h) H → va_S A s.heap H locs → W p l e rmMod_equal s m ([.ref (ad 0), .int x1, .int x2] : List Value).toArray below meth c H locs 0 0 (zQi post D (zty cI cC cE) 28 ad (mF ad cI) A below ([.ref (ad 0), .int x1, .int x2] : List Value).toArray s) (F0 m 168 ls []) := by
    intro v3 v4 h H locs ls hw hl hP hS
    unfold wbMod_equal_168 at hw
    refine lv_iload_n S.1 S.2.1 dMod_equal_168 rfl (lv_at hl 0 rfl) ?_
    refine lv_if_ge S.1 S.2.1 dMod_equal_169 rfl (fun hc => ?_) (fun hc => ?_)
    · have hw := hw.1 hc
      refine lv_iconst (v := 0) S.1 S.2.1 dMod_equal_181 (by decide) ?_
      exact zr_iret S hr hlk hK hP hS rfl hw dMod_equal_182
    · have hw := hw.2 hc
      refine lv_iload S.1 S.2.1 dMod_equal_172 (lv_at hl 1 rfl) ?_
      refine lv_if_ge S.1 S.2.1 dMod_equal_174 rfl (fun hc => ?_) (fun hc => ?_)
      · have hw := hw.1 hc
        refine lv_iconst (v := 0) S.1 S.2.1 dMod_equal_181 (by decide) ?_
        exact zr_iret S hr hlk hK hP hS rfl hw dMod_equal_182
      · have hw := hw.2 hc
        refine lv_iconst (v := 1) S.1 S.2.1 dMod_equal_177 (by decide) ?_
        refine lv_goto S.1 S.2.1 dMod_equal_178 rfl ?_
        exact zr_iret S hr hlk hK hP hS rfl hw dMod_equal_182
  have J8 : ∀ (fu : Nat) (v3 : Int32) (v4 : Int32) (v5 : Int32) (h : zM) (H : Heap) (locs : List Loc) (ls : Array Slot), zl (stMod_equal_8 post) fu (v3, v4, v5, h) → lv_has ls 7 [(0, .ref (ad 0)), (3, .int v3), (4, .int v4), (5, .int v5)] → va_P D zcl (zW 28 ad (mF ad cI) h) H → va_S A s.heap H locs → W p l e rmMod_equal s m ([.ref (ad 0), .int x1, .int x2] : List Value).toArray below meth c H locs 0 0 (zQi post D (zty cI cC cE) 28 ad (mF ad cI) A below ([.ref (ad 0), .int x1, .int x2] : List Value).toArray s) (F0 m 8 ls []) := by
    intro fu8
    induction fu8 with
    | zero =>
      intro v3 v4 v5 h H locs ls hw
      exact (zl_0 hw).elim
    | succ fu8 ih8 =>
      intro v3 v4 v5 h H locs ls hw hl hP hS
      have hw := zl_s hw
      generalize zl (stMod_equal_8 post) fu8 = L8 at hw ih8
      unfold stMod_equal_8 at hw
      dsimp only at hw
      refine lv_iload S.1 S.2.1 dMod_equal_8 (lv_at hl 3 rfl) ?_
      refine lv_bipush (v := 10) S.1 S.2.1 dMod_equal_10 (by decide) ?_
      refine lv_icmp_ge S.1 S.2.1 dMod_equal_12 rfl (fun hc => ?_) (fun hc => ?_)
      · have hw := hw.1 hc
        refine lv_iconst (v := 1) S.1 S.2.1 dMod_equal_189 (by decide) ?_
        exact zr_iret S hr hlk hK hP hS rfl hw dMod_equal_190
      · have hw := hw.2 hc
        refine lv_aload_n S.1 S.2.1 dMod_equal_15 rfl (lv_at hl 0 rfl) ?_
        refine zr_get S hK hP (by decide) (mF_0 _) fMod_sense q831 rfl dMod_equal_16 ?_
        refine lv_aload_n S.1 S.2.1 dMod_equal_19 rfl (lv_at hl 0 rfl) ?_
        refine zr_get S hK hP (by decide) (mF_0 _) fMod_of q854 rfl dMod_equal_20 ?_
        refine lv_iload_n S.1 S.2.1 dMod_equal_23 rfl (lv_at hl 1 rfl) ?_
        obtain ⟨z24, hw⟩ := hw
        refine zr_ald S hK hP (by decide) (mF_20 _) 0 rfl z24 dMod_equal_24 ?_
        obtain ⟨z25, hw⟩ := hw
        refine zr_ald S hK hP (by decide) (mF_2 _) 0 rfl z25 dMod_equal_25 ?_
        refine lv_topi (fun y26 e26 => ?_)
        have hw := hw y26 e26
        refine lv_istore (lv' := [(6, .int y26), (0, .ref (ad 0)), (3, .int v3), (4, .int v4), (5, .int v5)]) S.1 S.2.1 dMod_equal_26 hl (by decide) rfl (fun ls hl => ?_)
        refine lv_iload S.1 S.2.1 dMod_equal_28 (lv_at hl 0 rfl) ?_
        refine lv_if_ne S.1 S.2.1 dMod_equal_30 rfl (fun hc => ?_) (fun hc => ?_)
        · have hw := hw.1 hc
          refine lv_iload S.1 S.2.1 dMod_equal_45 (lv_at hl 0 rfl) ?_
          refine lv_iconst (v := 4) S.1 S.2.1 dMod_equal_47 (by decide) ?_
          refine lv_icmp_ne S.1 S.2.1 dMod_equal_48 rfl (fun hc => ?_) (fun hc => ?_)
          · have hw := hw.1 hc
            refine lv_iload S.1 S.2.1 dMod_equal_53 (lv_at hl 0 rfl) ?_
            refine lv_iconst (v := 3) S.1 S.2.1 dMod_equal_55 (by decide) ?_
            refine lv_icmp_ne S.1 S.2.1 dMod_equal_56 rfl (fun hc => ?_) (fun hc => ?_)
            · have hw := hw.1 hc
              refine lv_aload_n S.1 S.2.1 dMod_equal_101 rfl (lv_at hl 1 rfl) ?_
              refine zr_get S hK hP (by decide) (mF_0 _) fMod_of q854 rfl dMod_equal_102 ?_
              refine lv_iload_n S.1 S.2.1 dMod_equal_105 rfl (lv_at hl 2 rfl) ?_
              obtain ⟨z106, hw⟩ := hw
              refine zr_ald S hK hP (by decide) (mF_20 _) 0 rfl z106 dMod_equal_106 ?_
              refine lv_aload_n S.1 S.2.1 dMod_equal_107 rfl (lv_at hl 1 rfl) ?_
              refine zr_get S hK hP (by decide) (mF_0 _) fMod_of q854 rfl dMod_equal_108 ?_
              refine lv_iload S.1 S.2.1 dMod_equal_111 (lv_at hl 3 rfl) ?_
              obtain ⟨z113, hw⟩ := hw
              refine zr_ald S hK hP (by decide) (mF_20 _) 0 rfl z113 dMod_equal_113 ?_
              refine lv_icmp_ne S.1 S.2.1 dMod_equal_114 rfl (fun hc => ?_) (fun hc => ?_)
              · have hw := hw.1 hc
                refine lv_iconst (v := 0) S.1 S.2.1 dMod_equal_133 (by decide) ?_
                exact zr_iret S hr hlk hK hP hS rfl hw dMod_equal_134
              · have hw := hw.2 hc
                refine lv_aload_n S.1 S.2.1 dMod_equal_117 rfl (lv_at hl 1 rfl) ?_
                refine zr_get S hK hP (by decide) (mF_0 _) fMod_value q855 rfl dMod_equal_118 ?_
                refine lv_iload_n S.1 S.2.1 dMod_equal_121 rfl (lv_at hl 2 rfl) ?_
                obtain ⟨z122, hw⟩ := hw
                refine zr_ald S hK hP (by decide) (mF_21 _) 0 rfl z122 dMod_equal_122 ?_
                refine lv_aload_n S.1 S.2.1 dMod_equal_123 rfl (lv_at hl 1 rfl) ?_
                refine zr_get S hK hP (by decide) (mF_0 _) fMod_value q855 rfl dMod_equal_124 ?_
                refine lv_iload S.1 S.2.1 dMod_equal_127 (lv_at hl 3 rfl) ?_
                obtain ⟨z129, hw⟩ := hw
                refine zr_ald S hK hP (by decide) (mF_21 _) 0 rfl z129 dMod_equal_129 ?_
                refine lv_icmp_eq S.1 S.2.1 dMod_equal_130 rfl (fun hc => ?_) (fun hc => ?_)
                · have hw := hw.1 hc
                  refine lv_iload S.1 S.2.1 dMod_equal_135 (lv_at hl 0 rfl) ?_
                  refine lv_iconst (v := 1) S.1 S.2.1 dMod_equal_137 (by decide) ?_
                  refine lv_icmp_ne S.1 S.2.1 dMod_equal_138 rfl (fun hc => ?_) (fun hc => ?_)
                  · have hw := hw.1 hc
                    refine lv_aload_n S.1 S.2.1 dMod_equal_143 rfl (lv_at hl 1 rfl) ?_
                    refine zr_get S hK hP (by decide) (mF_0 _) fMod_next q856 rfl dMod_equal_144 ?_
                    refine lv_iload_n S.1 S.2.1 dMod_equal_147 rfl (lv_at hl 2 rfl) ?_
                    obtain ⟨z148, hw⟩ := hw
                    refine zr_ald S hK hP (by decide) (mF_22 _) 0 rfl z148 dMod_equal_148 ?_
                    refine lv_topi (fun y149 e149 => ?_)
                    have hw := hw y149 e149
                    refine lv_istore_n (lv' := [(3, .int y149), (6, .int y26), (0, .ref (ad 0)), (4, .int v4), (5, .int v5)]) S.1 S.2.1 dMod_equal_149 rfl hl (by decide) rfl (fun ls hl => ?_)
                    refine lv_aload_n S.1 S.2.1 dMod_equal_150 rfl (lv_at hl 2 rfl) ?_
                    refine zr_get S hK hP (by decide) (mF_0 _) fMod_next q856 rfl dMod_equal_151 ?_
                    refine lv_iload S.1 S.2.1 dMod_equal_154 (lv_at hl 3 rfl) ?_
                    obtain ⟨z156, hw⟩ := hw
                    refine zr_ald S hK hP (by decide) (mF_22 _) 0 rfl z156 dMod_equal_156 ?_
                    refine lv_topi (fun y157 e157 => ?_)
                    have hw := hw y157 e157
                    refine lv_istore (lv' := [(4, .int y157), (3, .int y149), (6, .int y26), (0, .ref (ad 0)), (5, .int v5)]) S.1 S.2.1 dMod_equal_157 hl (by decide) rfl (fun ls hl => ?_)
                    refine lv_iload_n S.1 S.2.1 dMod_equal_159 rfl (lv_at hl 1 rfl) ?_
                    refine lv_if_lt S.1 S.2.1 dMod_equal_160 rfl (fun hc => ?_) (fun hc => ?_)
                    · have hw := hw.1 hc
                      exact J168 _ _ _ _ _ _ hw (lv_sub hl [1, 0] rfl) hP hS
                    · have hw := hw.2 hc
                      refine lv_iload S.1 S.2.1 dMod_equal_163 (lv_at hl 0 rfl) ?_
                      refine lv_if_ge S.1 S.2.1 dMod_equal_165 rfl (fun hc => ?_) (fun hc => ?_)
                      · have hw := hw.1 hc
                        refine lv_iinc (v := (v5 + 1)) (lv' := [(5, .int (v5 + 1)), (4, .int y157), (3, .int y149), (6, .int y26), (0, .ref (ad 0))]) (k := 4) S.1 S.2.1 dMod_equal_183 hl rfl rfl (by decide) rfl (fun ls hl => ?_)
                        refine lv_goto S.1 S.2.1 dMod_equal_186 rfl ?_
                        exact ih8 _ _ _ _ _ _ _ hw (lv_sub hl [4, 2, 1, 0] rfl) hP hS
                      · have hw := hw.2 hc
                        exact J168 _ _ _ _ _ _ hw (lv_sub hl [1, 0] rfl) hP hS
                  · have hw := hw.2 hc
                    refine lv_iconst (v := 1) S.1 S.2.1 dMod_equal_141 (by decide) ?_
                    exact zr_iret S hr hlk hK hP hS rfl hw dMod_equal_142
                · have hw := hw.2 hc
                  refine lv_iconst (v := 0) S.1 S.2.1 dMod_equal_133 (by decide) ?_
                  exact zr_iret S hr hlk hK hP hS rfl hw dMod_equal_134
            · have hw := hw.2 hc
              refine lv_aload_n S.1 S.2.1 dMod_equal_59 rfl (lv_at hl 1 rfl) ?_
              refine lv_aload_n S.1 S.2.1 dMod_equal_60 rfl (lv_at hl 1 rfl) ?_
              refine zr_get S hK hP (by decide) (mF_0 _) fMod_of q854 rfl dMod_equal_61 ?_
              refine lv_iload S.1 S.2.1 dMod_equal_64 (lv_at hl 3 rfl) ?_
              obtain ⟨z66, hw⟩ := hw
              refine zr_ald S hK hP (by decide) (mF_20 _) 0 rfl z66 dMod_equal_66 ?_
              refine lv_aload_n S.1 S.2.1 dMod_equal_67 rfl (lv_at hl 1 rfl) ?_
              refine zr_get S hK hP (by decide) (mF_0 _) fMod_of q854 rfl dMod_equal_68 ?_
              refine lv_iload_n S.1 S.2.1 dMod_equal_71 rfl (lv_at hl 2 rfl) ?_
              obtain ⟨z72, hw⟩ := hw
              refine zr_ald S hK hP (by decide) (mF_20 _) 0 rfl z72 dMod_equal_72 ?_
              refine zr_i (zr_V (As := [.int (h 20 (Int32.toNatClampNeg v4)), .int (h 20 (Int32.toNatClampNeg v3))]) (rest := []) S hK hT hN hP hS (by decide) (mF_0 _) rfl (cMod_is l D cI cC cE ad A hJ _ _ _ _ hw) caMod_138 ⟨Nat.le_of_ble_eq_true rfl, Nat.le_of_ble_eq_true rfl⟩ ⟨rfl, rfl⟩ rfl hl.1 rfl (Nat.le_of_ble_eq_true rfl) dMod_equal_73) hS (fun r73 h73 H locs hw hP hS => ?_)
              refine lv_if_eq S.1 S.2.1 dMod_equal_76 rfl (fun hc => ?_) (fun hc => ?_)
              · have hw := hw.1 hc
                refine lv_iconst (v := 0) S.1 S.2.1 dMod_equal_99 (by decide) ?_
                exact zr_iret S hr hlk hK hP hS rfl hw dMod_equal_100
              · have hw := hw.2 hc
                refine lv_aload_n S.1 S.2.1 dMod_equal_79 rfl (lv_at hl 1 rfl) ?_
                refine zr_get S hK hP (by decide) (mF_0 _) fMod_value q855 rfl dMod_equal_80 ?_
                refine lv_iload_n S.1 S.2.1 dMod_equal_83 rfl (lv_at hl 2 rfl) ?_
                obtain ⟨z84, hw⟩ := hw
                refine zr_ald S hK hP (by decide) (mF_21 _) 0 rfl z84 dMod_equal_84 ?_
                refine lv_aload_n S.1 S.2.1 dMod_equal_85 rfl (lv_at hl 1 rfl) ?_
                refine zr_get S hK hP (by decide) (mF_0 _) fMod_value q855 rfl dMod_equal_86 ?_
                refine lv_iload S.1 S.2.1 dMod_equal_89 (lv_at hl 3 rfl) ?_
                obtain ⟨z91, hw⟩ := hw
                refine zr_ald S hK hP (by decide) (mF_21 _) 0 rfl z91 dMod_equal_91 ?_
                refine lv_icmp_ne S.1 S.2.1 dMod_equal_92 rfl (fun hc => ?_) (fun hc => ?_)
                · have hw := hw.1 hc
                  refine lv_iconst (v := 0) S.1 S.2.1 dMod_equal_99 (by decide) ?_
                  exact zr_iret S hr hlk hK hP hS rfl hw dMod_equal_100
                · have hw := hw.2 hc
                  refine lv_iconst (v := 1) S.1 S.2.1 dMod_equal_95 (by decide) ?_
                  refine lv_goto S.1 S.2.1 dMod_equal_96 rfl ?_
                  exact zr_iret S hr hlk hK hP hS rfl hw dMod_equal_100
          · have hw := hw.2 hc
            refine lv_iconst (v := 0) S.1 S.2.1 dMod_equal_51 (by decide) ?_
            exact zr_iret S hr hlk hK hP hS rfl hw dMod_equal_52
        · have hw := hw.2 hc
          refine lv_iload_n S.1 S.2.1 dMod_equal_33 rfl (lv_at hl 2 rfl) ?_
          refine lv_iload S.1 S.2.1 dMod_equal_34 (lv_at hl 3 rfl) ?_
          refine lv_icmp_ne S.1 S.2.1 dMod_equal_36 rfl (fun hc => ?_) (fun hc => ?_)
          · have hw := hw.1 hc
            refine lv_iconst (v := 0) S.1 S.2.1 dMod_equal_43 (by decide) ?_
            exact zr_iret S hr hlk hK hP hS rfl hw dMod_equal_44
          · have hw := hw.2 hc
            refine lv_iconst (v := 1) S.1 S.2.1 dMod_equal_39 (by decide) ?_
            refine lv_goto S.1 S.2.1 dMod_equal_40 rfl ?_
            exact zr_iret S hr hlk hK hP hS rfl hw dMod_equal_44
  unfold wpMod_equal at hw
  refine lv_iload_n S.1 S.2.1 dMod_equal_0 rfl (lv_at hl 1 rfl) ?_
  refine lv_istore_n (lv' := [(3, .int x1), (0, .ref (ad 0)), (1, .int x1), (2, .int x2)]) S.1 S.2.1 dMod_equal_1 rfl hl (by decide) rfl (fun ls hl => ?_)
  refine lv_iload_n S.1 S.2.1 dMod_equal_2 rfl (lv_at hl 3 rfl) ?_
  refine lv_istore (lv' := [(4, .int x2), (3, .int x1), (0, .ref (ad 0)), (1, .int x1), (2, .int x2)]) S.1 S.2.1 dMod_equal_3 hl (by decide) rfl (fun ls hl => ?_)
  refine lv_iconst (v := 0) S.1 S.2.1 dMod_equal_5 (by decide) ?_
  refine lv_istore (lv' := [(5, .int 0), (4, .int x2), (3, .int x1), (0, .ref (ad 0)), (1, .int x1), (2, .int x2)]) S.1 S.2.1 dMod_equal_6 hl (by decide) rfl (fun ls hl => ?_)
  obtain ⟨fu, hw⟩ := hw
  exact J8 fu _ _ _ _ _ _ _ hw (lv_sub hl [3, 2, 1, 0] rfl) hP hS
