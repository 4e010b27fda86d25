/-! predicates and contracts, printed by wip/whole/gen -/
/-! Mod.entries -/
theorem dMod_entries_0 : decode bMod_entries 0 = .ok (.aload_n 0, 1) := by decide +kernel
theorem dMod_entries_1 : decode bMod_entries 1 = .ok (.getfield 191, 3) := by decide +kernel
theorem dMod_entries_4 : decode bMod_entries 4 = .ok (.ireturn, 1) := by decide +kernel
def wpMod_entries (h : zM) (post : Int32 → zM → Prop) : Prop := post (h 0 17) h
abbrev rmMod_entries : Room := { frames := 0, cells := 0, slots := 0, locals := 0 }
set_option maxHeartbeats 4000000 in
set_option maxRecDepth 100000 in
theorem cMod_entries (l : Launch) (D : va_G) (cI cC cE : ClassId) (ad : Nat → Nat) (A : Nat → Prop) (hJ : zJ A 28 ad) (h : zM) (post : Int32 → zM → Prop) (hw : wpMod_entries h post) : Met l yMod_entries (.code yMod_entries bMod_entries 1 (some .int) :: zt) rmMod_entries (va_Pc [.ref (ad 0)] (zPre D (zty cI cC cE) 28 ad (mF ad cI) A h)) (va_Qi post (zPst D (zty cI cC cE) 28 ad (mF ad cI)) A) 0 0 A := by
  refine Met.ofW (cc := bMod_entries) (maxL := 1) (ret := (some .int)) (by decide) rfl ?_
  intro p e s m args below meth c s₁ B hml hv
  obtain ⟨rfl, hP, hK, hT, hN⟩ := hv
  have hr := B.returns
  have hlk := B.notSynchronized
  have S : zS p m c bMod_entries 1 s _ "CallExplorerModel" := ⟨B.exec, B.bytes, hml, findClass_of_methodNamed B.named, fun w hw => atoms_spec (ws := .code yMod_entries bMod_entries 1 (some .int) :: zt) B.pre w (List.mem_cons_of_mem _ hw)⟩
  have hS : va_S A s.heap s.heap [] := va_S.rf
  have hl := lv_entry ([.ref (ad 0)]) (n := 1) (Nat.le_of_ble_eq_true rfl)
  rw [lg_entry_eq]
  generalize (lg_sl ([.ref (ad 0)]) ++ List.replicate (1 - (lg_sl ([.ref (ad 0)])).length) Slot.unset).toArray = ls at hl ⊢
  have hl : lv_has ls 1 [(0, .ref (ad 0))] := hl
  show W p l e rmMod_entries s m ([.ref (ad 0)] : List Value).toArray below meth c s.heap [] 0 0 (zQi post D (zty cI cC cE) 28 ad (mF ad cI) A below ([.ref (ad 0)] : List Value).toArray s) _
  unfold wpMod_entries at hw
  refine lv_aload_n S.1 S.2.1 dMod_entries_0 rfl (lv_at hl 0 rfl) ?_
  refine zr_get S hK hP (by decide) (mF_0 _) fMod_entries q845 rfl dMod_entries_1 ?_
  exact zr_iret S hr hlk hK hP hS rfl hw dMod_entries_4
/-! Mod.entry -/
theorem dMod_entry_0 : decode bMod_entry 0 = .ok (.iload_n 1, 1) := by decide +kernel
theorem dMod_entry_1 : decode bMod_entry 1 = .ok (.ifCond .lt 11, 3) := by decide +kernel
theorem dMod_entry_4 : decode bMod_entry 4 = .ok (.iload_n 1, 1) := by decide +kernel
theorem dMod_entry_5 : decode bMod_entry 5 = .ok (.aload_n 0, 1) := by decide +kernel
theorem dMod_entry_6 : decode bMod_entry 6 = .ok (.getfield 191, 3) := by decide +kernel
theorem dMod_entry_9 : decode bMod_entry 9 = .ok (.if_icmp .lt 5, 3) := by decide +kernel
theorem dMod_entry_12 : decode bMod_entry 12 = .ok (.iconst (-1), 1) := by decide +kernel
theorem dMod_entry_13 : decode bMod_entry 13 = .ok (.ireturn, 1) := by decide +kernel
theorem dMod_entry_14 : decode bMod_entry 14 = .ok (.iload_n 2, 1) := by decide +kernel
theorem dMod_entry_15 : decode bMod_entry 15 = .ok (.tableswitch 67 0 4 #[33, 40, 47, 54, 60], 33) := by decide +kernel
theorem dMod_entry_48 : decode bMod_entry 48 = .ok (.aload_n 0, 1) := by decide +kernel
theorem dMod_entry_49 : decode bMod_entry 49 = .ok (.getfield 62, 3) := by decide +kernel
theorem dMod_entry_52 : decode bMod_entry 52 = .ok (.iload_n 1, 1) := by decide +kernel
theorem dMod_entry_53 : decode bMod_entry 53 = .ok (.iaload, 1) := by decide +kernel
theorem dMod_entry_54 : decode bMod_entry 54 = .ok (.ireturn, 1) := by decide +kernel
theorem dMod_entry_55 : decode bMod_entry 55 = .ok (.aload_n 0, 1) := by decide +kernel
theorem dMod_entry_56 : decode bMod_entry 56 = .ok (.getfield 65, 3) := by decide +kernel
theorem dMod_entry_59 : decode bMod_entry 59 = .ok (.iload_n 1, 1) := by decide +kernel
theorem dMod_entry_60 : decode bMod_entry 60 = .ok (.iaload, 1) := by decide +kernel
theorem dMod_entry_61 : decode bMod_entry 61 = .ok (.ireturn, 1) := by decide +kernel
theorem dMod_entry_62 : decode bMod_entry 62 = .ok (.aload_n 0, 1) := by decide +kernel
theorem dMod_entry_63 : decode bMod_entry 63 = .ok (.getfield 50, 3) := by decide +kernel
theorem dMod_entry_66 : decode bMod_entry 66 = .ok (.iload_n 1, 1) := by decide +kernel
theorem dMod_entry_67 : decode bMod_entry 67 = .ok (.iaload, 1) := by decide +kernel
theorem dMod_entry_68 : decode bMod_entry 68 = .ok (.ireturn, 1) := by decide +kernel
theorem dMod_entry_69 : decode bMod_entry 69 = .ok (.aload_n 0, 1) := by decide +kernel
theorem dMod_entry_70 : decode bMod_entry 70 = .ok (.iload_n 1, 1) := by decide +kernel
theorem dMod_entry_71 : decode bMod_entry 71 = .ok (.invokevirtual 205, 3) := by decide +kernel
theorem dMod_entry_74 : decode bMod_entry 74 = .ok (.ireturn, 1) := by decide +kernel
theorem dMod_entry_75 : decode bMod_entry 75 = .ok (.aload_n 0, 1) := by decide +kernel
theorem dMod_entry_76 : decode bMod_entry 76 = .ok (.getfield 68, 3) := by decide +kernel
theorem dMod_entry_79 : decode bMod_entry 79 = .ok (.iload_n 1, 1) := by decide +kernel
theorem dMod_entry_80 : decode bMod_entry 80 = .ok (.iaload, 1) := by decide +kernel
theorem dMod_entry_81 : decode bMod_entry 81 = .ok (.ireturn, 1) := by decide +kernel
theorem dMod_entry_82 : decode bMod_entry 82 = .ok (.iconst (-1), 1) := by decide +kernel
theorem dMod_entry_83 : decode bMod_entry 83 = .ok (.ireturn, 1) := by decide +kernel
def wpMod_entry (x1 : Int32) (x2 : Int32) (h : zM) (post : Int32 → zM → Prop) : Prop := (((x1 < 0) → post (-1) h) ∧ (¬ (x1 < 0) → (((x1 < (h 0 17)) → ((x2 = 0 → (vp_in x1 41 ∧ post (h 17 (Int32.toNatClampNeg x1)) h)) ∧ (¬ x2 = 0 → ((x2 = 1 → (vp_in x1 41 ∧ post (h 18 (Int32.toNatClampNeg x1)) h)) ∧ (¬ x2 = 1 → ((x2 = 2 → (vp_in x1 41 ∧ post (h 13 (Int32.toNatClampNeg x1)) h)) ∧ (¬ x2 = 2 → ((x2 = 3 → wpMod_typeOf x1 h (fun r71 h71 => post r71 h71)) ∧ (¬ x2 = 3 → ((x2 = 4 → (vp_in x1 41 ∧ post (h 19 (Int32.toNatClampNeg x1)) h)) ∧ (¬ x2 = 4 → post (-1) h))))))))))) ∧ (¬ (x1 < (h 0 17)) → post (-1) h))))
abbrev rmMod_entry : Room := { frames := 2, cells := 0, slots := 0, locals := 43 }
set_option maxHeartbeats 4000000 in
set_option maxRecDepth 100000 in
theorem cMod_entry (l : Launch) (D : va_G) (cI cC cE : ClassId) (ad : Nat → Nat) (A : Nat → Prop) (hJ : zJ A 28 ad) (x1 : Int32) (x2 : Int32) (h : zM) (post : Int32 → zM → Prop) (hw : wpMod_entry x1 x2 h post) : Met l yMod_entry (.code yMod_entry bMod_entry 3 (some .int) :: zt) rmMod_entry (va_Pc [.ref (ad 0), .int x1, .int x2] (zPre D (zty cI cC cE) 28 ad (mF ad cI) A h)) (va_Qi post (zPst D (zty cI cC cE) 28 ad (mF ad cI)) A) 0 0 A := by
  refine Met.ofW (cc := bMod_entry) (maxL := 3) (ret := (some .int)) (by decide) rfl ?_
  intro p e s m args below meth c s₁ B hml hv
  obtain ⟨rfl, hP, hK, hT, hN⟩ := hv
  have hr := B.returns
  have hlk := B.notSynchronized
  have S : zS p m c bMod_entry 3 s _ "CallExplorerModel" := ⟨B.exec, B.bytes, hml, findClass_of_methodNamed B.named, fun w hw => atoms_spec (ws := .code yMod_entry bMod_entry 3 (some .int) :: zt) B.pre w (List.mem_cons_of_mem _ hw)⟩
  have hS : va_S A s.heap s.heap [] := va_S.rf
  have hl := lv_entry ([.ref (ad 0), .int x1, .int x2]) (n := 3) (Nat.le_of_ble_eq_true rfl)
  rw [lg_entry_eq]
  generalize (lg_sl ([.ref (ad 0), .int x1, .int x2]) ++ List.replicate (3 - (lg_sl ([.ref (ad 0), .int x1, .int x2])).length) Slot.unset).toArray = ls at hl ⊢
  have hl : lv_has ls 3 [(0, .ref (ad 0)), (1, .int x1), (2, .int x2)] := hl
  show W p l e rmMod_entry s m ([.ref (ad 0), .int x1, .int x2] : List Value).toArray below meth c s.heap [] 0 0 (zQi post D (zty cI cC cE) 28 ad (mF ad cI) A below ([.ref (ad 0), .int x1, .int x2] : List Value).toArray s) _
  unfold wpMod_entry at hw
  refine lv_iload_n S.1 S.2.1 dMod_entry_0 rfl (lv_at hl 1 rfl) ?_
  refine lv_if_lt S.1 S.2.1 dMod_entry_1 rfl (fun hc => ?_) (fun hc => ?_)
  · have hw := hw.1 hc
    refine lv_iconst (v := (-1)) S.1 S.2.1 dMod_entry_12 (by decide) ?_
    exact zr_iret S hr hlk hK hP hS rfl hw dMod_entry_13
  · have hw := hw.2 hc
    refine lv_iload_n S.1 S.2.1 dMod_entry_4 rfl (lv_at hl 1 rfl) ?_
    refine lv_aload_n S.1 S.2.1 dMod_entry_5 rfl (lv_at hl 0 rfl) ?_
    refine zr_get S hK hP (by decide) (mF_0 _) fMod_entries q845 rfl dMod_entry_6 ?_
    refine lv_icmp_lt S.1 S.2.1 dMod_entry_9 rfl (fun hc => ?_) (fun hc => ?_)
    · have hw := hw.1 hc
      refine lv_iload_n S.1 S.2.1 dMod_entry_14 rfl (lv_at hl 2 rfl) ?_
      by_cases c0 : x2 = 0
      · have hw := hw.1 c0
        refine lv_tableIn (off := 33) S.1 S.2.1 dMod_entry_15 (by rw [c0]; decide) (by rw [c0]; decide) (by rw [c0]; rfl) rfl ?_
        refine lv_aload_n S.1 S.2.1 dMod_entry_48 rfl (lv_at hl 0 rfl) ?_
        refine zr_get S hK hP (by decide) (mF_0 _) fMod_outcome q850 rfl dMod_entry_49 ?_
        refine lv_iload_n S.1 S.2.1 dMod_entry_52 rfl (lv_at hl 1 rfl) ?_
        obtain ⟨z53, hw⟩ := hw
        refine zr_ald S hK hP (by decide) (mF_17 _) 0 rfl z53 dMod_entry_53 ?_
        exact zr_iret S hr hlk hK hP hS rfl hw dMod_entry_54
      · have hw := hw.2 c0
        by_cases c1 : x2 = 1
        · have hw := hw.1 c1
          refine lv_tableIn (off := 40) S.1 S.2.1 dMod_entry_15 (by rw [c1]; decide) (by rw [c1]; decide) (by rw [c1]; rfl) rfl ?_
          refine lv_aload_n S.1 S.2.1 dMod_entry_55 rfl (lv_at hl 0 rfl) ?_
          refine zr_get S hK hP (by decide) (mF_0 _) fMod_detail q851 rfl dMod_entry_56 ?_
          refine lv_iload_n S.1 S.2.1 dMod_entry_59 rfl (lv_at hl 1 rfl) ?_
          obtain ⟨z60, hw⟩ := hw
          refine zr_ald S hK hP (by decide) (mF_18 _) 0 rfl z60 dMod_entry_60 ?_
          exact zr_iret S hr hlk hK hP hS rfl hw dMod_entry_61
        · have hw := hw.2 c1
          by_cases c2 : x2 = 2
          · have hw := hw.1 c2
            refine lv_tableIn (off := 47) S.1 S.2.1 dMod_entry_15 (by rw [c2]; decide) (by rw [c2]; decide) (by rw [c2]; rfl) rfl ?_
            refine lv_aload_n S.1 S.2.1 dMod_entry_62 rfl (lv_at hl 0 rfl) ?_
            refine zr_get S hK hP (by decide) (mF_0 _) fMod_sizes q846 rfl dMod_entry_63 ?_
            refine lv_iload_n S.1 S.2.1 dMod_entry_66 rfl (lv_at hl 1 rfl) ?_
            obtain ⟨z67, hw⟩ := hw
            refine zr_ald S hK hP (by decide) (mF_13 _) 0 rfl z67 dMod_entry_67 ?_
            exact zr_iret S hr hlk hK hP hS rfl hw dMod_entry_68
          · have hw := hw.2 c2
            by_cases c3 : x2 = 3
            · have hw := hw.1 c3
              refine lv_tableIn (off := 54) S.1 S.2.1 dMod_entry_15 (by rw [c3]; decide) (by rw [c3]; decide) (by rw [c3]; rfl) rfl ?_
              refine lv_aload_n S.1 S.2.1 dMod_entry_69 rfl (lv_at hl 0 rfl) ?_
              refine lv_iload_n S.1 S.2.1 dMod_entry_70 rfl (lv_at hl 1 rfl) ?_
              refine zr_i (zr_V (As := [.int x1]) (rest := []) S hK hT hN hP hS (by decide) (mF_0 _) rfl (cMod_typeOf l D cI cC cE ad A hJ _ _ _ hw) caMod_205 ⟨Nat.le_of_ble_eq_true rfl, Nat.le_of_ble_eq_true rfl⟩ ⟨rfl, rfl⟩ rfl hl.1 rfl (Nat.le_of_ble_eq_true rfl) dMod_entry_71) hS (fun r71 h71 H locs hw hP hS => ?_)
              exact zr_iret S hr hlk hK hP hS rfl hw dMod_entry_74
            · have hw := hw.2 c3
              by_cases c4 : x2 = 4
              · have hw := hw.1 c4
                refine lv_tableIn (off := 60) S.1 S.2.1 dMod_entry_15 (by rw [c4]; decide) (by rw [c4]; decide) (by rw [c4]; rfl) rfl ?_
                refine lv_aload_n S.1 S.2.1 dMod_entry_75 rfl (lv_at hl 0 rfl) ?_
                refine zr_get S hK hP (by decide) (mF_0 _) fMod_gave q852 rfl dMod_entry_76 ?_
                refine lv_iload_n S.1 S.2.1 dMod_entry_79 rfl (lv_at hl 1 rfl) ?_
                obtain ⟨z80, hw⟩ := hw
                refine zr_ald S hK hP (by decide) (mF_19 _) 0 rfl z80 dMod_entry_80 ?_
                exact zr_iret S hr hlk hK hP hS rfl hw dMod_entry_81
              · have hw := hw.2 c4
                refine lv_tableOut S.1 S.2.1 dMod_entry_15 (by have n0 := lv_neT c0 (show (0 : Int32).toInt = 0 from by decide); have n1 := lv_neT c1 (show (1 : Int32).toInt = 1 from by decide); have n2 := lv_neT c2 (show (2 : Int32).toInt = 2 from by decide); have n3 := lv_neT c3 (show (3 : Int32).toInt = 3 from by decide); have n4 := lv_neT c4 (show (4 : Int32).toInt = 4 from by decide); omega) rfl ?_
                refine lv_iconst (v := (-1)) S.1 S.2.1 dMod_entry_82 (by decide) ?_
                exact zr_iret S hr hlk hK hP hS rfl hw dMod_entry_83
    · have hw := hw.2 hc
      refine lv_iconst (v := (-1)) S.1 S.2.1 dMod_entry_12 (by decide) ?_
      exact zr_iret S hr hlk hK hP hS rfl hw dMod_entry_13
/-! Mod.statement -/
theorem dMod_statement_0 : decode bMod_statement 0 = .ok (.iload_n 1, 1) := by decide +kernel
theorem dMod_statement_1 : decode bMod_statement 1 = .ok (.ifCond .lt 34, 3) := by decide +kernel
theorem dMod_statement_4 : decode bMod_statement 4 = .ok (.iload_n 1, 1) := by decide +kernel
theorem dMod_statement_5 : decode bMod_statement 5 = .ok (.aload_n 0, 1) := by decide +kernel
theorem dMod_statement_6 : decode bMod_statement 6 = .ok (.getfield 191, 3) := by decide +kernel
theorem dMod_statement_9 : decode bMod_statement 9 = .ok (.if_icmp .ge 26, 3) := by decide +kernel
theorem dMod_statement_12 : decode bMod_statement 12 = .ok (.iload_n 2, 1) := by decide +kernel
theorem dMod_statement_13 : decode bMod_statement 13 = .ok (.ifCond .lt 22, 3) := by decide +kernel
theorem dMod_statement_16 : decode bMod_statement 16 = .ok (.iload_n 2, 1) := by decide +kernel
theorem dMod_statement_17 : decode bMod_statement 17 = .ok (.aload_n 0, 1) := by decide +kernel
theorem dMod_statement_18 : decode bMod_statement 18 = .ok (.getfield 50, 3) := by decide +kernel
theorem dMod_statement_21 : decode bMod_statement 21 = .ok (.iload_n 1, 1) := by decide +kernel
theorem dMod_statement_22 : decode bMod_statement 22 = .ok (.iaload, 1) := by decide +kernel
theorem dMod_statement_23 : decode bMod_statement 23 = .ok (.if_icmp .ge 12, 3) := by decide +kernel
theorem dMod_statement_26 : decode bMod_statement 26 = .ok (.iload_n 3, 1) := by decide +kernel
theorem dMod_statement_27 : decode bMod_statement 27 = .ok (.ifCond .lt 8, 3) := by decide +kernel
theorem dMod_statement_30 : decode bMod_statement 30 = .ok (.iload_n 3, 1) := by decide +kernel
theorem dMod_statement_31 : decode bMod_statement 31 = .ok (.iconst 4, 1) := by decide +kernel
theorem dMod_statement_32 : decode bMod_statement 32 = .ok (.if_icmp .le 6, 3) := by decide +kernel
theorem dMod_statement_35 : decode bMod_statement 35 = .ok (.bipush (-2), 2) := by decide +kernel
theorem dMod_statement_37 : decode bMod_statement 37 = .ok (.ireturn, 1) := by decide +kernel
theorem dMod_statement_38 : decode bMod_statement 38 = .ok (.bipush 10, 2) := by decide +kernel
theorem dMod_statement_40 : decode bMod_statement 40 = .ok (.iload_n 1, 1) := by decide +kernel
theorem dMod_statement_41 : decode bMod_statement 41 = .ok (.imul, 1) := by decide +kernel
theorem dMod_statement_42 : decode bMod_statement 42 = .ok (.iload_n 2, 1) := by decide +kernel
theorem dMod_statement_43 : decode bMod_statement 43 = .ok (.iadd, 1) := by decide +kernel
theorem dMod_statement_44 : decode bMod_statement 44 = .ok (.istore 4, 2) := by decide +kernel
theorem dMod_statement_46 : decode bMod_statement 46 = .ok (.iload_n 3, 1) := by decide +kernel
theorem dMod_statement_47 : decode bMod_statement 47 = .ok (.ifCond .ne 11, 3) := by decide +kernel
theorem dMod_statement_50 : decode bMod_statement 50 = .ok (.aload_n 0, 1) := by decide +kernel
theorem dMod_statement_51 : decode bMod_statement 51 = .ok (.getfield 53, 3) := by decide +kernel
theorem dMod_statement_54 : decode bMod_statement 54 = .ok (.iload 4, 2) := by decide +kernel
theorem dMod_statement_56 : decode bMod_statement 56 = .ok (.iaload, 1) := by decide +kernel
theorem dMod_statement_57 : decode bMod_statement 57 = .ok (.ireturn, 1) := by decide +kernel
theorem dMod_statement_58 : decode bMod_statement 58 = .ok (.iload_n 3, 1) := by decide +kernel
theorem dMod_statement_59 : decode bMod_statement 59 = .ok (.iconst 1, 1) := by decide +kernel
theorem dMod_statement_60 : decode bMod_statement 60 = .ok (.isub, 1) := by decide +kernel
theorem dMod_statement_61 : decode bMod_statement 61 = .ok (.iconst 2, 1) := by decide +kernel
theorem dMod_statement_62 : decode bMod_statement 62 = .ok (.idiv, 1) := by decide +kernel
theorem dMod_statement_63 : decode bMod_statement 63 = .ok (.istore 5, 2) := by decide +kernel
theorem dMod_statement_65 : decode bMod_statement 65 = .ok (.iload 5, 2) := by decide +kernel
theorem dMod_statement_67 : decode bMod_statement 67 = .ok (.aload_n 0, 1) := by decide +kernel
theorem dMod_statement_68 : decode bMod_statement 68 = .ok (.getfield 19, 3) := by decide +kernel
theorem dMod_statement_71 : decode bMod_statement 71 = .ok (.aload_n 0, 1) := by decide +kernel
theorem dMod_statement_72 : decode bMod_statement 72 = .ok (.getfield 53, 3) := by decide +kernel
theorem dMod_statement_75 : decode bMod_statement 75 = .ok (.iload 4, 2) := by decide +kernel
theorem dMod_statement_77 : decode bMod_statement 77 = .ok (.iaload, 1) := by decide +kernel
theorem dMod_statement_78 : decode bMod_statement 78 = .ok (.iaload, 1) := by decide +kernel
theorem dMod_statement_79 : decode bMod_statement 79 = .ok (.invokestatic 122, 3) := by decide +kernel
theorem dMod_statement_82 : decode bMod_statement 82 = .ok (.if_icmp .ge 7, 3) := by decide +kernel
theorem dMod_statement_85 : decode bMod_statement 85 = .ok (.iconst 1, 1) := by decide +kernel
theorem dMod_statement_86 : decode bMod_statement 86 = .ok (.goto 4, 3) := by decide +kernel
theorem dMod_statement_89 : decode bMod_statement 89 = .ok (.iconst 0, 1) := by decide +kernel
theorem dMod_statement_90 : decode bMod_statement 90 = .ok (.istore 6, 2) := by decide +kernel
theorem dMod_statement_92 : decode bMod_statement 92 = .ok (.iload_n 3, 1) := by decide +kernel
theorem dMod_statement_93 : decode bMod_statement 93 = .ok (.iconst 2, 1) := by decide +kernel
theorem dMod_statement_94 : decode bMod_statement 94 = .ok (.irem, 1) := by decide +kernel
theorem dMod_statement_95 : decode bMod_statement 95 = .ok (.iconst 1, 1) := by decide +kernel
theorem dMod_statement_96 : decode bMod_statement 96 = .ok (.if_icmp .ne 25, 3) := by decide +kernel
theorem dMod_statement_99 : decode bMod_statement 99 = .ok (.iload 6, 2) := by decide +kernel
theorem dMod_statement_101 : decode bMod_statement 101 = .ok (.ifCond .eq 18, 3) := by decide +kernel
theorem dMod_statement_104 : decode bMod_statement 104 = .ok (.aload_n 0, 1) := by decide +kernel
theorem dMod_statement_105 : decode bMod_statement 105 = .ok (.getfield 56, 3) := by decide +kernel
theorem dMod_statement_108 : decode bMod_statement 108 = .ok (.iconst 2, 1) := by decide +kernel
theorem dMod_statement_109 : decode bMod_statement 109 = .ok (.iload 4, 2) := by decide +kernel
theorem dMod_statement_111 : decode bMod_statement 111 = .ok (.imul, 1) := by decide +kernel
theorem dMod_statement_112 : decode bMod_statement 112 = .ok (.iload 5, 2) := by decide +kernel
theorem dMod_statement_114 : decode bMod_statement 114 = .ok (.iadd, 1) := by decide +kernel
theorem dMod_statement_115 : decode bMod_statement 115 = .ok (.iaload, 1) := by decide +kernel
theorem dMod_statement_116 : decode bMod_statement 116 = .ok (.goto 4, 3) := by decide +kernel
theorem dMod_statement_119 : decode bMod_statement 119 = .ok (.iconst (-1), 1) := by decide +kernel
theorem dMod_statement_120 : decode bMod_statement 120 = .ok (.ireturn, 1) := by decide +kernel
theorem dMod_statement_121 : decode bMod_statement 121 = .ok (.iload 6, 2) := by decide +kernel
theorem dMod_statement_123 : decode bMod_statement 123 = .ok (.ifCond .eq 34, 3) := by decide +kernel
theorem dMod_statement_126 : decode bMod_statement 126 = .ok (.aload_n 0, 1) := by decide +kernel
theorem dMod_statement_127 : decode bMod_statement 127 = .ok (.getfield 56, 3) := by decide +kernel
theorem dMod_statement_130 : decode bMod_statement 130 = .ok (.iconst 2, 1) := by decide +kernel
theorem dMod_statement_131 : decode bMod_statement 131 = .ok (.iload 4, 2) := by decide +kernel
theorem dMod_statement_133 : decode bMod_statement 133 = .ok (.imul, 1) := by decide +kernel
theorem dMod_statement_134 : decode bMod_statement 134 = .ok (.iload 5, 2) := by decide +kernel
theorem dMod_statement_136 : decode bMod_statement 136 = .ok (.iadd, 1) := by decide +kernel
theorem dMod_statement_137 : decode bMod_statement 137 = .ok (.iaload, 1) := by decide +kernel
theorem dMod_statement_138 : decode bMod_statement 138 = .ok (.iconst 2, 1) := by decide +kernel
theorem dMod_statement_139 : decode bMod_statement 139 = .ok (.if_icmp .ge 18, 3) := by decide +kernel
theorem dMod_statement_142 : decode bMod_statement 142 = .ok (.aload_n 0, 1) := by decide +kernel
theorem dMod_statement_143 : decode bMod_statement 143 = .ok (.getfield 59, 3) := by decide +kernel
theorem dMod_statement_146 : decode bMod_statement 146 = .ok (.iconst 2, 1) := by decide +kernel
theorem dMod_statement_147 : decode bMod_statement 147 = .ok (.iload 4, 2) := by decide +kernel
theorem dMod_statement_149 : decode bMod_statement 149 = .ok (.imul, 1) := by decide +kernel
theorem dMod_statement_150 : decode bMod_statement 150 = .ok (.iload 5, 2) := by decide +kernel
theorem dMod_statement_152 : decode bMod_statement 152 = .ok (.iadd, 1) := by decide +kernel
theorem dMod_statement_153 : decode bMod_statement 153 = .ok (.iaload, 1) := by decide +kernel
theorem dMod_statement_154 : decode bMod_statement 154 = .ok (.goto 4, 3) := by decide +kernel
theorem dMod_statement_157 : decode bMod_statement 157 = .ok (.iconst 0, 1) := by decide +kernel
theorem dMod_statement_158 : decode bMod_statement 158 = .ok (.ireturn, 1) := by decide +kernel
def wbMod_statement_90 (post : Int32 → zM → Prop) (v3 : Int32) (v4 : Int32) (v5 : Int32) (k0 : Int32) (h : zM) : Prop := ((¬ (v3 - v3 / 2 * 2) = 1 → ((k0 = 0 → post 0 h) ∧ (¬ k0 = 0 → (vp_in ((2 * v4) + v5) 820 ∧ (((2 ≤ (h 15 (Int32.toNatClampNeg ((2 * v4) + v5)))) → post 0 h) ∧ (¬ (2 ≤ (h 15 (Int32.toNatClampNeg ((2 * v4) + v5)))) → (vp_in ((2 * v4) + v5) 820 ∧ post (h 16 (Int32.toNatClampNeg ((2 * v4) + v5))) h))))))) ∧ ((v3 - v3 / 2 * 2) = 1 → ((k0 = 0 → post (-1) h) ∧ (¬ k0 = 0 → (vp_in ((2 * v4) + v5) 820 ∧ post (h 15 (Int32.toNatClampNeg ((2 * v4) + v5))) h)))))
def wpMod_statement (x1 : Int32) (x2 : Int32) (x3 : Int32) (h : zM) (post : Int32 → zM → Prop) : Prop := (((x1 < 0) → post (-2) h) ∧ (¬ (x1 < 0) → ((((h 0 17) ≤ x1) → post (-2) h) ∧ (¬ ((h 0 17) ≤ x1) → (((x2 < 0) → post (-2) h) ∧ (¬ (x2 < 0) → (vp_in x1 41 ∧ ((((h 13 (Int32.toNatClampNeg x1)) ≤ x2) → post (-2) h) ∧ (¬ ((h 13 (Int32.toNatClampNeg x1)) ≤ x2) → (((x3 < 0) → post (-2) h) ∧ (¬ (x3 < 0) → (((x3 ≤ 4) → ∀ y44 : Int32, y44 = ((10 * x1) + x2) → ((¬ x3 = 0 → ∀ y63 : Int32, y63 = ((x3 - 1) / 2) → (vp_in y44 410 ∧ (vp_in (h 14 (Int32.toNatClampNeg y44)) 10 ∧ wpMod_arity (h 4 (Int32.toNatClampNeg (h 14 (Int32.toNatClampNeg y44)))) h (fun r79 h79 => (((r79 ≤ y63) → wbMod_statement_90 post x3 y44 y63 0 h79) ∧ (¬ (r79 ≤ y63) → wbMod_statement_90 post x3 y44 y63 1 h79)))))) ∧ (x3 = 0 → (vp_in y44 410 ∧ post (h 14 (Int32.toNatClampNeg y44)) h)))) ∧ (¬ (x3 ≤ 4) → post (-2) h)))))))))))))
abbrev rmMod_statement : Room := { frames := 1, cells := 0, slots := 0, locals := 20 }
set_option maxHeartbeats 4000000 in
set_option maxRecDepth 100000 in
theorem cMod_statement (l : Launch) (D : va_G) (cI cC cE : ClassId) (ad : Nat → Nat) (A : Nat → Prop) (hJ : zJ A 28 ad) (x1 : Int32) (x2 : Int32) (x3 : Int32) (h : zM) (post : Int32 → zM → Prop) (hw : wpMod_statement x1 x2 x3 h post) : Met l yMod_statement (.code yMod_statement bMod_statement 7 (some .int) :: zt) rmMod_statement (va_Pc [.ref (ad 0), .int x1, .int x2, .int x3] (zPre D (zty cI cC cE) 28 ad (mF ad cI) A h)) (va_Qi post (zPst D (zty cI cC cE) 28 ad (mF ad cI)) A) 0 0 A := by
  refine Met.ofW (cc := bMod_statement) (maxL := 7) (ret := (some .int)) (by decide) rfl ?_
  intro p e s m args below meth c s₁ B hml hv
  obtain ⟨rfl, hP, hK, hT, hN⟩ := hv
  have hr := B.returns
  have hlk := B.notSynchronized
  have S : zS p m c bMod_statement 7 s _ "CallExplorerModel" := ⟨B.exec, B.bytes, hml, findClass_of_methodNamed B.named, fun w hw => atoms_spec (ws := .code yMod_statement bMod_statement 7 (some .int) :: zt) B.pre w (List.mem_cons_of_mem _ hw)⟩
  have hS : va_S A s.heap s.heap [] := va_S.rf
  have hl := lv_entry ([.ref (ad 0), .int x1, .int x2, .int x3]) (n := 7) (Nat.le_of_ble_eq_true rfl)
  rw [lg_entry_eq]
  generalize (lg_sl ([.ref (ad 0), .int x1, .int x2, .int x3]) ++ List.replicate (7 - (lg_sl ([.ref (ad 0), .int x1, .int x2, .int x3])).length) Slot.unset).toArray = ls at hl ⊢
  have hl : lv_has ls 7 [(0, .ref (ad 0)), (1, .int x1), (2, .int x2), (3, .int x3)] := hl
  show W p l e rmMod_statement s m ([.ref (ad 0), .int x1, .int x2, .int x3] : List Value).toArray below meth c s.heap [] 0 0 (zQi post D (zty cI cC cE) 28 ad (mF ad cI) A below ([.ref (ad 0), .int x1, .int x2, .int x3] : List Value).toArray s) _
  have J90 : ∀ (v3 : Int32) (v4 : Int32) (v5 : Int32) (k0 : Int32) (h : zM) (H : Heap) (locs : List Loc) (ls : Array Slot), wbMod_statement_90 post v3 v4 v5 k0 h → lv_has ls 7 [(0, .ref (ad 0)), (3, .int v3), (4, .int v4), (5, .int v5)] → va_P D zcl (zW 28 ad (mF ad cI) h) H → va_S A s.heap H locs → W p l e rmMod_statement s m ([.ref (ad 0), .int x1, .int x2, .int x3] : List Value).toArray below meth c H locs 0 0 (zQi post D (zty cI cC cE) 28 ad (mF ad cI) A below ([.ref (ad 0), .int x1, .int x2, .int x3] : List Value).toArray s) (F0 m 90 ls [.int k0]) := by
    intro v3 v4 v5 k0 h H locs ls hw hl hP hS
    unfold wbMod_statement_90 at hw
    refine lv_istore (lv' := [(6, .int k0), (0, .ref (ad 0)), (3, .int v3), (4, .int v4), (5, .int v5)]) S.1 S.2.1 dMod_statement_90 hl (by decide) rfl (fun ls hl => ?_)
    refine lv_iload_n S.1 S.2.1 dMod_statement_92 rfl (lv_at hl 2 rfl) ?_
    refine lv_iconst (v := 2) S.1 S.2.1 dMod_statement_93 (by decide) ?_
    refine lv_irem S.1 S.2.1 dMod_statement_94 (by decide) ?_
    refine lv_iconst (v := 1) S.1 S.2.1 dMod_statement_95 (by decide) ?_
    refine lv_icmp_ne S.1 S.2.1 dMod_statement_96 rfl (fun hc => ?_) (fun hc => ?_)
    · have hw := hw.1 hc
      refine lv_iload S.1 S.2.1 dMod_statement_121 (lv_at hl 0 rfl) ?_
      refine lv_if_eq S.1 S.2.1 dMod_statement_123 rfl (fun hc => ?_) (fun hc => ?_)
      · have hw := hw.1 hc
        refine lv_iconst (v := 0) S.1 S.2.1 dMod_statement_157 (by decide) ?_
        exact zr_iret S hr hlk hK hP hS rfl hw dMod_statement_158
      · have hw := hw.2 hc
        refine lv_aload_n S.1 S.2.1 dMod_statement_126 rfl (lv_at hl 1 rfl) ?_
        refine zr_get S hK hP (by decide) (mF_0 _) fMod_hows q848 rfl dMod_statement_127 ?_
        refine lv_iconst (v := 2) S.1 S.2.1 dMod_statement_130 (by decide) ?_
        refine lv_iload S.1 S.2.1 dMod_statement_131 (lv_at hl 3 rfl) ?_
        refine lv_imul S.1 S.2.1 dMod_statement_133 ?_
        refine lv_iload S.1 S.2.1 dMod_statement_134 (lv_at hl 4 rfl) ?_
        refine lv_iadd S.1 S.2.1 dMod_statement_136 ?_
        obtain ⟨z137, hw⟩ := hw
        refine zr_ald S hK hP (by decide) (mF_15 _) 0 rfl z137 dMod_statement_137 ?_
        refine lv_iconst (v := 2) S.1 S.2.1 dMod_statement_138 (by decide) ?_
        refine lv_icmp_ge S.1 S.2.1 dMod_statement_139 rfl (fun hc => ?_) (fun hc => ?_)
        · have hw := hw.1 hc
          refine lv_iconst (v := 0) S.1 S.2.1 dMod_statement_157 (by decide) ?_
          exact zr_iret S hr hlk hK hP hS rfl hw dMod_statement_158
        · have hw := hw.2 hc
          refine lv_aload_n S.1 S.2.1 dMod_statement_142 rfl (lv_at hl 1 rfl) ?_
          refine zr_get S hK hP (by decide) (mF_0 _) fMod_args q849 rfl dMod_statement_143 ?_
          refine lv_iconst (v := 2) S.1 S.2.1 dMod_statement_146 (by decide) ?_
          refine lv_iload S.1 S.2.1 dMod_statement_147 (lv_at hl 3 rfl) ?_
          refine lv_imul S.1 S.2.1 dMod_statement_149 ?_
          refine lv_iload S.1 S.2.1 dMod_statement_150 (lv_at hl 4 rfl) ?_
          refine lv_iadd S.1 S.2.1 dMod_statement_152 ?_
          obtain ⟨z153, hw⟩ := hw
          refine zr_ald S hK hP (by decide) (mF_16 _) 0 rfl z153 dMod_statement_153 ?_
          refine lv_goto S.1 S.2.1 dMod_statement_154 rfl ?_
          exact zr_iret S hr hlk hK hP hS rfl hw dMod_statement_158
    · have hw := hw.2 hc
      refine lv_iload S.1 S.2.1 dMod_statement_99 (lv_at hl 0 rfl) ?_
      refine lv_if_eq S.1 S.2.1 dMod_statement_101 rfl (fun hc => ?_) (fun hc => ?_)
      · have hw := hw.1 hc
        refine lv_iconst (v := (-1)) S.1 S.2.1 dMod_statement_119 (by decide) ?_
        exact zr_iret S hr hlk hK hP hS rfl hw dMod_statement_120
      · have hw := hw.2 hc
        refine lv_aload_n S.1 S.2.1 dMod_statement_104 rfl (lv_at hl 1 rfl) ?_
        refine zr_get S hK hP (by decide) (mF_0 _) fMod_hows q848 rfl dMod_statement_105 ?_
        refine lv_iconst (v := 2) S.1 S.2.1 dMod_statement_108 (by decide) ?_
        refine lv_iload S.1 S.2.1 dMod_statement_109 (lv_at hl 3 rfl) ?_
        refine lv_imul S.1 S.2.1 dMod_statement_111 ?_
        refine lv_iload S.1 S.2.1 dMod_statement_112 (lv_at hl 4 rfl) ?_
        refine lv_iadd S.1 S.2.1 dMod_statement_114 ?_
        obtain ⟨z115, hw⟩ := hw
        refine zr_ald S hK hP (by decide) (mF_15 _) 0 rfl z115 dMod_statement_115 ?_
        refine lv_goto S.1 S.2.1 dMod_statement_116 rfl ?_
        exact zr_iret S hr hlk hK hP hS rfl hw dMod_statement_120
  unfold wpMod_statement at hw
  refine lv_iload_n S.1 S.2.1 dMod_statement_0 rfl (lv_at hl 1 rfl) ?_
  refine lv_if_lt S.1 S.2.1 dMod_statement_1 rfl (fun hc => ?_) (fun hc => ?_)
  · have hw := hw.1 hc
    refine lv_bipush (v := (-2)) S.1 S.2.1 dMod_statement_35 (by decide) ?_
    exact zr_iret S hr hlk hK hP hS rfl hw dMod_statement_37
  · have hw := hw.2 hc
    refine lv_iload_n S.1 S.2.1 dMod_statement_4 rfl (lv_at hl 1 rfl) ?_
    refine lv_aload_n S.1 S.2.1 dMod_statement_5 rfl (lv_at hl 0 rfl) ?_
    refine zr_get S hK hP (by decide) (mF_0 _) fMod_entries q845 rfl dMod_statement_6 ?_
    refine lv_icmp_ge S.1 S.2.1 dMod_statement_9 rfl (fun hc => ?_) (fun hc => ?_)
    · have hw := hw.1 hc
      refine lv_bipush (v := (-2)) S.1 S.2.1 dMod_statement_35 (by decide) ?_
      exact zr_iret S hr hlk hK hP hS rfl hw dMod_statement_37
    · have hw := hw.2 hc
      refine lv_iload_n S.1 S.2.1 dMod_statement_12 rfl (lv_at hl 2 rfl) ?_
      refine lv_if_lt S.1 S.2.1 dMod_statement_13 rfl (fun hc => ?_) (fun hc => ?_)
      · have hw := hw.1 hc
        refine lv_bipush (v := (-2)) S.1 S.2.1 dMod_statement_35 (by decide) ?_
        exact zr_iret S hr hlk hK hP hS rfl hw dMod_statement_37
      · have hw := hw.2 hc
        refine lv_iload_n S.1 S.2.1 dMod_statement_16 rfl (lv_at hl 2 rfl) ?_
        refine lv_aload_n S.1 S.2.1 dMod_statement_17 rfl (lv_at hl 0 rfl) ?_
        refine zr_get S hK hP (by decide) (mF_0 _) fMod_sizes q846 rfl dMod_statement_18 ?_
        refine lv_iload_n S.1 S.2.1 dMod_statement_21 rfl (lv_at hl 1 rfl) ?_
        obtain ⟨z22, hw⟩ := hw
        refine zr_ald S hK hP (by decide) (mF_13 _) 0 rfl z22 dMod_statement_22 ?_
        refine lv_icmp_ge S.1 S.2.1 dMod_statement_23 rfl (fun hc => ?_) (fun hc => ?_)
        · have hw := hw.1 hc
          refine lv_bipush (v := (-2)) S.1 S.2.1 dMod_statement_35 (by decide) ?_
          exact zr_iret S hr hlk hK hP hS rfl hw dMod_statement_37
        · have hw := hw.2 hc
          refine lv_iload_n S.1 S.2.1 dMod_statement_26 rfl (lv_at hl 3 rfl) ?_
          refine lv_if_lt S.1 S.2.1 dMod_statement_27 rfl (fun hc => ?_) (fun hc => ?_)
          · have hw := hw.1 hc
            refine lv_bipush (v := (-2)) S.1 S.2.1 dMod_statement_35 (by decide) ?_
            exact zr_iret S hr hlk hK hP hS rfl hw dMod_statement_37
          · have hw := hw.2 hc
            refine lv_iload_n S.1 S.2.1 dMod_statement_30 rfl (lv_at hl 3 rfl) ?_
            refine lv_iconst (v := 4) S.1 S.2.1 dMod_statement_31 (by decide) ?_
            refine lv_icmp_le S.1 S.2.1 dMod_statement_32 rfl (fun hc => ?_) (fun hc => ?_)
            · have hw := hw.1 hc
              refine lv_bipush (v := 10) S.1 S.2.1 dMod_statement_38 (by decide) ?_
              refine lv_iload_n S.1 S.2.1 dMod_statement_40 rfl (lv_at hl 1 rfl) ?_
              refine lv_imul S.1 S.2.1 dMod_statement_41 ?_
              refine lv_iload_n S.1 S.2.1 dMod_statement_42 rfl (lv_at hl 2 rfl) ?_
              refine lv_iadd S.1 S.2.1 dMod_statement_43 ?_
              refine lv_topi (fun y44 e44 => ?_)
              have hw := hw y44 e44
              refine lv_istore (lv' := [(4, .int y44), (0, .ref (ad 0)), (1, .int x1), (2, .int x2), (3, .int x3)]) S.1 S.2.1 dMod_statement_44 hl (by decide) rfl (fun ls hl => ?_)
              refine lv_iload_n S.1 S.2.1 dMod_statement_46 rfl (lv_at hl 4 rfl) ?_
              refine lv_if_ne S.1 S.2.1 dMod_statement_47 rfl (fun hc => ?_) (fun hc => ?_)
              · have hw := hw.1 hc
                refine lv_iload_n S.1 S.2.1 dMod_statement_58 rfl (lv_at hl 4 rfl) ?_
                refine lv_iconst (v := 1) S.1 S.2.1 dMod_statement_59 (by decide) ?_
                refine lv_isub S.1 S.2.1 dMod_statement_60 ?_
                refine lv_iconst (v := 2) S.1 S.2.1 dMod_statement_61 (by decide) ?_
                refine lv_idiv S.1 S.2.1 dMod_statement_62 (by decide) ?_
                refine lv_topi (fun y63 e63 => ?_)
                have hw := hw y63 e63
                refine lv_istore (lv' := [(5, .int y63), (4, .int y44), (0, .ref (ad 0)), (1, .int x1), (2, .int x2), (3, .int x3)]) S.1 S.2.1 dMod_statement_63 hl (by decide) rfl (fun ls hl => ?_)
                refine lv_iload S.1 S.2.1 dMod_statement_65 (lv_at hl 0 rfl) ?_
                refine lv_aload_n S.1 S.2.1 dMod_statement_67 rfl (lv_at hl 2 rfl) ?_
                refine zr_get S hK hP (by decide) (mF_0 _) fMod_kind q834 rfl dMod_statement_68 ?_
                refine lv_aload_n S.1 S.2.1 dMod_statement_71 rfl (lv_at hl 2 rfl) ?_
                refine zr_get S hK hP (by decide) (mF_0 _) fMod_ops q847 rfl dMod_statement_72 ?_
                refine lv_iload S.1 S.2.1 dMod_statement_75 (lv_at hl 1 rfl) ?_
                obtain ⟨z77, hw⟩ := hw
                refine zr_ald S hK hP (by decide) (mF_14 _) 0 rfl z77 dMod_statement_77 ?_
                obtain ⟨z78, hw⟩ := hw
                refine zr_ald S hK hP (by decide) (mF_4 _) 0 rfl z78 dMod_statement_78 ?_
                refine zr_i (zr_T (As := [.int (h 4 (Int32.toNatClampNeg (h 14 (Int32.toNatClampNeg y44))))]) (rest := [.int y63]) S hK hT hN hP hS (cMod_arity l D cI cC cE ad A hJ _ _ _ hw) caMod_122 ⟨Nat.le_of_ble_eq_true rfl, Nat.le_of_ble_eq_true rfl⟩ ⟨rfl, rfl⟩ rfl hl.1 rfl (Nat.le_of_ble_eq_true rfl) dMod_statement_79) hS (fun r79 h79 H locs hw hP hS => ?_)
                refine lv_icmp_ge S.1 S.2.1 dMod_statement_82 rfl (fun hc => ?_) (fun hc => ?_)
                · have hw := hw.1 hc
                  refine lv_iconst (v := 0) S.1 S.2.1 dMod_statement_89 (by decide) ?_
                  exact J90 _ _ _ _ _ _ _ _ hw (lv_sub hl [2, 5, 1, 0] rfl) hP hS
                · have hw := hw.2 hc
                  refine lv_iconst (v := 1) S.1 S.2.1 dMod_statement_85 (by decide) ?_
                  refine lv_goto S.1 S.2.1 dMod_statement_86 rfl ?_
                  exact J90 _ _ _ _ _ _ _ _ hw (lv_sub hl [2, 5, 1, 0] rfl) hP hS
              · have hw := hw.2 hc
                refine lv_aload_n S.1 S.2.1 dMod_statement_50 rfl (lv_at hl 1 rfl) ?_
                refine zr_get S hK hP (by decide) (mF_0 _) fMod_ops q847 rfl dMod_statement_51 ?_
                refine lv_iload S.1 S.2.1 dMod_statement_54 (lv_at hl 0 rfl) ?_
                obtain ⟨z56, hw⟩ := hw
                refine zr_ald S hK hP (by decide) (mF_14 _) 0 rfl z56 dMod_statement_56 ?_
                exact zr_iret S hr hlk hK hP hS rfl hw dMod_statement_57
            · have hw := hw.2 hc
              refine lv_bipush (v := (-2)) S.1 S.2.1 dMod_statement_35 (by decide) ?_
              exact zr_iret S hr hlk hK hP hS rfl hw dMod_statement_37
/-! Mod.write -/
theorem dMod_write_0 : decode bMod_write 0 = .ok (.aload_n 0, 1) := by decide +kernel
theorem dMod_write_1 : decode bMod_write 1 = .ok (.getfield 92, 3) := by decide +kernel
theorem dMod_write_4 : decode bMod_write 4 = .ok (.aload_n 0, 1) := by decide +kernel
theorem dMod_write_5 : decode bMod_write 5 = .ok (.getfield 258, 3) := by decide +kernel
theorem dMod_write_8 : decode bMod_write 8 = .ok (.iload_n 1, 1) := by decide +kernel
theorem dMod_write_9 : decode bMod_write 9 = .ok (.iastore, 1) := by decide +kernel
theorem dMod_write_10 : decode bMod_write 10 = .ok (.aload_n 0, 1) := by decide +kernel
theorem dMod_write_11 : decode bMod_write 11 = .ok (.dup, 1) := by decide +kernel
theorem dMod_write_12 : decode bMod_write 12 = .ok (.getfield 258, 3) := by decide +kernel
theorem dMod_write_15 : decode bMod_write 15 = .ok (.iconst 1, 1) := by decide +kernel
theorem dMod_write_16 : decode bMod_write 16 = .ok (.iadd, 1) := by decide +kernel
theorem dMod_write_17 : decode bMod_write 17 = .ok (.putfield 258, 3) := by decide +kernel
theorem dMod_write_20 : decode bMod_write 20 = .ok (.return_, 1) := by decide +kernel
def wpMod_write (x1 : Int32) (h : zM) (post : zM → Prop) : Prop := (vp_in (h 0 39) 300 ∧ ∀ h9 : zM, h9 = zu h 27 (Int32.toNatClampNeg (h 0 39)) x1 → ∀ h17 : zM, h17 = zu h9 0 39 ((h9 0 39) + 1) → post h17)
abbrev rmMod_write : Room := { frames := 0, cells := 0, slots := 0, locals := 0 }
set_option maxHeartbeats 4000000 in
set_option maxRecDepth 100000 in
theorem cMod_write (l : Launch) (D : va_G) (cI cC cE : ClassId) (ad : Nat → Nat) (A : Nat → Prop) (hJ : zJ A 28 ad) (x1 : Int32) (h : zM) (post : zM → Prop) (hw : wpMod_write x1 h post) : Met l yMod_write (.code yMod_write bMod_write 2 none :: zt) rmMod_write (va_Pc [.ref (ad 0), .int x1] (zPre D (zty cI cC cE) 28 ad (mF ad cI) A h)) (va_Qv post (zPst D (zty cI cC cE) 28 ad (mF ad cI)) A) 0 0 A := by
  refine Met.ofW (cc := bMod_write) (maxL := 2) (ret := none) (by decide) rfl ?_
  intro p e s m args below meth c s₁ B hml hv
  obtain ⟨rfl, hP, hK, hT, hN⟩ := hv
  have hr := B.returns
  have hlk := B.notSynchronized
  have S : zS p m c bMod_write 2 s _ "CallExplorerModel" := ⟨B.exec, B.bytes, hml, findClass_of_methodNamed B.named, fun w hw => atoms_spec (ws := .code yMod_write bMod_write 2 none :: zt) B.pre w (List.mem_cons_of_mem _ hw)⟩
  have hS : va_S A s.heap s.heap [] := va_S.rf
  have hl := lv_entry ([.ref (ad 0), .int x1]) (n := 2) (Nat.le_of_ble_eq_true rfl)
  rw [lg_entry_eq]
  generalize (lg_sl ([.ref (ad 0), .int x1]) ++ List.replicate (2 - (lg_sl ([.ref (ad 0), .int x1])).length) Slot.unset).toArray = ls at hl ⊢
  have hl : lv_has ls 2 [(0, .ref (ad 0)), (1, .int x1)] := hl
  show W p l e rmMod_write s m ([.ref (ad 0), .int x1] : List Value).toArray below meth c s.heap [] 0 0 (zQv post D (zty cI cC cE) 28 ad (mF ad cI) A below ([.ref (ad 0), .int x1] : List Value).toArray s) _
  unfold wpMod_write at hw
  refine lv_aload_n S.1 S.2.1 dMod_write_0 rfl (lv_at hl 0 rfl) ?_
  refine zr_get S hK hP (by decide) (mF_0 _) fMod_text q868 rfl dMod_write_1 ?_
  refine lv_aload_n S.1 S.2.1 dMod_write_4 rfl (lv_at hl 0 rfl) ?_
  refine zr_get S hK hP (by decide) (mF_0 _) fMod_written q867 rfl dMod_write_5 ?_
  refine lv_iload_n S.1 S.2.1 dMod_write_8 rfl (lv_at hl 1 rfl) ?_
  obtain ⟨z9, hw⟩ := hw
  refine zr_ast S hK hJ hP hS (by decide) mF_27 0 rfl z9 dMod_write_9 (fun h9 H locs e9 hP hS => ?_)
  have hw := hw h9 e9
  refine lv_aload_n S.1 S.2.1 dMod_write_10 rfl (lv_at hl 0 rfl) ?_
  refine lv_dup S.1 S.2.1 dMod_write_11 rfl ?_
  refine zr_get S hK hP (by decide) (mF_0 _) fMod_written q867 rfl dMod_write_12 ?_
  refine lv_iconst (v := 1) S.1 S.2.1 dMod_write_15 (by decide) ?_
  refine lv_iadd S.1 S.2.1 dMod_write_16 ?_
  refine zr_put S hK hJ hP hS (by decide) (mF_0 _) fMod_written q867 rfl rfl (Nat.le_of_ble_eq_true rfl) (mF_0 _) dMod_write_17 (fun h17 H locs e17 hP hS => ?_)
  have hw := hw h17 e17
  exact zr_vret S hr hlk hK hP hS hw dMod_write_20
/-! Mod.writeNumber -/
theorem dMod_writeNumber_0 : decode bMod_writeNumber 0 = .ok (.iload_n 1, 1) := by decide +kernel
theorem dMod_writeNumber_1 : decode bMod_writeNumber 1 = .ok (.i2l, 1) := by decide +kernel
theorem dMod_writeNumber_2 : decode bMod_writeNumber 2 = .ok (.lstore_n 2, 1) := by decide +kernel
theorem dMod_writeNumber_3 : decode bMod_writeNumber 3 = .ok (.lload_n 2, 1) := by decide +kernel
theorem dMod_writeNumber_4 : decode bMod_writeNumber 4 = .ok (.lconst 0, 1) := by decide +kernel
theorem dMod_writeNumber_5 : decode bMod_writeNumber 5 = .ok (.lcmp, 1) := by decide +kernel
theorem dMod_writeNumber_6 : decode bMod_writeNumber 6 = .ok (.ifCond .ge 12, 3) := by decide +kernel
theorem dMod_writeNumber_9 : decode bMod_writeNumber 9 = .ok (.aload_n 0, 1) := by decide +kernel
theorem dMod_writeNumber_10 : decode bMod_writeNumber 10 = .ok (.bipush 45, 2) := by decide +kernel
theorem dMod_writeNumber_12 : decode bMod_writeNumber 12 = .ok (.invokevirtual 261, 3) := by decide +kernel
theorem dMod_writeNumber_15 : decode bMod_writeNumber 15 = .ok (.lload_n 2, 1) := by decide +kernel
theorem dMod_writeNumber_16 : decode bMod_writeNumber 16 = .ok (.lneg, 1) := by decide +kernel
theorem dMod_writeNumber_17 : decode bMod_writeNumber 17 = .ok (.lstore_n 2, 1) := by decide +kernel
theorem dMod_writeNumber_18 : decode bMod_writeNumber 18 = .ok (.lconst 1, 1) := by decide +kernel
theorem dMod_writeNumber_19 : decode bMod_writeNumber 19 = .ok (.lstore 4, 2) := by decide +kernel
theorem dMod_writeNumber_21 : decode bMod_writeNumber 21 = .ok (.lload_n 2, 1) := by decide +kernel
theorem dMod_writeNumber_22 : decode bMod_writeNumber 22 = .ok (.lload 4, 2) := by decide +kernel
theorem dMod_writeNumber_24 : decode bMod_writeNumber 24 = .ok (.ldiv, 1) := by decide +kernel
theorem dMod_writeNumber_25 : decode bMod_writeNumber 25 = .ok (.ldc2_w 264, 3) := by decide +kernel
theorem dMod_writeNumber_28 : decode bMod_writeNumber 28 = .ok (.lcmp, 1) := by decide +kernel
theorem dMod_writeNumber_29 : decode bMod_writeNumber 29 = .ok (.ifCond .le 14, 3) := by decide +kernel
theorem dMod_writeNumber_32 : decode bMod_writeNumber 32 = .ok (.lload 4, 2) := by decide +kernel
theorem dMod_writeNumber_34 : decode bMod_writeNumber 34 = .ok (.ldc2_w 266, 3) := by decide +kernel
theorem dMod_writeNumber_37 : decode bMod_writeNumber 37 = .ok (.lmul, 1) := by decide +kernel
theorem dMod_writeNumber_38 : decode bMod_writeNumber 38 = .ok (.lstore 4, 2) := by decide +kernel
theorem dMod_writeNumber_40 : decode bMod_writeNumber 40 = .ok (.goto (-19), 3) := by decide +kernel
theorem dMod_writeNumber_43 : decode bMod_writeNumber 43 = .ok (.lload 4, 2) := by decide +kernel
theorem dMod_writeNumber_45 : decode bMod_writeNumber 45 = .ok (.lconst 0, 1) := by decide +kernel
theorem dMod_writeNumber_46 : decode bMod_writeNumber 46 = .ok (.lcmp, 1) := by decide +kernel
theorem dMod_writeNumber_47 : decode bMod_writeNumber 47 = .ok (.ifCond .le 31, 3) := by decide +kernel
theorem dMod_writeNumber_50 : decode bMod_writeNumber 50 = .ok (.aload_n 0, 1) := by decide +kernel
theorem dMod_writeNumber_51 : decode bMod_writeNumber 51 = .ok (.ldc2_w 268, 3) := by decide +kernel
theorem dMod_writeNumber_54 : decode bMod_writeNumber 54 = .ok (.lload_n 2, 1) := by decide +kernel
theorem dMod_writeNumber_55 : decode bMod_writeNumber 55 = .ok (.lload 4, 2) := by decide +kernel
theorem dMod_writeNumber_57 : decode bMod_writeNumber 57 = .ok (.ldiv, 1) := by decide +kernel
theorem dMod_writeNumber_58 : decode bMod_writeNumber 58 = .ok (.ldc2_w 266, 3) := by decide +kernel
theorem dMod_writeNumber_61 : decode bMod_writeNumber 61 = .ok (.lrem, 1) := by decide +kernel
theorem dMod_writeNumber_62 : decode bMod_writeNumber 62 = .ok (.ladd, 1) := by decide +kernel
theorem dMod_writeNumber_63 : decode bMod_writeNumber 63 = .ok (.l2i, 1) := by decide +kernel
theorem dMod_writeNumber_64 : decode bMod_writeNumber 64 = .ok (.invokevirtual 261, 3) := by decide +kernel
theorem dMod_writeNumber_67 : decode bMod_writeNumber 67 = .ok (.lload 4, 2) := by decide +kernel
theorem dMod_writeNumber_69 : decode bMod_writeNumber 69 = .ok (.ldc2_w 266, 3) := by decide +kernel
theorem dMod_writeNumber_72 : decode bMod_writeNumber 72 = .ok (.ldiv, 1) := by decide +kernel
theorem dMod_writeNumber_73 : decode bMod_writeNumber 73 = .ok (.lstore 4, 2) := by decide +kernel
theorem dMod_writeNumber_75 : decode bMod_writeNumber 75 = .ok (.goto (-32), 3) := by decide +kernel
theorem dMod_writeNumber_78 : decode bMod_writeNumber 78 = .ok (.return_, 1) := by decide +kernel
def stMod_writeNumber_43 (post : zM → Prop) (L43 : (Int64 × Int64 × zM) → Prop) : (Int64 × Int64 × zM) → Prop := fun s => match s with
  | (u2, u4, h) => ((((lg_cmp u4 0) ≤ 0) → post h) ∧ (¬ ((lg_cmp u4 0) ≤ 0) → (¬ u4 = 0 ∧ wpMod_write (Int64.toInt32 (48 + ((u2 / u4) - (u2 / u4) / 10 * 10))) h (fun h64 => ∀ y73 : Int64, y73 = (u4 / 10) → L43 (u2, y73, h64)))))
def stMod_writeNumber_21 (post : zM → Prop) (L21 : (Int64 × Int64 × zM) → Prop) : (Int64 × Int64 × zM) → Prop := fun s => match s with
  | (u2, u4, h) => (¬ u4 = 0 ∧ ((((lg_cmp (u2 / u4) 9) ≤ 0) → zL (stMod_writeNumber_43 post) (u2, u4, h)) ∧ (¬ ((lg_cmp (u2 / u4) 9) ≤ 0) → ∀ y38 : Int64, y38 = (u4 * 10) → L21 (u2, y38, h))))
def wbMod_writeNumber_18 (post : zM → Prop) (u2 : Int64) (h : zM) : Prop := zL (stMod_writeNumber_21 post) (u2, 1, h)
def wpMod_writeNumber (x1 : Int32) (h : zM) (post : zM → Prop) : Prop := ∀ y2 : Int64, y2 = (Int32.toInt64 x1) → (((0 ≤ (lg_cmp y2 0)) → wbMod_writeNumber_18 post y2 h) ∧ (¬ (0 ≤ (lg_cmp y2 0)) → wpMod_write 45 h (fun h12 => ∀ y17 : Int64, y17 = (-y2) → wbMod_writeNumber_18 post y17 h12)))
abbrev rmMod_writeNumber : Room := { frames := 1, cells := 0, slots := 0, locals := 21 }
set_option maxHeartbeats 4000000 in
set_option maxRecDepth 100000 in
theorem cMod_writeNumber (l : Launch) (D : va_G) (cI cC cE : ClassId) (ad : Nat → Nat) (A : Nat → Prop) (hJ : zJ A 28 ad) (x1 : Int32) (h : zM) (post : zM → Prop) (hw : wpMod_writeNumber x1 h post) : Met l yMod_writeNumber (.code yMod_writeNumber bMod_writeNumber 6 none :: zt) rmMod_writeNumber (va_Pc [.ref (ad 0), .int x1] (zPre D (zty cI cC cE) 28 ad (mF ad cI) A h)) (va_Qv post (zPst D (zty cI cC cE) 28 ad (mF ad cI)) A) 0 0 A := by
  refine Met.ofW (cc := bMod_writeNumber) (maxL := 6) (ret := none) (by decide) rfl ?_
  intro p e s m args below meth c s₁ B hml hv
  obtain ⟨rfl, hP, hK, hT, hN⟩ := hv
  have hr := B.returns
  have hlk := B.notSynchronized
  have S : zS p m c bMod_writeNumber 6 s _ "CallExplorerModel" := ⟨B.exec, B.bytes, hml, findClass_of_methodNamed B.named, fun w hw => atoms_spec (ws := .code yMod_writeNumber bMod_writeNumber 6 none :: zt) B.pre w (List.mem_cons_of_mem _ hw)⟩
  have hS : va_S A s.heap s.heap [] := va_S.rf
  have hl := lv_entry ([.ref (ad 0), .int x1]) (n := 6) (Nat.le_of_ble_eq_true rfl)
  rw [lg_entry_eq]
  generalize (lg_sl ([.ref (ad 0), .int x1]) ++ List.replicate (6 - (lg_sl ([.ref (ad 0), .int x1])).length) Slot.unset).toArray = ls at hl ⊢
  have hl : lv_has ls 6 [(0, .ref (ad 0)), (1, .int x1)] := hl
  show W p l e rmMod_writeNumber s m ([.ref (ad 0), .int x1] : List Value).toArray below meth c s.heap [] 0 0 (zQv post D (zty cI cC cE) 28 ad (mF ad cI) A below ([.ref (ad 0), .int x1] : List Value).toArray s) _
  have J43 : ∀ (fu : Nat) (u2 : Int64) (u4 : Int64) (h : zM) (H : Heap) (locs : List Loc) (ls : Array Slot), zl (stMod_writeNumber_43 post) fu (u2, u4, h) → lv_has ls 6 [(0, .ref (ad 0)), (2, .long u2), (4, .long u4)] → va_P D zcl (zW 28 ad (mF ad cI) h) H → va_S A s.heap H locs → W p l e rmMod_writeNumber s m ([.ref (ad 0), .int x1] : List Value).toArray below meth c H locs 0 0 (zQv post D (zty cI cC cE) 28 ad (mF ad cI) A below ([.ref (ad 0), .int x1] : List Value).toArray s) (F0 m 43 ls []) := by
    intro fu43
    induction fu43 with
    | zero =>
      intro u2 u4 h H locs ls hw
      exact (zl_0 hw).elim
    | succ fu43 ih43 =>
      intro u2 u4 h H locs ls hw hl hP hS
      have hw := zl_s hw
      generalize zl (stMod_writeNumber_43 post) fu43 = L43 at hw ih43
      unfold stMod_writeNumber_43 at hw
      dsimp only at hw
      refine lv_lload S.1 S.2.1 dMod_writeNumber_43 (lv_at hl 2 rfl) ?_
      refine lv_lconst (v := 0) S.1 S.2.1 dMod_writeNumber_45 (by decide) ?_
      refine W.lcmp S.1 S.2.1 dMod_writeNumber_46 ?_
      refine lv_if_le S.1 S.2.1 dMod_writeNumber_47 rfl (fun hc => ?_) (fun hc => ?_)
      · have hw := hw.1 hc
        exact zr_vret S hr hlk hK hP hS hw dMod_writeNumber_78
      · have hw := hw.2 hc
        refine lv_aload_n S.1 S.2.1 dMod_writeNumber_50 rfl (lv_at hl 0 rfl) ?_
        refine lv_ldc2 (v := 48) S.1 S.2.1 S.2.2.2.1 (S.2.2.2.2 _ q1161) dMod_writeNumber_51 ?_
        refine lv_lload_n S.1 S.2.1 dMod_writeNumber_54 rfl (lv_at hl 1 rfl) ?_
        refine lv_lload S.1 S.2.1 dMod_writeNumber_55 (lv_at hl 2 rfl) ?_
        obtain ⟨z57, hw⟩ := hw
        refine lv_ldiv S.1 S.2.1 dMod_writeNumber_57 z57 ?_
        refine lv_ldc2 (v := 10) S.1 S.2.1 S.2.2.2.1 (S.2.2.2.2 _ q1160) dMod_writeNumber_58 ?_
        refine lv_lrem S.1 S.2.1 dMod_writeNumber_61 (by decide) ?_
        refine lv_ladd S.1 S.2.1 dMod_writeNumber_62 ?_
        refine lv_l2i S.1 S.2.1 dMod_writeNumber_63 rfl ?_
        refine zr_v (zr_V (As := [.int (Int64.toInt32 (48 + ((u2 / u4) - (u2 / u4) / 10 * 10)))]) (rest := []) S hK hT hN hP hS (by decide) (mF_0 _) rfl (cMod_write l D cI cC cE ad A hJ _ _ _ hw) caMod_261 ⟨Nat.le_of_ble_eq_true rfl, Nat.le_of_ble_eq_true rfl⟩ ⟨rfl, rfl⟩ rfl hl.1 rfl (Nat.le_of_ble_eq_true rfl) dMod_writeNumber_64) hS (fun h64 H locs hw hP hS => ?_)
        refine lv_lload S.1 S.2.1 dMod_writeNumber_67 (lv_at hl 2 rfl) ?_
        refine lv_ldc2 (v := 10) S.1 S.2.1 S.2.2.2.1 (S.2.2.2.2 _ q1160) dMod_writeNumber_69 ?_
        refine lv_ldiv S.1 S.2.1 dMod_writeNumber_72 (by decide) ?_
        refine lv_topl (fun y73 e73 => ?_)
        have hw := hw y73 e73
        refine lv_lstore (lv' := [(4, .long y73), (0, .ref (ad 0)), (2, .long u2)]) S.1 S.2.1 dMod_writeNumber_73 hl (by decide) rfl (fun ls hl => ?_)
        refine lv_goto S.1 S.2.1 dMod_writeNumber_75 rfl ?_
        exact ih43 _ _ _ _ _ _ hw (lv_sub hl [1, 2, 0] rfl) hP hS
  have J21 : ∀ (fu : Nat) (u2 : Int64) (u4 : Int64) (h : zM) (H : Heap) (locs : List Loc) (ls : Array Slot), zl (stMod_writeNumber_21 post) fu (u2, u4, h) → lv_has ls 6 [(0, .ref (ad 0)), (2, .long u2), (4, .long u4)] → va_P D zcl (zW 28 ad (mF ad cI) h) H → va_S A s.heap H locs → W p l e rmMod_writeNumber s m ([.ref (ad 0), .int x1] : List Value).toArray below meth c H locs 0 0 (zQv post D (zty cI cC cE) 28 ad (mF ad cI) A below ([.ref (ad 0), .int x1] : List Value).toArray s) (F0 m 21 ls []) := by
    intro fu21
    induction fu21 with
    | zero =>
      intro u2 u4 h H locs ls hw
      exact (zl_0 hw).elim
    | succ fu21 ih21 =>
      intro u2 u4 h H locs ls hw hl hP hS
      have hw := zl_s hw
      generalize zl (stMod_writeNumber_21 post) fu21 = L21 at hw ih21
      unfold stMod_writeNumber_21 at hw
      dsimp only at hw
      refine lv_lload_n S.1 S.2.1 dMod_writeNumber_21 rfl (lv_at hl 1 rfl) ?_
      refine lv_lload S.1 S.2.1 dMod_writeNumber_22 (lv_at hl 2 rfl) ?_
      obtain ⟨z24, hw⟩ := hw
      refine lv_ldiv S.1 S.2.1 dMod_writeNumber_24 z24 ?_
      refine lv_ldc2 (v := 9) S.1 S.2.1 S.2.2.2.1 (S.2.2.2.2 _ q1159) dMod_writeNumber_25 ?_
      refine W.lcmp S.1 S.2.1 dMod_writeNumber_28 ?_
      refine lv_if_le S.1 S.2.1 dMod_writeNumber_29 rfl (fun hc => ?_) (fun hc => ?_)
      · have hw := hw.1 hc
        obtain ⟨fu, hw⟩ := hw
        exact J43 fu _ _ _ _ _ _ hw (lv_sub hl [0, 1, 2] rfl) hP hS
      · have hw := hw.2 hc
        refine lv_lload S.1 S.2.1 dMod_writeNumber_32 (lv_at hl 2 rfl) ?_
        refine lv_ldc2 (v := 10) S.1 S.2.1 S.2.2.2.1 (S.2.2.2.2 _ q1160) dMod_writeNumber_34 ?_
        refine lv_lmul S.1 S.2.1 dMod_writeNumber_37 ?_
        refine lv_topl (fun y38 e38 => ?_)
        have hw := hw y38 e38
        refine lv_lstore (lv' := [(4, .long y38), (0, .ref (ad 0)), (2, .long u2)]) S.1 S.2.1 dMod_writeNumber_38 hl (by decide) rfl (fun ls hl => ?_)
        refine lv_goto S.1 S.2.1 dMod_writeNumber_40 rfl ?_
        exact ih21 _ _ _ _ _ _ hw (lv_sub hl [1, 2, 0] rfl) hP hS
  have J18 : ∀ (u2 : Int64) (h : zM) (H : Heap) (locs : List Loc) (ls : Array Slot), wbMod_writeNumber_18 post u2 h → lv_has ls 6 [(0, .ref (ad 0)), (2, .long u2)] → va_P D zcl (zW 28 ad (mF ad cI) h) H → va_S A s.heap H locs → W p l e rmMod_writeNumber s m ([.ref (ad 0), .int x1] : List Value).toArray below meth c H locs 0 0 (zQv post D (zty cI cC cE) 28 ad (mF ad cI) A below ([.ref (ad 0), .int x1] : List Value).toArray s) (F0 m 18 ls []) := by
    intro u2 h H locs ls hw hl hP hS
    unfold wbMod_writeNumber_18 at hw
    refine lv_lconst (v := 1) S.1 S.2.1 dMod_writeNumber_18 (by decide) ?_
    refine lv_lstore (lv' := [(4, .long 1), (0, .ref (ad 0)), (2, .long u2)]) S.1 S.2.1 dMod_writeNumber_19 hl (by decide) rfl (fun ls hl => ?_)
    obtain ⟨fu, hw⟩ := hw
    exact J21 fu _ _ _ _ _ _ hw (lv_sub hl [1, 2, 0] rfl) hP hS
  unfold wpMod_writeNumber at hw
  refine lv_iload_n S.1 S.2.1 dMod_writeNumber_0 rfl (lv_at hl 1 rfl) ?_
  refine lv_i2l S.1 S.2.1 dMod_writeNumber_1 rfl ?_
  refine lv_topl (fun y2 e2 => ?_)
  have hw := hw y2 e2
  refine lv_lstore_n (lv' := [(2, .long y2), (0, .ref (ad 0)), (1, .int x1)]) S.1 S.2.1 dMod_writeNumber_2 rfl hl (by decide) rfl (fun ls hl => ?_)
  refine lv_lload_n S.1 S.2.1 dMod_writeNumber_3 rfl (lv_at hl 0 rfl) ?_
  refine lv_lconst (v := 0) S.1 S.2.1 dMod_writeNumber_4 (by decide) ?_
  refine W.lcmp S.1 S.2.1 dMod_writeNumber_5 ?_
  refine lv_if_ge S.1 S.2.1 dMod_writeNumber_6 rfl (fun hc => ?_) (fun hc => ?_)
  · have hw := hw.1 hc
    exact J18 _ _ _ _ _ hw (lv_sub hl [1, 0] rfl) hP hS
  · have hw := hw.2 hc
    refine lv_aload_n S.1 S.2.1 dMod_writeNumber_9 rfl (lv_at hl 1 rfl) ?_
    refine lv_bipush (v := 45) S.1 S.2.1 dMod_writeNumber_10 (by decide) ?_
    refine zr_v (zr_V (As := [.int 45]) (rest := []) S hK hT hN hP hS (by decide) (mF_0 _) rfl (cMod_write l D cI cC cE ad A hJ _ _ _ hw) caMod_261 ⟨Nat.le_of_ble_eq_true rfl, Nat.le_of_ble_eq_true rfl⟩ ⟨rfl, rfl⟩ rfl hl.1 rfl (Nat.le_of_ble_eq_true rfl) dMod_writeNumber_12) hS (fun h12 H locs hw hP hS => ?_)
    refine lv_lload_n S.1 S.2.1 dMod_writeNumber_15 rfl (lv_at hl 0 rfl) ?_
    refine lv_lneg S.1 S.2.1 dMod_writeNumber_16 ?_
    refine lv_topl (fun y17 e17 => ?_)
    have hw := hw y17 e17
    refine lv_lstore_n (lv' := [(2, .long y17), (0, .ref (ad 0)), (1, .int x1)]) S.1 S.2.1 dMod_writeNumber_17 rfl hl (by decide) rfl (fun ls hl => ?_)
    exact J18 _ _ _ _ _ hw (lv_sub hl [1, 0] rfl) hP hS
/-! Mod.writeAll -/
theorem dMod_writeAll_0 : decode bMod_writeAll 0 = .ok (.aload_n 0, 1) := by decide +kernel
theorem dMod_writeAll_1 : decode bMod_writeAll 1 = .ok (.iload_n 1, 1) := by decide +kernel
theorem dMod_writeAll_2 : decode bMod_writeAll 2 = .ok (.invokevirtual 194, 3) := by decide +kernel
theorem dMod_writeAll_5 : decode bMod_writeAll 5 = .ok (.aload_n 0, 1) := by decide +kernel
theorem dMod_writeAll_6 : decode bMod_writeAll 6 = .ok (.iconst 0, 1) := by decide +kernel
theorem dMod_writeAll_7 : decode bMod_writeAll 7 = .ok (.putfield 258, 3) := by decide +kernel
theorem dMod_writeAll_10 : decode bMod_writeAll 10 = .ok (.iconst 0, 1) := by decide +kernel
theorem dMod_writeAll_11 : decode bMod_writeAll 11 = .ok (.istore_n 2, 1) := by decide +kernel
theorem dMod_writeAll_12 : decode bMod_writeAll 12 = .ok (.iload_n 2, 1) := by decide +kernel
theorem dMod_writeAll_13 : decode bMod_writeAll 13 = .ok (.aload_n 0, 1) := by decide +kernel
theorem dMod_writeAll_14 : decode bMod_writeAll 14 = .ok (.getfield 156, 3) := by decide +kernel
theorem dMod_writeAll_17 : decode bMod_writeAll 17 = .ok (.if_icmp .ge 124, 3) := by decide +kernel
theorem dMod_writeAll_20 : decode bMod_writeAll 20 = .ok (.aload_n 0, 1) := by decide +kernel
theorem dMod_writeAll_21 : decode bMod_writeAll 21 = .ok (.bipush 97, 2) := by decide +kernel
theorem dMod_writeAll_23 : decode bMod_writeAll 23 = .ok (.aload_n 0, 1) := by decide +kernel
theorem dMod_writeAll_24 : decode bMod_writeAll 24 = .ok (.getfield 35, 3) := by decide +kernel
theorem dMod_writeAll_27 : decode bMod_writeAll 27 = .ok (.iload_n 2, 1) := by decide +kernel
theorem dMod_writeAll_28 : decode bMod_writeAll 28 = .ok (.iaload, 1) := by decide +kernel
theorem dMod_writeAll_29 : decode bMod_writeAll 29 = .ok (.iadd, 1) := by decide +kernel
theorem dMod_writeAll_30 : decode bMod_writeAll 30 = .ok (.invokevirtual 261, 3) := by decide +kernel
theorem dMod_writeAll_33 : decode bMod_writeAll 33 = .ok (.aload_n 0, 1) := by decide +kernel
theorem dMod_writeAll_34 : decode bMod_writeAll 34 = .ok (.bipush 40, 2) := by decide +kernel
theorem dMod_writeAll_36 : decode bMod_writeAll 36 = .ok (.invokevirtual 261, 3) := by decide +kernel
theorem dMod_writeAll_39 : decode bMod_writeAll 39 = .ok (.iconst 0, 1) := by decide +kernel
theorem dMod_writeAll_40 : decode bMod_writeAll 40 = .ok (.istore_n 3, 1) := by decide +kernel
theorem dMod_writeAll_41 : decode bMod_writeAll 41 = .ok (.iload_n 3, 1) := by decide +kernel
theorem dMod_writeAll_42 : decode bMod_writeAll 42 = .ok (.aload_n 0, 1) := by decide +kernel
theorem dMod_writeAll_43 : decode bMod_writeAll 43 = .ok (.getfield 19, 3) := by decide +kernel
theorem dMod_writeAll_46 : decode bMod_writeAll 46 = .ok (.aload_n 0, 1) := by decide +kernel
theorem dMod_writeAll_47 : decode bMod_writeAll 47 = .ok (.getfield 35, 3) := by decide +kernel
theorem dMod_writeAll_50 : decode bMod_writeAll 50 = .ok (.iload_n 2, 1) := by decide +kernel
theorem dMod_writeAll_51 : decode bMod_writeAll 51 = .ok (.iaload, 1) := by decide +kernel
theorem dMod_writeAll_52 : decode bMod_writeAll 52 = .ok (.iaload, 1) := by decide +kernel
theorem dMod_writeAll_53 : decode bMod_writeAll 53 = .ok (.invokestatic 122, 3) := by decide +kernel
theorem dMod_writeAll_56 : decode bMod_writeAll 56 = .ok (.if_icmp .ge 73, 3) := by decide +kernel
theorem dMod_writeAll_59 : decode bMod_writeAll 59 = .ok (.iload_n 3, 1) := by decide +kernel
theorem dMod_writeAll_60 : decode bMod_writeAll 60 = .ok (.ifCond .le 9, 3) := by decide +kernel
theorem dMod_writeAll_63 : decode bMod_writeAll 63 = .ok (.aload_n 0, 1) := by decide +kernel
theorem dMod_writeAll_64 : decode bMod_writeAll 64 = .ok (.bipush 44, 2) := by decide +kernel
theorem dMod_writeAll_66 : decode bMod_writeAll 66 = .ok (.invokevirtual 261, 3) := by decide +kernel
theorem dMod_writeAll_69 : decode bMod_writeAll 69 = .ok (.aload_n 0, 1) := by decide +kernel
theorem dMod_writeAll_70 : decode bMod_writeAll 70 = .ok (.getfield 38, 3) := by decide +kernel
theorem dMod_writeAll_73 : decode bMod_writeAll 73 = .ok (.iconst 2, 1) := by decide +kernel
theorem dMod_writeAll_74 : decode bMod_writeAll 74 = .ok (.iload_n 2, 1) := by decide +kernel
theorem dMod_writeAll_75 : decode bMod_writeAll 75 = .ok (.imul, 1) := by decide +kernel
theorem dMod_writeAll_76 : decode bMod_writeAll 76 = .ok (.iload_n 3, 1) := by decide +kernel
theorem dMod_writeAll_77 : decode bMod_writeAll 77 = .ok (.iadd, 1) := by decide +kernel
theorem dMod_writeAll_78 : decode bMod_writeAll 78 = .ok (.iaload, 1) := by decide +kernel
theorem dMod_writeAll_79 : decode bMod_writeAll 79 = .ok (.istore 4, 2) := by decide +kernel
theorem dMod_writeAll_81 : decode bMod_writeAll 81 = .ok (.iload 4, 2) := by decide +kernel
theorem dMod_writeAll_83 : decode bMod_writeAll 83 = .ok (.iconst 1, 1) := by decide +kernel
theorem dMod_writeAll_84 : decode bMod_writeAll 84 = .ok (.if_icmp .eq 19, 3) := by decide +kernel
theorem dMod_writeAll_87 : decode bMod_writeAll 87 = .ok (.aload_n 0, 1) := by decide +kernel
theorem dMod_writeAll_88 : decode bMod_writeAll 88 = .ok (.iload 4, 2) := by decide +kernel
theorem dMod_writeAll_90 : decode bMod_writeAll 90 = .ok (.ifCond .ne 8, 3) := by decide +kernel
theorem dMod_writeAll_93 : decode bMod_writeAll 93 = .ok (.bipush 118, 2) := by decide +kernel
theorem dMod_writeAll_95 : decode bMod_writeAll 95 = .ok (.goto 5, 3) := by decide +kernel
theorem dMod_writeAll_98 : decode bMod_writeAll 98 = .ok (.bipush 110, 2) := by decide +kernel
theorem dMod_writeAll_100 : decode bMod_writeAll 100 = .ok (.invokevirtual 261, 3) := by decide +kernel
theorem dMod_writeAll_103 : decode bMod_writeAll 103 = .ok (.iload 4, 2) := by decide +kernel
theorem dMod_writeAll_105 : decode bMod_writeAll 105 = .ok (.iconst 2, 1) := by decide +kernel
theorem dMod_writeAll_106 : decode bMod_writeAll 106 = .ok (.if_icmp .ge 17, 3) := by decide +kernel
theorem dMod_writeAll_109 : decode bMod_writeAll 109 = .ok (.aload_n 0, 1) := by decide +kernel
theorem dMod_writeAll_110 : decode bMod_writeAll 110 = .ok (.aload_n 0, 1) := by decide +kernel
theorem dMod_writeAll_111 : decode bMod_writeAll 111 = .ok (.getfield 41, 3) := by decide +kernel
theorem dMod_writeAll_114 : decode bMod_writeAll 114 = .ok (.iconst 2, 1) := by decide +kernel
theorem dMod_writeAll_115 : decode bMod_writeAll 115 = .ok (.iload_n 2, 1) := by decide +kernel
theorem dMod_writeAll_116 : decode bMod_writeAll 116 = .ok (.imul, 1) := by decide +kernel
theorem dMod_writeAll_117 : decode bMod_writeAll 117 = .ok (.iload_n 3, 1) := by decide +kernel
theorem dMod_writeAll_118 : decode bMod_writeAll 118 = .ok (.iadd, 1) := by decide +kernel
theorem dMod_writeAll_119 : decode bMod_writeAll 119 = .ok (.iaload, 1) := by decide +kernel
theorem dMod_writeAll_120 : decode bMod_writeAll 120 = .ok (.invokevirtual 270, 3) := by decide +kernel
theorem dMod_writeAll_123 : decode bMod_writeAll 123 = .ok (.iinc 3 1, 3) := by decide +kernel
theorem dMod_writeAll_126 : decode bMod_writeAll 126 = .ok (.goto (-85), 3) := by decide +kernel
theorem dMod_writeAll_129 : decode bMod_writeAll 129 = .ok (.aload_n 0, 1) := by decide +kernel
theorem dMod_writeAll_130 : decode bMod_writeAll 130 = .ok (.bipush 41, 2) := by decide +kernel
theorem dMod_writeAll_132 : decode bMod_writeAll 132 = .ok (.invokevirtual 261, 3) := by decide +kernel
theorem dMod_writeAll_135 : decode bMod_writeAll 135 = .ok (.iinc 2 1, 3) := by decide +kernel
theorem dMod_writeAll_138 : decode bMod_writeAll 138 = .ok (.goto (-126), 3) := by decide +kernel
theorem dMod_writeAll_141 : decode bMod_writeAll 141 = .ok (.aload_n 0, 1) := by decide +kernel
theorem dMod_writeAll_142 : decode bMod_writeAll 142 = .ok (.aload_n 0, 1) := by decide +kernel
theorem dMod_writeAll_143 : decode bMod_writeAll 143 = .ok (.getfield 62, 3) := by decide +kernel
theorem dMod_writeAll_146 : decode bMod_writeAll 146 = .ok (.iload_n 1, 1) := by decide +kernel
theorem dMod_writeAll_147 : decode bMod_writeAll 147 = .ok (.iaload, 1) := by decide +kernel
theorem dMod_writeAll_148 : decode bMod_writeAll 148 = .ok (.iconst 2, 1) := by decide +kernel
theorem dMod_writeAll_149 : decode bMod_writeAll 149 = .ok (.if_icmp .ge 8, 3) := by decide +kernel
theorem dMod_writeAll_152 : decode bMod_writeAll 152 = .ok (.bipush 61, 2) := by decide +kernel
theorem dMod_writeAll_154 : decode bMod_writeAll 154 = .ok (.goto 20, 3) := by decide +kernel
theorem dMod_writeAll_157 : decode bMod_writeAll 157 = .ok (.aload_n 0, 1) := by decide +kernel
theorem dMod_writeAll_158 : decode bMod_writeAll 158 = .ok (.getfield 62, 3) := by decide +kernel
theorem dMod_writeAll_161 : decode bMod_writeAll 161 = .ok (.iload_n 1, 1) := by decide +kernel
theorem dMod_writeAll_162 : decode bMod_writeAll 162 = .ok (.iaload, 1) := by decide +kernel
theorem dMod_writeAll_163 : decode bMod_writeAll 163 = .ok (.iconst 2, 1) := by decide +kernel
theorem dMod_writeAll_164 : decode bMod_writeAll 164 = .ok (.if_icmp .ne 8, 3) := by decide +kernel
theorem dMod_writeAll_167 : decode bMod_writeAll 167 = .ok (.bipush 33, 2) := by decide +kernel
theorem dMod_writeAll_169 : decode bMod_writeAll 169 = .ok (.goto 5, 3) := by decide +kernel
theorem dMod_writeAll_172 : decode bMod_writeAll 172 = .ok (.bipush 63, 2) := by decide +kernel
theorem dMod_writeAll_174 : decode bMod_writeAll 174 = .ok (.invokevirtual 261, 3) := by decide +kernel
theorem dMod_writeAll_177 : decode bMod_writeAll 177 = .ok (.aload_n 0, 1) := by decide +kernel
theorem dMod_writeAll_178 : decode bMod_writeAll 178 = .ok (.getfield 62, 3) := by decide +kernel
theorem dMod_writeAll_181 : decode bMod_writeAll 181 = .ok (.iload_n 1, 1) := by decide +kernel
theorem dMod_writeAll_182 : decode bMod_writeAll 182 = .ok (.iaload, 1) := by decide +kernel
theorem dMod_writeAll_183 : decode bMod_writeAll 183 = .ok (.iconst 2, 1) := by decide +kernel
theorem dMod_writeAll_184 : decode bMod_writeAll 184 = .ok (.if_icmp .lt 17, 3) := by decide +kernel
theorem dMod_writeAll_187 : decode bMod_writeAll 187 = .ok (.aload_n 0, 1) := by decide +kernel
theorem dMod_writeAll_188 : decode bMod_writeAll 188 = .ok (.bipush 48, 2) := by decide +kernel
theorem dMod_writeAll_190 : decode bMod_writeAll 190 = .ok (.aload_n 0, 1) := by decide +kernel
theorem dMod_writeAll_191 : decode bMod_writeAll 191 = .ok (.getfield 65, 3) := by decide +kernel
theorem dMod_writeAll_194 : decode bMod_writeAll 194 = .ok (.iload_n 1, 1) := by decide +kernel
theorem dMod_writeAll_195 : decode bMod_writeAll 195 = .ok (.iaload, 1) := by decide +kernel
theorem dMod_writeAll_196 : decode bMod_writeAll 196 = .ok (.iadd, 1) := by decide +kernel
theorem dMod_writeAll_197 : decode bMod_writeAll 197 = .ok (.invokevirtual 261, 3) := by decide +kernel
theorem dMod_writeAll_200 : decode bMod_writeAll 200 = .ok (.return_, 1) := by decide +kernel
theorem dMod_writeAll_201 : decode bMod_writeAll 201 = .ok (.aload_n 0, 1) := by decide +kernel
theorem dMod_writeAll_202 : decode bMod_writeAll 202 = .ok (.invokevirtual 198, 3) := by decide +kernel
theorem dMod_writeAll_205 : decode bMod_writeAll 205 = .ok (.aload_n 0, 1) := by decide +kernel
theorem dMod_writeAll_206 : decode bMod_writeAll 206 = .ok (.getfield 80, 3) := by decide +kernel
theorem dMod_writeAll_209 : decode bMod_writeAll 209 = .ok (.aload_n 0, 1) := by decide +kernel
theorem dMod_writeAll_210 : decode bMod_writeAll 210 = .ok (.getfield 156, 3) := by decide +kernel
theorem dMod_writeAll_213 : decode bMod_writeAll 213 = .ok (.iconst 1, 1) := by decide +kernel
theorem dMod_writeAll_214 : decode bMod_writeAll 214 = .ok (.isub, 1) := by decide +kernel
theorem dMod_writeAll_215 : decode bMod_writeAll 215 = .ok (.iaload, 1) := by decide +kernel
theorem dMod_writeAll_216 : decode bMod_writeAll 216 = .ok (.istore_n 2, 1) := by decide +kernel
theorem dMod_writeAll_217 : decode bMod_writeAll 217 = .ok (.aload_n 0, 1) := by decide +kernel
theorem dMod_writeAll_218 : decode bMod_writeAll 218 = .ok (.aload_n 0, 1) := by decide +kernel
theorem dMod_writeAll_219 : decode bMod_writeAll 219 = .ok (.getfield 35, 3) := by decide +kernel
theorem dMod_writeAll_222 : decode bMod_writeAll 222 = .ok (.aload_n 0, 1) := by decide +kernel
theorem dMod_writeAll_223 : decode bMod_writeAll 223 = .ok (.getfield 156, 3) := by decide +kernel
theorem dMod_writeAll_226 : decode bMod_writeAll 226 = .ok (.iconst 1, 1) := by decide +kernel
theorem dMod_writeAll_227 : decode bMod_writeAll 227 = .ok (.isub, 1) := by decide +kernel
theorem dMod_writeAll_228 : decode bMod_writeAll 228 = .ok (.iaload, 1) := by decide +kernel
theorem dMod_writeAll_229 : decode bMod_writeAll 229 = .ok (.invokevirtual 181, 3) := by decide +kernel
theorem dMod_writeAll_232 : decode bMod_writeAll 232 = .ok (.ifCond .ne 11, 3) := by decide +kernel
theorem dMod_writeAll_235 : decode bMod_writeAll 235 = .ok (.aload_n 0, 1) := by decide +kernel
theorem dMod_writeAll_236 : decode bMod_writeAll 236 = .ok (.iload_n 2, 1) := by decide +kernel
theorem dMod_writeAll_237 : decode bMod_writeAll 237 = .ok (.invokevirtual 270, 3) := by decide +kernel
theorem dMod_writeAll_240 : decode bMod_writeAll 240 = .ok (.goto 18, 3) := by decide +kernel
theorem dMod_writeAll_243 : decode bMod_writeAll 243 = .ok (.aload_n 0, 1) := by decide +kernel
theorem dMod_writeAll_244 : decode bMod_writeAll 244 = .ok (.iload_n 2, 1) := by decide +kernel
theorem dMod_writeAll_245 : decode bMod_writeAll 245 = .ok (.ifCond .ge 8, 3) := by decide +kernel
theorem dMod_writeAll_248 : decode bMod_writeAll 248 = .ok (.bipush 110, 2) := by decide +kernel
theorem dMod_writeAll_250 : decode bMod_writeAll 250 = .ok (.goto 5, 3) := by decide +kernel
theorem dMod_writeAll_253 : decode bMod_writeAll 253 = .ok (.bipush 111, 2) := by decide +kernel
theorem dMod_writeAll_255 : decode bMod_writeAll 255 = .ok (.invokevirtual 261, 3) := by decide +kernel
theorem dMod_writeAll_258 : decode bMod_writeAll 258 = .ok (.return_, 1) := by decide +kernel
def wbMod_writeAll_255 (post : zM → Prop) (k1 : Int32) (h : zM) : Prop := wpMod_write k1 h (fun h255 => post h255)
def wbMod_writeAll_174 (post : zM → Prop) (v1 : Int32) (k1 : Int32) (h : zM) : Prop := wpMod_write k1 h (fun h174 => (vp_in v1 41 ∧ ((((h174 17 (Int32.toNatClampNeg v1)) < 2) → wpMod_run h174 (fun h202 => (vp_in ((h202 0 11) - 1) 10 ∧ ∀ y216 : Int32, y216 = (h202 23 (Int32.toNatClampNeg ((h202 0 11) - 1))) → (vp_in ((h202 0 11) - 1) 20 ∧ wpMod_gives (h202 8 (Int32.toNatClampNeg ((h202 0 11) - 1))) h202 (fun r229 h229 => ((¬ r229 = 0 → (((0 ≤ y216) → wbMod_writeAll_255 post 111 h229) ∧ (¬ (0 ≤ y216) → wbMod_writeAll_255 post 110 h229))) ∧ (r229 = 0 → wpMod_writeNumber y216 h229 (fun h237 => post h237)))))))) ∧ (¬ ((h174 17 (Int32.toNatClampNeg v1)) < 2) → (vp_in v1 41 ∧ wpMod_write (48 + (h174 18 (Int32.toNatClampNeg v1))) h174 (fun h197 => post h197))))))
def wbMod_writeAll_123 (post : zM → Prop) (L12 : (Int32 × Int32 × zM) → Prop) (L41 : (Int32 × Int32 × Int32 × zM) → Prop) (v1 : Int32) (v2 : Int32) (v3 : Int32) (h : zM) : Prop := L41 (v1, v2, (v3 + 1), h)
def wbMod_writeAll_103 (post : zM → Prop) (L12 : (Int32 × Int32 × zM) → Prop) (L41 : (Int32 × Int32 × Int32 × zM) → Prop) (v1 : Int32) (v2 : Int32) (v3 : Int32) (v4 : Int32) (h : zM) : Prop := (((2 ≤ v4) → wbMod_writeAll_123 post L12 L41 v1 v2 v3 h) ∧ (¬ (2 ≤ v4) → (vp_in ((2 * v2) + v3) 40 ∧ wpMod_writeNumber (h 10 (Int32.toNatClampNeg ((2 * v2) + v3))) h (fun h120 => wbMod_writeAll_123 post L12 L41 v1 v2 v3 h120))))
def wbMod_writeAll_100 (post : zM → Prop) (L12 : (Int32 × Int32 × zM) → Prop) (L41 : (Int32 × Int32 × Int32 × zM) → Prop) (v1 : Int32) (v2 : Int32) (v3 : Int32) (v4 : Int32) (k1 : Int32) (h : zM) : Prop := wpMod_write k1 h (fun h100 => wbMod_writeAll_103 post L12 L41 v1 v2 v3 v4 h100)
def wbMod_writeAll_69 (post : zM → Prop) (L12 : (Int32 × Int32 × zM) → Prop) (L41 : (Int32 × Int32 × Int32 × zM) → Prop) (v1 : Int32) (v2 : Int32) (v3 : Int32) (h : zM) : Prop := (vp_in ((2 * v2) + v3) 40 ∧ ∀ y79 : Int32, y79 = (h 9 (Int32.toNatClampNeg ((2 * v2) + v3))) → ((y79 = 1 → wbMod_writeAll_103 post L12 L41 v1 v2 v3 y79 h) ∧ (¬ y79 = 1 → ((¬ y79 = 0 → wbMod_writeAll_100 post L12 L41 v1 v2 v3 y79 110 h) ∧ (y79 = 0 → wbMod_writeAll_100 post L12 L41 v1 v2 v3 y79 118 h)))))
def stMod_writeAll_41 (post : zM → Prop) (L12 : (Int32 × Int32 × zM) → Prop) (L41 : (Int32 × Int32 × Int32 × zM) → Prop) : (Int32 × Int32 × Int32 × zM) → Prop := fun s => match s with
  | (v1, v2, v3, h) => (vp_in v2 20 ∧ (vp_in (h 8 (Int32.toNatClampNeg v2)) 10 ∧ wpMod_arity (h 4 (Int32.toNatClampNeg (h 8 (Int32.toNatClampNeg v2)))) h (fun r53 h53 => (((r53 ≤ v3) → wpMod_write 41 h53 (fun h132 => L12 (v1, (v2 + 1), h132))) ∧ (¬ (r53 ≤ v3) → (((v3 ≤ 0) → wbMod_writeAll_69 post L12 L41 v1 v2 v3 h53) ∧ (¬ (v3 ≤ 0) → wpMod_write 44 h53 (fun h66 => wbMod_writeAll_69 post L12 L41 v1 v2 v3 h66))))))))
def stMod_writeAll_12 (post : zM → Prop) (L12 : (Int32 × Int32 × zM) → Prop) : (Int32 × Int32 × zM) → Prop := fun s => match s with
  | (v1, v2, h) => ((((h 0 11) ≤ v2) → (vp_in v1 41 ∧ (((2 ≤ (h 17 (Int32.toNatClampNeg v1))) → (vp_in v1 41 ∧ ((¬ (h 17 (Int32.toNatClampNeg v1)) = 2 → wbMod_writeAll_174 post v1 63 h) ∧ ((h 17 (Int32.toNatClampNeg v1)) = 2 → wbMod_writeAll_174 post v1 33 h)))) ∧ (¬ (2 ≤ (h 17 (Int32.toNatClampNeg v1))) → wbMod_writeAll_174 post v1 61 h)))) ∧ (¬ ((h 0 11) ≤ v2) → (vp_in v2 20 ∧ wpMod_write (97 + (h 8 (Int32.toNatClampNeg v2))) h (fun h30 => wpMod_write 40 h30 (fun h36 => zL (stMod_writeAll_41 post L12) (v1, v2, 0, h36))))))
def wpMod_writeAll (x1 : Int32) (h : zM) (post : zM → Prop) : Prop := wpMod_load x1 h (fun h2 => ∀ h7 : zM, h7 = zu h2 0 39 0 → zL (stMod_writeAll_12 post) (x1, 0, h7))
abbrev rmMod_writeAll : Room := { frames := 4, cells := 0, slots := 0, locals := 95 }
set_option maxHeartbeats 4000000 in
set_option maxRecDepth 100000 in
theorem cMod_writeAll (l : Launch) (D : va_G) (cI cC cE : ClassId) (ad : Nat → Nat) (A : Nat → Prop) (hJ : zJ A 28 ad) (x1 : Int32) (h : zM) (post : zM → Prop) (hw : wpMod_writeAll x1 h post) : Met l yMod_writeAll (.code yMod_writeAll bMod_writeAll 5 none :: zt) rmMod_writeAll (va_Pc [.ref (ad 0), .int x1] (zPre D (zty cI cC cE) 28 ad (mF ad cI) A h)) (va_Qv post (zPst D (zty cI cC cE) 28 ad (mF ad cI)) A) 0 0 A := by
  refine Met.ofW (cc := bMod_writeAll) (maxL := 5) (ret := none) (by decide) rfl ?_
  intro p e s m args below meth c s₁ B hml hv
  obtain ⟨rfl, hP, hK, hT, hN⟩ := hv
  have hr := B.returns
  have hlk := B.notSynchronized
  have S : zS p m c bMod_writeAll 5 s _ "CallExplorerModel" := ⟨B.exec, B.bytes, hml, findClass_of_methodNamed B.named, fun w hw => atoms_spec (ws := .code yMod_writeAll bMod_writeAll 5 none :: zt) B.pre w (List.mem_cons_of_mem _ hw)⟩
  have hS : va_S A s.heap s.heap [] := va_S.rf
  have hl := lv_entry ([.ref (ad 0), .int x1]) (n := 5) (Nat.le_of_ble_eq_true rfl)
  rw [lg_entry_eq]
  generalize (lg_sl ([.ref (ad 0), .int x1]) ++ List.replicate (5 - (lg_sl ([.ref (ad 0), .int x1])).length) Slot.unset).toArray = ls at hl ⊢
  have hl : lv_has ls 5 [(0, .ref (ad 0)), (1, .int x1)] := hl
  show W p l e rmMod_writeAll s m ([.ref (ad 0), .int x1] : List Value).toArray below meth c s.heap [] 0 0 (zQv post D (zty cI cC cE) 28 ad (mF ad cI) A below ([.ref (ad 0), .int x1] : List Value).toArray s) _
  have J255 : ∀ (k1 : Int32) (h : zM) (H : Heap) (locs : List Loc) (ls : Array Slot), wbMod_writeAll_255 post k1 h → lv_has ls 5 [] → va_P D zcl (zW 28 ad (mF ad cI) h) H → va_S A s.heap H locs → W p l e rmMod_writeAll s m ([.ref (ad 0), .int x1] : List Value).toArray below meth c H locs 0 0 (zQv post D (zty cI cC cE) 28 ad (mF ad cI) A below ([.ref (ad 0), .int x1] : List Value).toArray s) (F0 m 255 ls [.int k1, .ref (ad 0)]) := by
    intro k1 h H locs ls hw hl hP hS
    unfold wbMod_writeAll_255 at hw
    refine zr_v (zr_V (As := [.int k1]) (rest := []) S hK hT hN hP hS (by decide) (mF_0 _) rfl (cMod_write l D cI cC cE ad A hJ _ _ _ hw) caMod_261 ⟨Nat.le_of_ble_eq_true rfl, Nat.le_of_ble_eq_true rfl⟩ ⟨rfl, rfl⟩ rfl hl.1 rfl (Nat.le_of_ble_eq_true rfl) dMod_writeAll_255) hS (fun h255 H locs hw hP hS => ?_)
    exact zr_vret S hr hlk hK hP hS hw dMod_writeAll_258
  have J174 : ∀ (v1 : Int32) (k1 : Int32) (h : zM) (H : Heap) (locs : List Loc) (ls : Array Slot), wbMod_writeAll_174 post v1 k1 h → lv_has ls 5 [(0, .ref (ad 0)), (1, .int v1)] → va_P D zcl (zW 28 ad (mF ad cI) h) H → va_S A s.heap H locs → W p l e rmMod_writeAll s m ([.ref (ad 0), .int x1] : List Value).toArray below meth c H locs 0 0 (zQv post D (zty cI cC cE) 28 ad (mF ad cI) A below ([.ref (ad 0), .int x1] : List Value).toArray s) (F0 m 174 ls [.int k1, .ref (ad 0)]) := by
    intro v1 k1 h H locs ls hw hl hP hS
    unfold wbMod_writeAll_174 at hw
    refine zr_v (zr_V (As := [.int k1]) (rest := []) S hK hT hN hP hS (by decide) (mF_0 _) rfl (cMod_write l D cI cC cE ad A hJ _ _ _ hw) caMod_261 ⟨Nat.le_of_ble_eq_true rfl, Nat.le_of_ble_eq_true rfl⟩ ⟨rfl, rfl⟩ rfl hl.1 rfl (Nat.le_of_ble_eq_true rfl) dMod_writeAll_174) hS (fun h174 H locs hw hP hS => ?_)
    refine lv_aload_n S.1 S.2.1 dMod_writeAll_177 rfl (lv_at hl 0 rfl) ?_
    refine zr_get S hK hP (by decide) (mF_0 _) fMod_outcome q850 rfl dMod_writeAll_178 ?_
    refine lv_iload_n S.1 S.2.1 dMod_writeAll_181 rfl (lv_at hl 1 rfl) ?_
    obtain ⟨z182, hw⟩ := hw
    refine zr_ald S hK hP (by decide) (mF_17 _) 0 rfl z182 dMod_writeAll_182 ?_
    refine lv_iconst (v := 2) S.1 S.2.1 dMod_writeAll_183 (by decide) ?_
    refine lv_icmp_lt S.1 S.2.1 dMod_writeAll_184 rfl (fun hc => ?_) (fun hc => ?_)
    · have hw := hw.1 hc
      refine lv_aload_n S.1 S.2.1 dMod_writeAll_201 rfl (lv_at hl 0 rfl) ?_
      refine zr_v (zr_V (As := []) (rest := []) S hK hT hN hP hS (by decide) (mF_0 _) rfl (cMod_run l D cI cC cE ad A hJ _ _ hw) caMod_198 ⟨Nat.le_of_ble_eq_true rfl, Nat.le_of_ble_eq_true rfl⟩ ⟨rfl, rfl⟩ rfl hl.1 rfl (Nat.le_of_ble_eq_true rfl) dMod_writeAll_202) hS (fun h202 H locs hw hP hS => ?_)
      refine lv_aload_n S.1 S.2.1 dMod_writeAll_205 rfl (lv_at hl 0 rfl) ?_
      refine zr_get S hK hP (by decide) (mF_0 _) fMod_result q857 rfl dMod_writeAll_206 ?_
      refine lv_aload_n S.1 S.2.1 dMod_writeAll_209 rfl (lv_at hl 0 rfl) ?_
      refine zr_get S hK hP (by decide) (mF_0 _) fMod_size q839 rfl dMod_writeAll_210 ?_
      refine lv_iconst (v := 1) S.1 S.2.1 dMod_writeAll_213 (by decide) ?_
      refine lv_isub S.1 S.2.1 dMod_writeAll_214 ?_
      obtain ⟨z215, hw⟩ := hw
      refine zr_ald S hK hP (by decide) (mF_23 _) 0 rfl z215 dMod_writeAll_215 ?_
      refine lv_topi (fun y216 e216 => ?_)
      have hw := hw y216 e216
      refine lv_istore_n (lv' := [(2, .int y216), (0, .ref (ad 0)), (1, .int v1)]) S.1 S.2.1 dMod_writeAll_216 rfl hl (by decide) rfl (fun ls hl => ?_)
      refine lv_aload_n S.1 S.2.1 dMod_writeAll_217 rfl (lv_at hl 1 rfl) ?_
      refine lv_aload_n S.1 S.2.1 dMod_writeAll_218 rfl (lv_at hl 1 rfl) ?_
      refine zr_get S hK hP (by decide) (mF_0 _) fMod_op q840 rfl dMod_writeAll_219 ?_
      refine lv_aload_n S.1 S.2.1 dMod_writeAll_222 rfl (lv_at hl 1 rfl) ?_
      refine zr_get S hK hP (by decide) (mF_0 _) fMod_size q839 rfl dMod_writeAll_223 ?_
      refine lv_iconst (v := 1) S.1 S.2.1 dMod_writeAll_226 (by decide) ?_
      refine lv_isub S.1 S.2.1 dMod_writeAll_227 ?_
      obtain ⟨z228, hw⟩ := hw
      refine zr_ald S hK hP (by decide) (mF_8 _) 0 rfl z228 dMod_writeAll_228 ?_
      refine zr_i (zr_V (As := [.int (h202 8 (Int32.toNatClampNeg ((h202 0 11) - 1)))]) (rest := []) S hK hT hN hP hS (by decide) (mF_0 _) rfl (cMod_gives l D cI cC cE ad A hJ _ _ _ hw) caMod_181 ⟨Nat.le_of_ble_eq_true rfl, Nat.le_of_ble_eq_true rfl⟩ ⟨rfl, rfl⟩ rfl hl.1 rfl (Nat.le_of_ble_eq_true rfl) dMod_writeAll_229) hS (fun r229 h229 H locs hw hP hS => ?_)
      refine lv_if_ne S.1 S.2.1 dMod_writeAll_232 rfl (fun hc => ?_) (fun hc => ?_)
      · have hw := hw.1 hc
        refine lv_aload_n S.1 S.2.1 dMod_writeAll_243 rfl (lv_at hl 1 rfl) ?_
        refine lv_iload_n S.1 S.2.1 dMod_writeAll_244 rfl (lv_at hl 0 rfl) ?_
        refine lv_if_ge S.1 S.2.1 dMod_writeAll_245 rfl (fun hc => ?_) (fun hc => ?_)
        · have hw := hw.1 hc
          refine lv_bipush (v := 111) S.1 S.2.1 dMod_writeAll_253 (by decide) ?_
          exact J255 _ _ _ _ _ hw (lv_sub hl [] rfl) hP hS
        · have hw := hw.2 hc
          refine lv_bipush (v := 110) S.1 S.2.1 dMod_writeAll_248 (by decide) ?_
          refine lv_goto S.1 S.2.1 dMod_writeAll_250 rfl ?_
          exact J255 _ _ _ _ _ hw (lv_sub hl [] rfl) hP hS
      · have hw := hw.2 hc
        refine lv_aload_n S.1 S.2.1 dMod_writeAll_235 rfl (lv_at hl 1 rfl) ?_
        refine lv_iload_n S.1 S.2.1 dMod_writeAll_236 rfl (lv_at hl 0 rfl) ?_
        refine zr_v (zr_V (As := [.int y216]) (rest := []) S hK hT hN hP hS (by decide) (mF_0 _) rfl (cMod_writeNumber l D cI cC cE ad A hJ _ _ _ hw) caMod_270 ⟨Nat.le_of_ble_eq_true rfl, Nat.le_of_ble_eq_true rfl⟩ ⟨rfl, rfl⟩ rfl hl.1 rfl (Nat.le_of_ble_eq_true rfl) dMod_writeAll_237) hS (fun h237 H locs hw hP hS => ?_)
        refine lv_goto S.1 S.2.1 dMod_writeAll_240 rfl ?_
        exact zr_vret S hr hlk hK hP hS hw dMod_writeAll_258
    · have hw := hw.2 hc
      refine lv_aload_n S.1 S.2.1 dMod_writeAll_187 rfl (lv_at hl 0 rfl) ?_
      refine lv_bipush (v := 48) S.1 S.2.1 dMod_writeAll_188 (by decide) ?_
      refine lv_aload_n S.1 S.2.1 dMod_writeAll_190 rfl (lv_at hl 0 rfl) ?_
      refine zr_get S hK hP (by decide) (mF_0 _) fMod_detail q851 rfl dMod_writeAll_191 ?_
      refine lv_iload_n S.1 S.2.1 dMod_writeAll_194 rfl (lv_at hl 1 rfl) ?_
      obtain ⟨z195, hw⟩ := hw
      refine zr_ald S hK hP (by decide) (mF_18 _) 0 rfl z195 dMod_writeAll_195 ?_
      refine lv_iadd S.1 S.2.1 dMod_writeAll_196 ?_
      refine zr_v (zr_V (As := [.int (48 + (h174 18 (Int32.toNatClampNeg v1)))]) (rest := []) S hK hT hN hP hS (by decide) (mF_0 _) rfl (cMod_write l D cI cC cE ad A hJ _ _ _ hw) caMod_261 ⟨Nat.le_of_ble_eq_true rfl, Nat.le_of_ble_eq_true rfl⟩ ⟨rfl, rfl⟩ rfl hl.1 rfl (Nat.le_of_ble_eq_true rfl) dMod_writeAll_197) hS (fun h197 H locs hw hP hS => ?_)
      exact zr_vret S hr hlk hK hP hS hw dMod_writeAll_200
  have J12 : ∀ (fu : Nat) (v1 : Int32) (v2 : Int32) (h : zM) (H : Heap) (locs : List Loc) (ls : Array Slot), zl (stMod_writeAll_12 post) fu (v1, v2, h) → lv_has ls 5 [(0, .ref (ad 0)), (1, .int v1), (2, .int v2)] → va_P D zcl (zW 28 ad (mF ad cI) h) H → va_S A s.heap H locs → W p l e rmMod_writeAll s m ([.ref (ad 0), .int x1] : List Value).toArray below meth c H locs 0 0 (zQv post D (zty cI cC cE) 28 ad (mF ad cI) A below ([.ref (ad 0), .int x1] : List Value).toArray s) (F0 m 12 ls []) := by
    intro fu12
    induction fu12 with
    | zero =>
      intro v1 v2 h H locs ls hw
      exact (zl_0 hw).elim
    | succ fu12 ih12 =>
      intro v1 v2 h H locs ls hw hl hP hS
      have hw := zl_s hw
      generalize zl (stMod_writeAll_12 post) fu12 = L12 at hw ih12
      have J41 : ∀ (fu : Nat) (v1 : Int32) (v2 : Int32) (v3 : Int32) (h : zM) (H : Heap) (locs : List Loc) (ls : Array Slot), zl (stMod_writeAll_41 post L12) fu (v1, v2, v3, h) → lv_has ls 5 [(0, .ref (ad 0)), (1, .int v1), (2, .int v2), (3, .int v3)] → va_P D zcl (zW 28 ad (mF ad cI) h) H → va_S A s.heap H locs → W p l e rmMod_writeAll s m ([.ref (ad 0), .int x1] : List Value).toArray below meth c H locs 0 0 (zQv post D (zty cI cC cE) 28 ad (mF ad cI) A below ([.ref (ad 0), .int x1] : List Value).toArray s) (F0 m 41 ls []) := by
        intro fu41
        induction fu41 with
        | zero =>
          intro v1 v2 v3 h H locs ls hw
          exact (zl_0 hw).elim
        | succ fu41 ih41 =>
          intro v1 v2 v3 h H locs ls hw hl hP hS
          have hw := zl_s hw
          generalize zl (stMod_writeAll_41 post L12) fu41 = L41 at hw ih41
          have J123 : ∀ (v1 : Int32) (v2 : Int32) (v3 : Int32) (h : zM) (H : Heap) (locs : List Loc) (ls : Array Slot), wbMod_writeAll_123 post L12 L41 v1 v2 v3 h → lv_has ls 5 [(0, .ref (ad 0)), (1, .int v1), (2, .int v2), (3, .int v3)] → va_P D zcl (zW 28 ad (mF ad cI) h) H → va_S A s.heap H locs → W p l e rmMod_writeAll s m ([.ref (ad 0), .int x1] : List Value).toArray below meth c H locs 0 0 (zQv post D (zty cI cC cE) 28 ad (mF ad cI) A below ([.ref (ad 0), .int x1] : List Value).toArray s) (F0 m 123 ls []) := by
            intro v1 v2 v3 h H locs ls hw hl hP hS
            unfold wbMod_writeAll_123 at hw
            refine lv_iinc (v := (v3 + 1)) (lv' := [(3, .int (v3 + 1)), (0, .ref (ad 0)), (1, .int v1), (2, .int v2)]) (k := 3) S.1 S.2.1 dMod_writeAll_123 hl rfl rfl (by decide) rfl (fun ls hl => ?_)
            refine lv_goto S.1 S.2.1 dMod_writeAll_126 rfl ?_
            exact ih41 _ _ _ _ _ _ _ hw (lv_sub hl [1, 2, 3, 0] rfl) hP hS
          have J103 : ∀ (v1 : Int32) (v2 : Int32) (v3 : Int32) (v4 : Int32) (h : zM) (H : Heap) (locs : List Loc) (ls : Array Slot), wbMod_writeAll_103 post L12 L41 v1 v2 v3 v4 h → lv_has ls 5 [(0, .ref (ad 0)), (1, .int v1), (2, .int v2), (3, .int v3), (4, .int v4)] → va_P D zcl (zW 28 ad (mF ad cI) h) H → va_S A s.heap H locs → W p l e rmMod_writeAll s m ([.ref (ad 0), .int x1] : List Value).toArray below meth c H locs 0 0 (zQv post D (zty cI cC cE) 28 ad (mF ad cI) A below ([.ref (ad 0), .int x1] : List Value).toArray s) (F0 m 103 ls []) := by
            intro v1 v2 v3 v4 h H locs ls hw hl hP hS
            unfold wbMod_writeAll_103 at hw
            refine lv_iload S.1 S.2.1 dMod_writeAll_103 (lv_at hl 4 rfl) ?_
            refine lv_iconst (v := 2) S.1 S.2.1 dMod_writeAll_105 (by decide) ?_
            refine lv_icmp_ge S.1 S.2.1 dMod_writeAll_106 rfl (fun hc => ?_) (fun hc => ?_)
            · have hw := hw.1 hc
              exact J123 _ _ _ _ _ _ _ hw (lv_sub hl [0, 1, 2, 3] rfl) hP hS
            · have hw := hw.2 hc
              refine lv_aload_n S.1 S.2.1 dMod_writeAll_109 rfl (lv_at hl 0 rfl) ?_
              refine lv_aload_n S.1 S.2.1 dMod_writeAll_110 rfl (lv_at hl 0 rfl) ?_
              refine zr_get S hK hP (by decide) (mF_0 _) fMod_arg q842 rfl dMod_writeAll_111 ?_
              refine lv_iconst (v := 2) S.1 S.2.1 dMod_writeAll_114 (by decide) ?_
              refine lv_iload_n S.1 S.2.1 dMod_writeAll_115 rfl (lv_at hl 2 rfl) ?_
              refine lv_imul S.1 S.2.1 dMod_writeAll_116 ?_
              refine lv_iload_n S.1 S.2.1 dMod_writeAll_117 rfl (lv_at hl 3 rfl) ?_
              refine lv_iadd S.1 S.2.1 dMod_writeAll_118 ?_
              obtain ⟨z119, hw⟩ := hw
              refine zr_ald S hK hP (by decide) (mF_10 _) 0 rfl z119 dMod_writeAll_119 ?_
              refine zr_v (zr_V (As := [.int (h 10 (Int32.toNatClampNeg ((2 * v2) + v3)))]) (rest := []) S hK hT hN hP hS (by decide) (mF_0 _) rfl (cMod_writeNumber l D cI cC cE ad A hJ _ _ _ hw) caMod_270 ⟨Nat.le_of_ble_eq_true rfl, Nat.le_of_ble_eq_true rfl⟩ ⟨rfl, rfl⟩ rfl hl.1 rfl (Nat.le_of_ble_eq_true rfl) dMod_writeAll_120) hS (fun h120 H locs hw hP hS => ?_)
              exact J123 _ _ _ _ _ _ _ hw (lv_sub hl [0, 1, 2, 3] rfl) hP hS
          have J100 : ∀ (v1 : Int32) (v2 : Int32) (v3 : Int32) (v4 : Int32) (k1 : Int32) (h : zM) (H : Heap) (locs : List Loc) (ls : Array Slot), wbMod_writeAll_100 post L12 L41 v1 v2 v3 v4 k1 h → lv_has ls 5 [(0, .ref (ad 0)), (1, .int v1), (2, .int v2), (3, .int v3), (4, .int v4)] → va_P D zcl (zW 28 ad (mF ad cI) h) H → va_S A s.heap H locs → W p l e rmMod_writeAll s m ([.ref (ad 0), .int x1] : List Value).toArray below meth c H locs 0 0 (zQv post D (zty cI cC cE) 28 ad (mF ad cI) A below ([.ref (ad 0), .int x1] : List Value).toArray s) (F0 m 100 ls [.int k1, .ref (ad 0)]) := by
            intro v1 v2 v3 v4 k1 h H locs ls hw hl hP hS
            unfold wbMod_writeAll_100 at hw
            refine zr_v (zr_V (As := [.int k1]) (rest := []) S hK hT hN hP hS (by decide) (mF_0 _) rfl (cMod_write l D cI cC cE ad A hJ _ _ _ hw) caMod_261 ⟨Nat.le_of_ble_eq_true rfl, Nat.le_of_ble_eq_true rfl⟩ ⟨rfl, rfl⟩ rfl hl.1 rfl (Nat.le_of_ble_eq_true rfl) dMod_writeAll_100) hS (fun h100 H locs hw hP hS => ?_)
            exact J103 _ _ _ _ _ _ _ _ hw (lv_sub hl [0, 1, 2, 3, 4] rfl) hP hS
          have J69 : ∀ (v1 : Int32) (v2 : Int32) (v3 : Int32) (h : zM) (H : Heap) (locs : List Loc) (ls : Array Slot), wbMod_writeAll_69 post L12 L41 v1 v2 v3 h → lv_has ls 5 [(0, .ref (ad 0)), (1, .int v1), (2, .int v2), (3, .int v3)] → va_P D zcl (zW 28 ad (mF ad cI) h) H → va_S A s.heap H locs → W p l e rmMod_writeAll s m ([.ref (ad 0), .int x1] : List Value).toArray below meth c H locs 0 0 (zQv post D (zty cI cC cE) 28 ad (mF ad cI) A below ([.ref (ad 0), .int x1] : List Value).toArray s) (F0 m 69 ls []) := by
            intro v1 v2 v3 h H locs ls hw hl hP hS
            unfold wbMod_writeAll_69 at hw
            refine lv_aload_n S.1 S.2.1 dMod_writeAll_69 rfl (lv_at hl 0 rfl) ?_
            refine zr_get S hK hP (by decide) (mF_0 _) fMod_how q841 rfl dMod_writeAll_70 ?_
            refine lv_iconst (v := 2) S.1 S.2.1 dMod_writeAll_73 (by decide) ?_
            refine lv_iload_n S.1 S.2.1 dMod_writeAll_74 rfl (lv_at hl 2 rfl) ?_
            refine lv_imul S.1 S.2.1 dMod_writeAll_75 ?_
            refine lv_iload_n S.1 S.2.1 dMod_writeAll_76 rfl (lv_at hl 3 rfl) ?_
            refine lv_iadd S.1 S.2.1 dMod_writeAll_77 ?_
            obtain ⟨z78, hw⟩ := hw
            refine zr_ald S hK hP (by decide) (mF_9 _) 0 rfl z78 dMod_writeAll_78 ?_
            refine lv_topi (fun y79 e79 => ?_)
            have hw := hw y79 e79
            refine lv_istore (lv' := [(4, .int y79), (0, .ref (ad 0)), (1, .int v1), (2, .int v2), (3, .int v3)]) S.1 S.2.1 dMod_writeAll_79 hl (by decide) rfl (fun ls hl => ?_)
            refine lv_iload S.1 S.2.1 dMod_writeAll_81 (lv_at hl 0 rfl) ?_
            refine lv_iconst (v := 1) S.1 S.2.1 dMod_writeAll_83 (by decide) ?_
            refine lv_icmp_eq S.1 S.2.1 dMod_writeAll_84 rfl (fun hc => ?_) (fun hc => ?_)
            · have hw := hw.1 hc
              exact J103 _ _ _ _ _ _ _ _ hw (lv_sub hl [1, 2, 3, 4, 0] rfl) hP hS
            · have hw := hw.2 hc
              refine lv_aload_n S.1 S.2.1 dMod_writeAll_87 rfl (lv_at hl 1 rfl) ?_
              refine lv_iload S.1 S.2.1 dMod_writeAll_88 (lv_at hl 0 rfl) ?_
              refine lv_if_ne S.1 S.2.1 dMod_writeAll_90 rfl (fun hc => ?_) (fun hc => ?_)
              · have hw := hw.1 hc
                refine lv_bipush (v := 110) S.1 S.2.1 dMod_writeAll_98 (by decide) ?_
                exact J100 _ _ _ _ _ _ _ _ _ hw (lv_sub hl [1, 2, 3, 4, 0] rfl) hP hS
              · have hw := hw.2 hc
                refine lv_bipush (v := 118) S.1 S.2.1 dMod_writeAll_93 (by decide) ?_
                refine lv_goto S.1 S.2.1 dMod_writeAll_95 rfl ?_
                exact J100 _ _ _ _ _ _ _ _ _ hw (lv_sub hl [1, 2, 3, 4, 0] rfl) hP hS
          unfold stMod_writeAll_41 at hw
          dsimp only at hw
          refine lv_iload_n S.1 S.2.1 dMod_writeAll_41 rfl (lv_at hl 3 rfl) ?_
          refine lv_aload_n S.1 S.2.1 dMod_writeAll_42 rfl (lv_at hl 0 rfl) ?_
          refine zr_get S hK hP (by decide) (mF_0 _) fMod_kind q834 rfl dMod_writeAll_43 ?_
          refine lv_aload_n S.1 S.2.1 dMod_writeAll_46 rfl (lv_at hl 0 rfl) ?_
          refine zr_get S hK hP (by decide) (mF_0 _) fMod_op q840 rfl dMod_writeAll_47 ?_
          refine lv_iload_n S.1 S.2.1 dMod_writeAll_50 rfl (lv_at hl 2 rfl) ?_
          obtain ⟨z51, hw⟩ := hw
          refine zr_ald S hK hP (by decide) (mF_8 _) 0 rfl z51 dMod_writeAll_51 ?_
          obtain ⟨z52, hw⟩ := hw
          refine zr_ald S hK hP (by decide) (mF_4 _) 0 rfl z52 dMod_writeAll_52 ?_
          refine zr_i (zr_T (As := [.int (h 4 (Int32.toNatClampNeg (h 8 (Int32.toNatClampNeg v2))))]) (rest := [.int v3]) S hK hT hN hP hS (cMod_arity l D cI cC cE ad A hJ _ _ _ hw) caMod_122 ⟨Nat.le_of_ble_eq_true rfl, Nat.le_of_ble_eq_true rfl⟩ ⟨rfl, rfl⟩ rfl hl.1 rfl (Nat.le_of_ble_eq_true rfl) dMod_writeAll_53) hS (fun r53 h53 H locs hw hP hS => ?_)
          refine lv_icmp_ge S.1 S.2.1 dMod_writeAll_56 rfl (fun hc => ?_) (fun hc => ?_)
          · have hw := hw.1 hc
            refine lv_aload_n S.1 S.2.1 dMod_writeAll_129 rfl (lv_at hl 0 rfl) ?_
            refine lv_bipush (v := 41) S.1 S.2.1 dMod_writeAll_130 (by decide) ?_
            refine zr_v (zr_V (As := [.int 41]) (rest := []) S hK hT hN hP hS (by decide) (mF_0 _) rfl (cMod_write l D cI cC cE ad A hJ _ _ _ hw) caMod_261 ⟨Nat.le_of_ble_eq_true rfl, Nat.le_of_ble_eq_true rfl⟩ ⟨rfl, rfl⟩ rfl hl.1 rfl (Nat.le_of_ble_eq_true rfl) dMod_writeAll_132) hS (fun h132 H locs hw hP hS => ?_)
            refine lv_iinc (v := (v2 + 1)) (lv' := [(2, .int (v2 + 1)), (0, .ref (ad 0)), (1, .int v1), (3, .int v3)]) (k := 2) S.1 S.2.1 dMod_writeAll_135 hl rfl rfl (by decide) rfl (fun ls hl => ?_)
            refine lv_goto S.1 S.2.1 dMod_writeAll_138 rfl ?_
            exact ih12 _ _ _ _ _ _ hw (lv_sub hl [1, 2, 0] rfl) hP hS
          · have hw := hw.2 hc
            refine lv_iload_n S.1 S.2.1 dMod_writeAll_59 rfl (lv_at hl 3 rfl) ?_
            refine lv_if_le S.1 S.2.1 dMod_writeAll_60 rfl (fun hc => ?_) (fun hc => ?_)
            · have hw := hw.1 hc
              exact J69 _ _ _ _ _ _ _ hw (lv_sub hl [0, 1, 2, 3] rfl) hP hS
            · have hw := hw.2 hc
              refine lv_aload_n S.1 S.2.1 dMod_writeAll_63 rfl (lv_at hl 0 rfl) ?_
              refine lv_bipush (v := 44) S.1 S.2.1 dMod_writeAll_64 (by decide) ?_
              refine zr_v (zr_V (As := [.int 44]) (rest := []) S hK hT hN hP hS (by decide) (mF_0 _) rfl (cMod_write l D cI cC cE ad A hJ _ _ _ hw) caMod_261 ⟨Nat.le_of_ble_eq_true rfl, Nat.le_of_ble_eq_true rfl⟩ ⟨rfl, rfl⟩ rfl hl.1 rfl (Nat.le_of_ble_eq_true rfl) dMod_writeAll_66) hS (fun h66 H locs hw hP hS => ?_)
              exact J69 _ _ _ _ _ _ _ hw (lv_sub hl [0, 1, 2, 3] rfl) hP hS
      unfold stMod_writeAll_12 at hw
      dsimp only at hw
      refine lv_iload_n S.1 S.2.1 dMod_writeAll_12 rfl (lv_at hl 2 rfl) ?_
      refine lv_aload_n S.1 S.2.1 dMod_writeAll_13 rfl (lv_at hl 0 rfl) ?_
      refine zr_get S hK hP (by decide) (mF_0 _) fMod_size q839 rfl dMod_writeAll_14 ?_
      refine lv_icmp_ge S.1 S.2.1 dMod_writeAll_17 rfl (fun hc => ?_) (fun hc => ?_)
      · have hw := hw.1 hc
        refine lv_aload_n S.1 S.2.1 dMod_writeAll_141 rfl (lv_at hl 0 rfl) ?_
        refine lv_aload_n S.1 S.2.1 dMod_writeAll_142 rfl (lv_at hl 0 rfl) ?_
        refine zr_get S hK hP (by decide) (mF_0 _) fMod_outcome q850 rfl dMod_writeAll_143 ?_
        refine lv_iload_n S.1 S.2.1 dMod_writeAll_146 rfl (lv_at hl 1 rfl) ?_
        obtain ⟨z147, hw⟩ := hw
        refine zr_ald S hK hP (by decide) (mF_17 _) 0 rfl z147 dMod_writeAll_147 ?_
        refine lv_iconst (v := 2) S.1 S.2.1 dMod_writeAll_148 (by decide) ?_
        refine lv_icmp_ge S.1 S.2.1 dMod_writeAll_149 rfl (fun hc => ?_) (fun hc => ?_)
        · have hw := hw.1 hc
          refine lv_aload_n S.1 S.2.1 dMod_writeAll_157 rfl (lv_at hl 0 rfl) ?_
          refine zr_get S hK hP (by decide) (mF_0 _) fMod_outcome q850 rfl dMod_writeAll_158 ?_
          refine lv_iload_n S.1 S.2.1 dMod_writeAll_161 rfl (lv_at hl 1 rfl) ?_
          obtain ⟨z162, hw⟩ := hw
          refine zr_ald S hK hP (by decide) (mF_17 _) 0 rfl z162 dMod_writeAll_162 ?_
          refine lv_iconst (v := 2) S.1 S.2.1 dMod_writeAll_163 (by decide) ?_
          refine lv_icmp_ne S.1 S.2.1 dMod_writeAll_164 rfl (fun hc => ?_) (fun hc => ?_)
          · have hw := hw.1 hc
            refine lv_bipush (v := 63) S.1 S.2.1 dMod_writeAll_172 (by decide) ?_
            exact J174 _ _ _ _ _ _ hw (lv_sub hl [0, 1] rfl) hP hS
          · have hw := hw.2 hc
            refine lv_bipush (v := 33) S.1 S.2.1 dMod_writeAll_167 (by decide) ?_
            refine lv_goto S.1 S.2.1 dMod_writeAll_169 rfl ?_
            exact J174 _ _ _ _ _ _ hw (lv_sub hl [0, 1] rfl) hP hS
        · have hw := hw.2 hc
          refine lv_bipush (v := 61) S.1 S.2.1 dMod_writeAll_152 (by decide) ?_
          refine lv_goto S.1 S.2.1 dMod_writeAll_154 rfl ?_
          exact J174 _ _ _ _ _ _ hw (lv_sub hl [0, 1] rfl) hP hS
      · have hw := hw.2 hc
        refine lv_aload_n S.1 S.2.1 dMod_writeAll_20 rfl (lv_at hl 0 rfl) ?_
        refine lv_bipush (v := 97) S.1 S.2.1 dMod_writeAll_21 (by decide) ?_
        refine lv_aload_n S.1 S.2.1 dMod_writeAll_23 rfl (lv_at hl 0 rfl) ?_
        refine zr_get S hK hP (by decide) (mF_0 _) fMod_op q840 rfl dMod_writeAll_24 ?_
        refine lv_iload_n S.1 S.2.1 dMod_writeAll_27 rfl (lv_at hl 2 rfl) ?_
        obtain ⟨z28, hw⟩ := hw
        refine zr_ald S hK hP (by decide) (mF_8 _) 0 rfl z28 dMod_writeAll_28 ?_
        refine lv_iadd S.1 S.2.1 dMod_writeAll_29 ?_
        refine zr_v (zr_V (As := [.int (97 + (h 8 (Int32.toNatClampNeg v2)))]) (rest := []) S hK hT hN hP hS (by decide) (mF_0 _) rfl (cMod_write l D cI cC cE ad A hJ _ _ _ hw) caMod_261 ⟨Nat.le_of_ble_eq_true rfl, Nat.le_of_ble_eq_true rfl⟩ ⟨rfl, rfl⟩ rfl hl.1 rfl (Nat.le_of_ble_eq_true rfl) dMod_writeAll_30) hS (fun h30 H locs hw hP hS => ?_)
        refine lv_aload_n S.1 S.2.1 dMod_writeAll_33 rfl (lv_at hl 0 rfl) ?_
        refine lv_bipush (v := 40) S.1 S.2.1 dMod_writeAll_34 (by decide) ?_
        refine zr_v (zr_V (As := [.int 40]) (rest := []) S hK hT hN hP hS (by decide) (mF_0 _) rfl (cMod_write l D cI cC cE ad A hJ _ _ _ hw) caMod_261 ⟨Nat.le_of_ble_eq_true rfl, Nat.le_of_ble_eq_true rfl⟩ ⟨rfl, rfl⟩ rfl hl.1 rfl (Nat.le_of_ble_eq_true rfl) dMod_writeAll_36) hS (fun h36 H locs hw hP hS => ?_)
        refine lv_iconst (v := 0) S.1 S.2.1 dMod_writeAll_39 (by decide) ?_
        refine lv_istore_n (lv' := [(3, .int 0), (0, .ref (ad 0)), (1, .int v1), (2, .int v2)]) S.1 S.2.1 dMod_writeAll_40 rfl hl (by decide) rfl (fun ls hl => ?_)
        obtain ⟨fu, hw⟩ := hw
        exact J41 fu _ _ _ _ _ _ _ hw (lv_sub hl [1, 2, 3, 0] rfl) hP hS
  unfold wpMod_writeAll at hw
  refine lv_aload_n S.1 S.2.1 dMod_writeAll_0 rfl (lv_at hl 0 rfl) ?_
  refine lv_iload_n S.1 S.2.1 dMod_writeAll_1 rfl (lv_at hl 1 rfl) ?_
  refine zr_v (zr_V (As := [.int x1]) (rest := []) S hK hT hN hP hS (by decide) (mF_0 _) rfl (cMod_load l D cI cC cE ad A hJ _ _ _ hw) caMod_194 ⟨Nat.le_of_ble_eq_true rfl, Nat.le_of_ble_eq_true rfl⟩ ⟨rfl, rfl⟩ rfl hl.1 rfl (Nat.le_of_ble_eq_true rfl) dMod_writeAll_2) hS (fun h2 H locs hw hP hS => ?_)
  refine lv_aload_n S.1 S.2.1 dMod_writeAll_5 rfl (lv_at hl 0 rfl) ?_
  refine lv_iconst (v := 0) S.1 S.2.1 dMod_writeAll_6 (by decide) ?_
  refine zr_put S hK hJ hP hS (by decide) (mF_0 _) fMod_written q867 rfl rfl (Nat.le_of_ble_eq_true rfl) (mF_0 _) dMod_writeAll_7 (fun h7 H locs e7 hP hS => ?_)
  have hw := hw h7 e7
  refine lv_iconst (v := 0) S.1 S.2.1 dMod_writeAll_10 (by decide) ?_
  refine lv_istore_n (lv' := [(2, .int 0), (0, .ref (ad 0)), (1, .int x1)]) S.1 S.2.1 dMod_writeAll_11 rfl hl (by decide) rfl (fun ls hl => ?_)
  obtain ⟨fu, hw⟩ := hw
  exact J12 fu _ _ _ _ _ _ hw (lv_sub hl [1, 2, 0] rfl) hP hS
/-! Mod.text -/
theorem dMod_text_0 : decode bMod_text 0 = .ok (.iload_n 1, 1) := by decide +kernel
theorem dMod_text_1 : decode bMod_text 1 = .ok (.ifCond .lt 16, 3) := by decide +kernel
theorem dMod_text_4 : decode bMod_text 4 = .ok (.iload_n 1, 1) := by decide +kernel
theorem dMod_text_5 : decode bMod_text 5 = .ok (.aload_n 0, 1) := by decide +kernel
theorem dMod_text_6 : decode bMod_text 6 = .ok (.getfield 191, 3) := by decide +kernel
theorem dMod_text_9 : decode bMod_text 9 = .ok (.if_icmp .ge 8, 3) := by decide +kernel
theorem dMod_text_12 : decode bMod_text 12 = .ok (.iload_n 2, 1) := by decide +kernel
theorem dMod_text_13 : decode bMod_text 13 = .ok (.iconst (-1), 1) := by decide +kernel
theorem dMod_text_14 : decode bMod_text 14 = .ok (.if_icmp .ge 6, 3) := by decide +kernel
theorem dMod_text_17 : decode bMod_text 17 = .ok (.bipush (-2), 2) := by decide +kernel
theorem dMod_text_19 : decode bMod_text 19 = .ok (.ireturn, 1) := by decide +kernel
theorem dMod_text_20 : decode bMod_text 20 = .ok (.aload_n 0, 1) := by decide +kernel
theorem dMod_text_21 : decode bMod_text 21 = .ok (.iload_n 1, 1) := by decide +kernel
theorem dMod_text_22 : decode bMod_text 22 = .ok (.invokevirtual 273, 3) := by decide +kernel
theorem dMod_text_25 : decode bMod_text 25 = .ok (.iload_n 2, 1) := by decide +kernel
theorem dMod_text_26 : decode bMod_text 26 = .ok (.iconst (-1), 1) := by decide +kernel
theorem dMod_text_27 : decode bMod_text 27 = .ok (.if_icmp .ne 10, 3) := by decide +kernel
theorem dMod_text_30 : decode bMod_text 30 = .ok (.aload_n 0, 1) := by decide +kernel
theorem dMod_text_31 : decode bMod_text 31 = .ok (.getfield 258, 3) := by decide +kernel
theorem dMod_text_34 : decode bMod_text 34 = .ok (.goto 22, 3) := by decide +kernel
theorem dMod_text_37 : decode bMod_text 37 = .ok (.iload_n 2, 1) := by decide +kernel
theorem dMod_text_38 : decode bMod_text 38 = .ok (.aload_n 0, 1) := by decide +kernel
theorem dMod_text_39 : decode bMod_text 39 = .ok (.getfield 258, 3) := by decide +kernel
theorem dMod_text_42 : decode bMod_text 42 = .ok (.if_icmp .ge 12, 3) := by decide +kernel
theorem dMod_text_45 : decode bMod_text 45 = .ok (.aload_n 0, 1) := by decide +kernel
theorem dMod_text_46 : decode bMod_text 46 = .ok (.getfield 92, 3) := by decide +kernel
theorem dMod_text_49 : decode bMod_text 49 = .ok (.iload_n 2, 1) := by decide +kernel
theorem dMod_text_50 : decode bMod_text 50 = .ok (.iaload, 1) := by decide +kernel
theorem dMod_text_51 : decode bMod_text 51 = .ok (.goto 5, 3) := by decide +kernel
theorem dMod_text_54 : decode bMod_text 54 = .ok (.bipush (-2), 2) := by decide +kernel
theorem dMod_text_56 : decode bMod_text 56 = .ok (.ireturn, 1) := by decide +kernel
def wpMod_text (x1 : Int32) (x2 : Int32) (h : zM) (post : Int32 → zM → Prop) : Prop := (((x1 < 0) → post (-2) h) ∧ (¬ (x1 < 0) → ((((h 0 17) ≤ x1) → post (-2) h) ∧ (¬ ((h 0 17) ≤ x1) → ((((-1) ≤ x2) → wpMod_writeAll x1 h (fun h22 => ((¬ x2 = (-1) → ((((h22 0 39) ≤ x2) → post (-2) h22) ∧ (¬ ((h22 0 39) ≤ x2) → (vp_in x2 300 ∧ post (h22 27 (Int32.toNatClampNeg x2)) h22)))) ∧ (x2 = (-1) → post (h22 0 39) h22)))) ∧ (¬ ((-1) ≤ x2) → post (-2) h))))))
abbrev rmMod_text : Room := { frames := 5, cells := 0, slots := 0, locals := 119 }
set_option maxHeartbeats 4000000 in
set_option maxRecDepth 100000 in
theorem cMod_text (l : Launch) (D : va_G) (cI cC cE : ClassId) (ad : Nat → Nat) (A : Nat → Prop) (hJ : zJ A 28 ad) (x1 : Int32) (x2 : Int32) (h : zM) (post : Int32 → zM → Prop) (hw : wpMod_text x1 x2 h post) : Met l yMod_text (.code yMod_text bMod_text 3 (some .int) :: zt) rmMod_text (va_Pc [.ref (ad 0), .int x1, .int x2] (zPre D (zty cI cC cE) 28 ad (mF ad cI) A h)) (va_Qi post (zPst D (zty cI cC cE) 28 ad (mF ad cI)) A) 0 0 A := by
  refine Met.ofW (cc := bMod_text) (maxL := 3) (ret := (some .int)) (by decide) rfl ?_
  intro p e s m args below meth c s₁ B hml hv
  obtain ⟨rfl, hP, hK, hT, hN⟩ := hv
  have hr := B.returns
  have hlk := B.notSynchronized
  have S : zS p m c bMod_text 3 s _ "CallExplorerModel" := ⟨B.exec, B.bytes, hml, findClass_of_methodNamed B.named, fun w hw => atoms_spec (ws := .code yMod_text bMod_text 3 (some .int) :: zt) B.pre w (List.mem_cons_of_mem _ hw)⟩
  have hS : va_S A s.heap s.heap [] := va_S.rf
  have hl := lv_entry ([.ref (ad 0), .int x1, .int x2]) (n := 3) (Nat.le_of_ble_eq_true rfl)
  rw [lg_entry_eq]
  generalize (lg_sl ([.ref (ad 0), .int x1, .int x2]) ++ List.replicate (3 - (lg_sl ([.ref (ad 0), .int x1, .int x2])).length) Slot.unset).toArray = ls at hl ⊢
  have hl : lv_has ls 3 [(0, .ref (ad 0)), (1, .int x1), (2, .int x2)] := hl
  show W p l e rmMod_text s m ([.ref (ad 0), .int x1, .int x2] : List Value).toArray below meth c s.heap [] 0 0 (zQi post D (zty cI cC cE) 28 ad (mF ad cI) A below ([.ref (ad 0), .int x1, .int x2] : List Value).toArray s) _
  unfold wpMod_text at hw
  refine lv_iload_n S.1 S.2.1 dMod_text_0 rfl (lv_at hl 1 rfl) ?_
  refine lv_if_lt S.1 S.2.1 dMod_text_1 rfl (fun hc => ?_) (fun hc => ?_)
  · have hw := hw.1 hc
    refine lv_bipush (v := (-2)) S.1 S.2.1 dMod_text_17 (by decide) ?_
    exact zr_iret S hr hlk hK hP hS rfl hw dMod_text_19
  · have hw := hw.2 hc
    refine lv_iload_n S.1 S.2.1 dMod_text_4 rfl (lv_at hl 1 rfl) ?_
    refine lv_aload_n S.1 S.2.1 dMod_text_5 rfl (lv_at hl 0 rfl) ?_
    refine zr_get S hK hP (by decide) (mF_0 _) fMod_entries q845 rfl dMod_text_6 ?_
    refine lv_icmp_ge S.1 S.2.1 dMod_text_9 rfl (fun hc => ?_) (fun hc => ?_)
    · have hw := hw.1 hc
      refine lv_bipush (v := (-2)) S.1 S.2.1 dMod_text_17 (by decide) ?_
      exact zr_iret S hr hlk hK hP hS rfl hw dMod_text_19
    · have hw := hw.2 hc
      refine lv_iload_n S.1 S.2.1 dMod_text_12 rfl (lv_at hl 2 rfl) ?_
      refine lv_iconst (v := (-1)) S.1 S.2.1 dMod_text_13 (by decide) ?_
      refine lv_icmp_ge S.1 S.2.1 dMod_text_14 rfl (fun hc => ?_) (fun hc => ?_)
      · have hw := hw.1 hc
        refine lv_aload_n S.1 S.2.1 dMod_text_20 rfl (lv_at hl 0 rfl) ?_
        refine lv_iload_n S.1 S.2.1 dMod_text_21 rfl (lv_at hl 1 rfl) ?_
        refine zr_v (zr_V (As := [.int x1]) (rest := []) S hK hT hN hP hS (by decide) (mF_0 _) rfl (cMod_writeAll l D cI cC cE ad A hJ _ _ _ hw) caMod_273 ⟨Nat.le_of_ble_eq_true rfl, Nat.le_of_ble_eq_true rfl⟩ ⟨rfl, rfl⟩ rfl hl.1 rfl (Nat.le_of_ble_eq_true rfl) dMod_text_22) hS (fun h22 H locs hw hP hS => ?_)
        refine lv_iload_n S.1 S.2.1 dMod_text_25 rfl (lv_at hl 2 rfl) ?_
        refine lv_iconst (v := (-1)) S.1 S.2.1 dMod_text_26 (by decide) ?_
        refine lv_icmp_ne S.1 S.2.1 dMod_text_27 rfl (fun hc => ?_) (fun hc => ?_)
        · have hw := hw.1 hc
          refine lv_iload_n S.1 S.2.1 dMod_text_37 rfl (lv_at hl 2 rfl) ?_
          refine lv_aload_n S.1 S.2.1 dMod_text_38 rfl (lv_at hl 0 rfl) ?_
          refine zr_get S hK hP (by decide) (mF_0 _) fMod_written q867 rfl dMod_text_39 ?_
          refine lv_icmp_ge S.1 S.2.1 dMod_text_42 rfl (fun hc => ?_) (fun hc => ?_)
          · have hw := hw.1 hc
            refine lv_bipush (v := (-2)) S.1 S.2.1 dMod_text_54 (by decide) ?_
            exact zr_iret S hr hlk hK hP hS rfl hw dMod_text_56
          · have hw := hw.2 hc
            refine lv_aload_n S.1 S.2.1 dMod_text_45 rfl (lv_at hl 0 rfl) ?_
            refine zr_get S hK hP (by decide) (mF_0 _) fMod_text q868 rfl dMod_text_46 ?_
            refine lv_iload_n S.1 S.2.1 dMod_text_49 rfl (lv_at hl 2 rfl) ?_
            obtain ⟨z50, hw⟩ := hw
            refine zr_ald S hK hP (by decide) (mF_27 _) 0 rfl z50 dMod_text_50 ?_
            refine lv_goto S.1 S.2.1 dMod_text_51 rfl ?_
            exact zr_iret S hr hlk hK hP hS rfl hw dMod_text_56
        · have hw := hw.2 hc
          refine lv_aload_n S.1 S.2.1 dMod_text_30 rfl (lv_at hl 0 rfl) ?_
          refine zr_get S hK hP (by decide) (mF_0 _) fMod_written q867 rfl dMod_text_31 ?_
          refine lv_goto S.1 S.2.1 dMod_text_34 rfl ?_
          exact zr_iret S hr hlk hK hP hS rfl hw dMod_text_56
      · have hw := hw.2 hc
        refine lv_bipush (v := (-2)) S.1 S.2.1 dMod_text_17 (by decide) ?_
        exact zr_iret S hr hlk hK hP hS rfl hw dMod_text_19
/-! Mod.draft -/
theorem dMod_draft_0 : decode bMod_draft 0 = .ok (.lload_n 1, 1) := by decide +kernel
theorem dMod_draft_1 : decode bMod_draft 1 = .ok (.lconst 0, 1) := by decide +kernel
theorem dMod_draft_2 : decode bMod_draft 2 = .ok (.lcmp, 1) := by decide +kernel
theorem dMod_draft_3 : decode bMod_draft 3 = .ok (.ifCond .ne 10, 3) := by decide +kernel
theorem dMod_draft_6 : decode bMod_draft 6 = .ok (.aload_n 0, 1) := by decide +kernel
theorem dMod_draft_7 : decode bMod_draft 7 = .ok (.iconst 0, 1) := by decide +kernel
theorem dMod_draft_8 : decode bMod_draft 8 = .ok (.putfield 276, 3) := by decide +kernel
theorem dMod_draft_11 : decode bMod_draft 11 = .ok (.iconst 1, 1) := by decide +kernel
theorem dMod_draft_12 : decode bMod_draft 12 = .ok (.ireturn, 1) := by decide +kernel
theorem dMod_draft_13 : decode bMod_draft 13 = .ok (.iconst 0, 1) := by decide +kernel
theorem dMod_draft_14 : decode bMod_draft 14 = .ok (.istore_n 3, 1) := by decide +kernel
theorem dMod_draft_15 : decode bMod_draft 15 = .ok (.iconst 1, 1) := by decide +kernel
theorem dMod_draft_16 : decode bMod_draft 16 = .ok (.istore 4, 2) := by decide +kernel
theorem dMod_draft_18 : decode bMod_draft 18 = .ok (.iload_n 3, 1) := by decide +kernel
theorem dMod_draft_19 : decode bMod_draft 19 = .ok (.bipush 8, 2) := by decide +kernel
theorem dMod_draft_21 : decode bMod_draft 21 = .ok (.if_icmp .ge 63, 3) := by decide +kernel
theorem dMod_draft_24 : decode bMod_draft 24 = .ok (.lload_n 1, 1) := by decide +kernel
theorem dMod_draft_25 : decode bMod_draft 25 = .ok (.bipush 8, 2) := by decide +kernel
theorem dMod_draft_27 : decode bMod_draft 27 = .ok (.iload_n 3, 1) := by decide +kernel
theorem dMod_draft_28 : decode bMod_draft 28 = .ok (.imul, 1) := by decide +kernel
theorem dMod_draft_29 : decode bMod_draft 29 = .ok (.lushr, 1) := by decide +kernel
theorem dMod_draft_30 : decode bMod_draft 30 = .ok (.ldc2_w 279, 3) := by decide +kernel
theorem dMod_draft_33 : decode bMod_draft 33 = .ok (.land, 1) := by decide +kernel
theorem dMod_draft_34 : decode bMod_draft 34 = .ok (.lconst 0, 1) := by decide +kernel
theorem dMod_draft_35 : decode bMod_draft 35 = .ok (.lcmp, 1) := by decide +kernel
theorem dMod_draft_36 : decode bMod_draft 36 = .ok (.ifCond .eq 48, 3) := by decide +kernel
theorem dMod_draft_39 : decode bMod_draft 39 = .ok (.lload_n 1, 1) := by decide +kernel
theorem dMod_draft_40 : decode bMod_draft 40 = .ok (.bipush 8, 2) := by decide +kernel
theorem dMod_draft_42 : decode bMod_draft 42 = .ok (.iload_n 3, 1) := by decide +kernel
theorem dMod_draft_43 : decode bMod_draft 43 = .ok (.imul, 1) := by decide +kernel
theorem dMod_draft_44 : decode bMod_draft 44 = .ok (.lushr, 1) := by decide +kernel
theorem dMod_draft_45 : decode bMod_draft 45 = .ok (.ldc2_w 279, 3) := by decide +kernel
theorem dMod_draft_48 : decode bMod_draft 48 = .ok (.land, 1) := by decide +kernel
theorem dMod_draft_49 : decode bMod_draft 49 = .ok (.l2i, 1) := by decide +kernel
theorem dMod_draft_50 : decode bMod_draft 50 = .ok (.istore 5, 2) := by decide +kernel
theorem dMod_draft_52 : decode bMod_draft 52 = .ok (.iload 4, 2) := by decide +kernel
theorem dMod_draft_54 : decode bMod_draft 54 = .ok (.ifCond .eq 21, 3) := by decide +kernel
theorem dMod_draft_57 : decode bMod_draft 57 = .ok (.iload 5, 2) := by decide +kernel
theorem dMod_draft_59 : decode bMod_draft 59 = .ok (.bipush 32, 2) := by decide +kernel
theorem dMod_draft_61 : decode bMod_draft 61 = .ok (.if_icmp .lt 14, 3) := by decide +kernel
theorem dMod_draft_64 : decode bMod_draft 64 = .ok (.iload 5, 2) := by decide +kernel
theorem dMod_draft_66 : decode bMod_draft 66 = .ok (.bipush 126, 2) := by decide +kernel
theorem dMod_draft_68 : decode bMod_draft 68 = .ok (.if_icmp .gt 7, 3) := by decide +kernel
theorem dMod_draft_71 : decode bMod_draft 71 = .ok (.iconst 1, 1) := by decide +kernel
theorem dMod_draft_72 : decode bMod_draft 72 = .ok (.goto 4, 3) := by decide +kernel
theorem dMod_draft_75 : decode bMod_draft 75 = .ok (.iconst 0, 1) := by decide +kernel
theorem dMod_draft_76 : decode bMod_draft 76 = .ok (.istore 4, 2) := by decide +kernel
theorem dMod_draft_78 : decode bMod_draft 78 = .ok (.iinc 3 1, 3) := by decide +kernel
theorem dMod_draft_81 : decode bMod_draft 81 = .ok (.goto (-63), 3) := by decide +kernel
theorem dMod_draft_84 : decode bMod_draft 84 = .ok (.iload_n 3, 1) := by decide +kernel
theorem dMod_draft_85 : decode bMod_draft 85 = .ok (.ifCond .eq 20, 3) := by decide +kernel
theorem dMod_draft_88 : decode bMod_draft 88 = .ok (.iload 4, 2) := by decide +kernel
theorem dMod_draft_90 : decode bMod_draft 90 = .ok (.ifCond .eq 15, 3) := by decide +kernel
theorem dMod_draft_93 : decode bMod_draft 93 = .ok (.aload_n 0, 1) := by decide +kernel
theorem dMod_draft_94 : decode bMod_draft 94 = .ok (.getfield 276, 3) := by decide +kernel
theorem dMod_draft_97 : decode bMod_draft 97 = .ok (.iload_n 3, 1) := by decide +kernel
theorem dMod_draft_98 : decode bMod_draft 98 = .ok (.iadd, 1) := by decide +kernel
theorem dMod_draft_99 : decode bMod_draft 99 = .ok (.sipush 200, 3) := by decide +kernel
theorem dMod_draft_102 : decode bMod_draft 102 = .ok (.if_icmp .le 5, 3) := by decide +kernel
theorem dMod_draft_105 : decode bMod_draft 105 = .ok (.iconst 0, 1) := by decide +kernel
theorem dMod_draft_106 : decode bMod_draft 106 = .ok (.ireturn, 1) := by decide +kernel
theorem dMod_draft_107 : decode bMod_draft 107 = .ok (.iconst 0, 1) := by decide +kernel
theorem dMod_draft_108 : decode bMod_draft 108 = .ok (.istore 5, 2) := by decide +kernel
theorem dMod_draft_110 : decode bMod_draft 110 = .ok (.iload 5, 2) := by decide +kernel
theorem dMod_draft_112 : decode bMod_draft 112 = .ok (.iload_n 3, 1) := by decide +kernel
theorem dMod_draft_113 : decode bMod_draft 113 = .ok (.if_icmp .ge 40, 3) := by decide +kernel
theorem dMod_draft_116 : decode bMod_draft 116 = .ok (.aload_n 0, 1) := by decide +kernel
theorem dMod_draft_117 : decode bMod_draft 117 = .ok (.getfield 89, 3) := by decide +kernel
theorem dMod_draft_120 : decode bMod_draft 120 = .ok (.aload_n 0, 1) := by decide +kernel
theorem dMod_draft_121 : decode bMod_draft 121 = .ok (.getfield 276, 3) := by decide +kernel
theorem dMod_draft_124 : decode bMod_draft 124 = .ok (.lload_n 1, 1) := by decide +kernel
theorem dMod_draft_125 : decode bMod_draft 125 = .ok (.bipush 8, 2) := by decide +kernel
theorem dMod_draft_127 : decode bMod_draft 127 = .ok (.iload 5, 2) := by decide +kernel
theorem dMod_draft_129 : decode bMod_draft 129 = .ok (.imul, 1) := by decide +kernel
theorem dMod_draft_130 : decode bMod_draft 130 = .ok (.lushr, 1) := by decide +kernel
theorem dMod_draft_131 : decode bMod_draft 131 = .ok (.ldc2_w 279, 3) := by decide +kernel
theorem dMod_draft_134 : decode bMod_draft 134 = .ok (.land, 1) := by decide +kernel
theorem dMod_draft_135 : decode bMod_draft 135 = .ok (.l2i, 1) := by decide +kernel
theorem dMod_draft_136 : decode bMod_draft 136 = .ok (.iastore, 1) := by decide +kernel
theorem dMod_draft_137 : decode bMod_draft 137 = .ok (.aload_n 0, 1) := by decide +kernel
theorem dMod_draft_138 : decode bMod_draft 138 = .ok (.dup, 1) := by decide +kernel
theorem dMod_draft_139 : decode bMod_draft 139 = .ok (.getfield 276, 3) := by decide +kernel
theorem dMod_draft_142 : decode bMod_draft 142 = .ok (.iconst 1, 1) := by decide +kernel
theorem dMod_draft_143 : decode bMod_draft 143 = .ok (.iadd, 1) := by decide +kernel
theorem dMod_draft_144 : decode bMod_draft 144 = .ok (.putfield 276, 3) := by decide +kernel
theorem dMod_draft_147 : decode bMod_draft 147 = .ok (.iinc 5 1, 3) := by decide +kernel
theorem dMod_draft_150 : decode bMod_draft 150 = .ok (.goto (-40), 3) := by decide +kernel
theorem dMod_draft_153 : decode bMod_draft 153 = .ok (.iconst 1, 1) := by decide +kernel
theorem dMod_draft_154 : decode bMod_draft 154 = .ok (.ireturn, 1) := by decide +kernel
def stMod_draft_110 (post : Int32 → zM → Prop) (L110 : (Int64 × Int32 × Int32 × zM) → Prop) : (Int64 × Int32 × Int32 × zM) → Prop := fun s => match s with
  | (u1, v3, v5, h) => (((v3 ≤ v5) → post 1 h) ∧ (¬ (v3 ≤ v5) → (vp_in (h 0 37) 200 ∧ ∀ h136 : zM, h136 = zu h 26 (Int32.toNatClampNeg (h 0 37)) (Int64.toInt32 (((Int64.toUInt64 u1 >>> ((Int32.toInt64 (8 * v5)).toUInt64 &&& Int64.toUInt64 63)).toInt64) &&& 255)) → ∀ h144 : zM, h144 = zu h136 0 37 ((h136 0 37) + 1) → L110 (u1, v3, (v5 + 1), h144))))
def wbMod_draft_84 (post : Int32 → zM → Prop) (u1 : Int64) (v3 : Int32) (v4 : Int32) (h : zM) : Prop := ((v3 = 0 → post 0 h) ∧ (¬ v3 = 0 → ((v4 = 0 → post 0 h) ∧ (¬ v4 = 0 → (((((h 0 37) + v3) ≤ 200) → zL (stMod_draft_110 post) (u1, v3, 0, h)) ∧ (¬ (((h 0 37) + v3) ≤ 200) → post 0 h))))))
def wbMod_draft_76 (post : Int32 → zM → Prop) (L18 : (Int64 × Int32 × Int32 × zM) → Prop) (u1 : Int64) (v3 : Int32) (k0 : Int32) (h : zM) : Prop := L18 (u1, (v3 + 1), k0, h)
def wbMod_draft_75 (post : Int32 → zM → Prop) (L18 : (Int64 × Int32 × Int32 × zM) → Prop) (u1 : Int64) (v3 : Int32) (h : zM) : Prop := wbMod_draft_76 post L18 u1 v3 0 h
def stMod_draft_18 (post : Int32 → zM → Prop) (L18 : (Int64 × Int32 × Int32 × zM) → Prop) : (Int64 × Int32 × Int32 × zM) → Prop := fun s => match s with
  | (u1, v3, v4, h) => (((8 ≤ v3) → wbMod_draft_84 post u1 v3 v4 h) ∧ (¬ (8 ≤ v3) → (((lg_cmp (((Int64.toUInt64 u1 >>> ((Int32.toInt64 (8 * v3)).toUInt64 &&& Int64.toUInt64 63)).toInt64) &&& 255) 0) = 0 → wbMod_draft_84 post u1 v3 v4 h) ∧ (¬ (lg_cmp (((Int64.toUInt64 u1 >>> ((Int32.toInt64 (8 * v3)).toUInt64 &&& Int64.toUInt64 63)).toInt64) &&& 255) 0) = 0 → ∀ y50 : Int32, y50 = (Int64.toInt32 (((Int64.toUInt64 u1 >>> ((Int32.toInt64 (8 * v3)).toUInt64 &&& Int64.toUInt64 63)).toInt64) &&& 255)) → ((v4 = 0 → wbMod_draft_75 post L18 u1 v3 h) ∧ (¬ v4 = 0 → (((y50 < 32) → wbMod_draft_75 post L18 u1 v3 h) ∧ (¬ (y50 < 32) → (((126 < y50) → wbMod_draft_75 post L18 u1 v3 h) ∧ (¬ (126 < y50) → wbMod_draft_76 post L18 u1 v3 1 h))))))))))
def wpMod_draft (w1 : Int64) (h : zM) (post : Int32 → zM → Prop) : Prop := ((¬ (lg_cmp w1 0) = 0 → zL (stMod_draft_18 post) (w1, 0, 1, h)) ∧ ((lg_cmp w1 0) = 0 → ∀ h8 : zM, h8 = zu h 0 37 0 → post 1 h8))
abbrev rmMod_draft : Room := { frames := 0, cells := 0, slots := 0, locals := 0 }
set_option maxHeartbeats 4000000 in
set_option maxRecDepth 100000 in
theorem cMod_draft (l : Launch) (D : va_G) (cI cC cE : ClassId) (ad : Nat → Nat) (A : Nat → Prop) (hJ : zJ A 28 ad) (w1 : Int64) (h : zM) (post : Int32 → zM → Prop) (hw : wpMod_draft w1 h post) : Met l yMod_draft (.code yMod_draft bMod_draft 6 (some .boolean) :: zt) rmMod_draft (va_Pc [.ref (ad 0), .long w1] (zPre D (zty cI cC cE) 28 ad (mF ad cI) A h)) (va_Qi post (zPst D (zty cI cC cE) 28 ad (mF ad cI)) A) 0 0 A := by
  refine Met.ofW (cc := bMod_draft) (maxL := 6) (ret := (some .boolean)) (by decide) rfl ?_
  intro p e s m args below meth c s₁ B hml hv
  obtain ⟨rfl, hP, hK, hT, hN⟩ := hv
  have hr := B.returns
  have hlk := B.notSynchronized
  have S : zS p m c bMod_draft 6 s _ "CallExplorerModel" := ⟨B.exec, B.bytes, hml, findClass_of_methodNamed B.named, fun w hw => atoms_spec (ws := .code yMod_draft bMod_draft 6 (some .boolean) :: zt) B.pre w (List.mem_cons_of_mem _ hw)⟩
  have hS : va_S A s.heap s.heap [] := va_S.rf
  have hl := lv_entry ([.ref (ad 0), .long w1]) (n := 6) (Nat.le_of_ble_eq_true rfl)
  rw [lg_entry_eq]
  generalize (lg_sl ([.ref (ad 0), .long w1]) ++ List.replicate (6 - (lg_sl ([.ref (ad 0), .long w1])).length) Slot.unset).toArray = ls at hl ⊢
  have hl : lv_has ls 6 [(0, .ref (ad 0)), (1, .long w1)] := hl
  show W p l e rmMod_draft s m ([.ref (ad 0), .long w1] : List Value).toArray below meth c s.heap [] 0 0 (zQi post D (zty cI cC cE) 28 ad (mF ad cI) A below ([.ref (ad 0), .long w1] : List Value).toArray s) _
  have J110 : ∀ (fu : Nat) (u1 : Int64) (v3 : Int32) (v5 : Int32) (h : zM) (H : Heap) (locs : List Loc) (ls : Array Slot), zl (stMod_draft_110 post) fu (u1, v3, v5, h) → lv_has ls 6 [(0, .ref (ad 0)), (1, .long u1), (3, .int v3), (5, .int v5)] → va_P D zcl (zW 28 ad (mF ad cI) h) H → va_S A s.heap H locs → W p l e rmMod_draft s m ([.ref (ad 0), .long w1] : List Value).toArray below meth c H locs 0 0 (zQi post D (zty cI cC cE) 28 ad (mF ad cI) A below ([.ref (ad 0), .long w1] : List Value).toArray s) (F0 m 110 ls []) := by
    intro fu110
    induction fu110 with
    | zero =>
      intro u1 v3 v5 h H locs ls hw
      exact (zl_0 hw).elim
    | succ fu110 ih110 =>
      intro u1 v3 v5 h H locs ls hw hl hP hS
      have hw := zl_s hw
      generalize zl (stMod_draft_110 post) fu110 = L110 at hw ih110
      unfold stMod_draft_110 at hw
      dsimp only at hw
      refine lv_iload S.1 S.2.1 dMod_draft_110 (lv_at hl 3 rfl) ?_
      refine lv_iload_n S.1 S.2.1 dMod_draft_112 rfl (lv_at hl 2 rfl) ?_
      refine lv_icmp_ge S.1 S.2.1 dMod_draft_113 rfl (fun hc => ?_) (fun hc => ?_)
      · have hw := hw.1 hc
        refine lv_iconst (v := 1) S.1 S.2.1 dMod_draft_153 (by decide) ?_
        exact zr_iret S hr hlk hK hP hS rfl hw dMod_draft_154
      · have hw := hw.2 hc
        refine lv_aload_n S.1 S.2.1 dMod_draft_116 rfl (lv_at hl 0 rfl) ?_
        refine zr_get S hK hP (by decide) (mF_0 _) fMod_draft q866 rfl dMod_draft_117 ?_
        refine lv_aload_n S.1 S.2.1 dMod_draft_120 rfl (lv_at hl 0 rfl) ?_
        refine zr_get S hK hP (by decide) (mF_0 _) fMod_drafted q865 rfl dMod_draft_121 ?_
        refine lv_lload_n S.1 S.2.1 dMod_draft_124 rfl (lv_at hl 1 rfl) ?_
        refine lv_bipush (v := 8) S.1 S.2.1 dMod_draft_125 (by decide) ?_
        refine lv_iload S.1 S.2.1 dMod_draft_127 (lv_at hl 3 rfl) ?_
        refine lv_imul S.1 S.2.1 dMod_draft_129 ?_
        refine lv_lushr S.1 S.2.1 dMod_draft_130 rfl ?_
        refine lv_ldc2 (v := 255) S.1 S.2.1 S.2.2.2.1 (S.2.2.2.2 _ q1166) dMod_draft_131 ?_
        refine lv_land S.1 S.2.1 dMod_draft_134 ?_
        refine lv_l2i S.1 S.2.1 dMod_draft_135 rfl ?_
        obtain ⟨z136, hw⟩ := hw
        refine zr_ast S hK hJ hP hS (by decide) mF_26 0 rfl z136 dMod_draft_136 (fun h136 H locs e136 hP hS => ?_)
        have hw := hw h136 e136
        refine lv_aload_n S.1 S.2.1 dMod_draft_137 rfl (lv_at hl 0 rfl) ?_
        refine lv_dup S.1 S.2.1 dMod_draft_138 rfl ?_
        refine zr_get S hK hP (by decide) (mF_0 _) fMod_drafted q865 rfl dMod_draft_139 ?_
        refine lv_iconst (v := 1) S.1 S.2.1 dMod_draft_142 (by decide) ?_
        refine lv_iadd S.1 S.2.1 dMod_draft_143 ?_
        refine zr_put S hK hJ hP hS (by decide) (mF_0 _) fMod_drafted q865 rfl rfl (Nat.le_of_ble_eq_true rfl) (mF_0 _) dMod_draft_144 (fun h144 H locs e144 hP hS => ?_)
        have hw := hw h144 e144
        refine lv_iinc (v := (v5 + 1)) (lv' := [(5, .int (v5 + 1)), (0, .ref (ad 0)), (1, .long u1), (3, .int v3)]) (k := 3) S.1 S.2.1 dMod_draft_147 hl rfl rfl (by decide) rfl (fun ls hl => ?_)
        refine lv_goto S.1 S.2.1 dMod_draft_150 rfl ?_
        exact ih110 _ _ _ _ _ _ _ hw (lv_sub hl [1, 2, 3, 0] rfl) hP hS
  have J84 : ∀ (u1 : Int64) (v3 : Int32) (v4 : Int32) (h : zM) (H : Heap) (locs : List Loc) (ls : Array Slot), wbMod_draft_84 post u1 v3 v4 h → lv_has ls 6 [(0, .ref (ad 0)), (1, .long u1), (3, .int v3), (4, .int v4)] → va_P D zcl (zW 28 ad (mF ad cI) h) H → va_S A s.heap H locs → W p l e rmMod_draft s m ([.ref (ad 0), .long w1] : List Value).toArray below meth c H locs 0 0 (zQi post D (zty cI cC cE) 28 ad (mF ad cI) A below ([.ref (ad 0), .long w1] : List Value).toArray s) (F0 m 84 ls []) := by
    intro u1 v3 v4 h H locs ls hw hl hP hS
    unfold wbMod_draft_84 at hw
    refine lv_iload_n S.1 S.2.1 dMod_draft_84 rfl (lv_at hl 2 rfl) ?_
    refine lv_if_eq S.1 S.2.1 dMod_draft_85 rfl (fun hc => ?_) (fun hc => ?_)
    · have hw := hw.1 hc
      refine lv_iconst (v := 0) S.1 S.2.1 dMod_draft_105 (by decide) ?_
      exact zr_iret S hr hlk hK hP hS rfl hw dMod_draft_106
    · have hw := hw.2 hc
      refine lv_iload S.1 S.2.1 dMod_draft_88 (lv_at hl 3 rfl) ?_
      refine lv_if_eq S.1 S.2.1 dMod_draft_90 rfl (fun hc => ?_) (fun hc => ?_)
      · have hw := hw.1 hc
        refine lv_iconst (v := 0) S.1 S.2.1 dMod_draft_105 (by decide) ?_
        exact zr_iret S hr hlk hK hP hS rfl hw dMod_draft_106
      · have hw := hw.2 hc
        refine lv_aload_n S.1 S.2.1 dMod_draft_93 rfl (lv_at hl 0 rfl) ?_
        refine zr_get S hK hP (by decide) (mF_0 _) fMod_drafted q865 rfl dMod_draft_94 ?_
        refine lv_iload_n S.1 S.2.1 dMod_draft_97 rfl (lv_at hl 2 rfl) ?_
        refine lv_iadd S.1 S.2.1 dMod_draft_98 ?_
        refine lv_sipush (v := 200) S.1 S.2.1 dMod_draft_99 (by decide) ?_
        refine lv_icmp_le S.1 S.2.1 dMod_draft_102 rfl (fun hc => ?_) (fun hc => ?_)
        · have hw := hw.1 hc
          refine lv_iconst (v := 0) S.1 S.2.1 dMod_draft_107 (by decide) ?_
          refine lv_istore (lv' := [(5, .int 0), (0, .ref (ad 0)), (1, .long u1), (3, .int v3), (4, .int v4)]) S.1 S.2.1 dMod_draft_108 hl (by decide) rfl (fun ls hl => ?_)
          obtain ⟨fu, hw⟩ := hw
          exact J110 fu _ _ _ _ _ _ _ hw (lv_sub hl [1, 2, 3, 0] rfl) hP hS
        · have hw := hw.2 hc
          refine lv_iconst (v := 0) S.1 S.2.1 dMod_draft_105 (by decide) ?_
          exact zr_iret S hr hlk hK hP hS rfl hw dMod_draft_106
  have J18 : ∀ (fu : Nat) (u1 : Int64) (v3 : Int32) (v4 : Int32) (h : zM) (H : Heap) (locs : List Loc) (ls : Array Slot), zl (stMod_draft_18 post) fu (u1, v3, v4, h) → lv_has ls 6 [(0, .ref (ad 0)), (1, .long u1), (3, .int v3), (4, .int v4)] → va_P D zcl (zW 28 ad (mF ad cI) h) H → va_S A s.heap H locs → W p l e rmMod_draft s m ([.ref (ad 0), .long w1] : List Value).toArray below meth c H locs 0 0 (zQi post D (zty cI cC cE) 28 ad (mF ad cI) A below ([.ref (ad 0), .long w1] : List Value).toArray s) (F0 m 18 ls []) := by
    intro fu18
    induction fu18 with
    | zero =>
      intro u1 v3 v4 h H locs ls hw
      exact (zl_0 hw).elim
    | succ fu18 ih18 =>
      intro u1 v3 v4 h H locs ls hw hl hP hS
      have hw := zl_s hw
      generalize zl (stMod_draft_18 post) fu18 = L18 at hw ih18
      have J76 : ∀ (u1 : Int64) (v3 : Int32) (k0 : Int32) (h : zM) (H : Heap) (locs : List Loc) (ls : Array Slot), wbMod_draft_76 post L18 u1 v3 k0 h → lv_has ls 6 [(0, .ref (ad 0)), (1, .long u1), (3, .int v3)] → va_P D zcl (zW 28 ad (mF ad cI) h) H → va_S A s.heap H locs → W p l e rmMod_draft s m ([.ref (ad 0), .long w1] : List Value).toArray below meth c H locs 0 0 (zQi post D (zty cI cC cE) 28 ad (mF ad cI) A below ([.ref (ad 0), .long w1] : List Value).toArray s) (F0 m 76 ls [.int k0]) := by
        intro u1 v3 k0 h H locs ls hw hl hP hS
        unfold wbMod_draft_76 at hw
        refine lv_istore (lv' := [(4, .int k0), (0, .ref (ad 0)), (1, .long u1), (3, .int v3)]) S.1 S.2.1 dMod_draft_76 hl (by decide) rfl (fun ls hl => ?_)
        refine lv_iinc (v := (v3 + 1)) (lv' := [(3, .int (v3 + 1)), (4, .int k0), (0, .ref (ad 0)), (1, .long u1)]) (k := 3) S.1 S.2.1 dMod_draft_78 hl rfl rfl (by decide) rfl (fun ls hl => ?_)
        refine lv_goto S.1 S.2.1 dMod_draft_81 rfl ?_
        exact ih18 _ _ _ _ _ _ _ hw (lv_sub hl [2, 3, 0, 1] rfl) hP hS
      have J75 : ∀ (u1 : Int64) (v3 : Int32) (h : zM) (H : Heap) (locs : List Loc) (ls : Array Slot), wbMod_draft_75 post L18 u1 v3 h → lv_has ls 6 [(0, .ref (ad 0)), (1, .long u1), (3, .int v3)] → va_P D zcl (zW 28 ad (mF ad cI) h) H → va_S A s.heap H locs → W p l e rmMod_draft s m ([.ref (ad 0), .long w1] : List Value).toArray below meth c H locs 0 0 (zQi post D (zty cI cC cE) 28 ad (mF ad cI) A below ([.ref (ad 0), .long w1] : List Value).toArray s) (F0 m 75 ls []) := by
        intro u1 v3 h H locs ls hw hl hP hS
        unfold wbMod_draft_75 at hw
        refine lv_iconst (v := 0) S.1 S.2.1 dMod_draft_75 (by decide) ?_
        exact J76 _ _ _ _ _ _ _ hw (lv_sub hl [0, 1, 2] rfl) hP hS
      unfold stMod_draft_18 at hw
      dsimp only at hw
      refine lv_iload_n S.1 S.2.1 dMod_draft_18 rfl (lv_at hl 2 rfl) ?_
      refine lv_bipush (v := 8) S.1 S.2.1 dMod_draft_19 (by decide) ?_
      refine lv_icmp_ge S.1 S.2.1 dMod_draft_21 rfl (fun hc => ?_) (fun hc => ?_)
      · have hw := hw.1 hc
        exact J84 _ _ _ _ _ _ _ hw (lv_sub hl [0, 1, 2, 3] rfl) hP hS
      · have hw := hw.2 hc
        refine lv_lload_n S.1 S.2.1 dMod_draft_24 rfl (lv_at hl 1 rfl) ?_
        refine lv_bipush (v := 8) S.1 S.2.1 dMod_draft_25 (by decide) ?_
        refine lv_iload_n S.1 S.2.1 dMod_draft_27 rfl (lv_at hl 2 rfl) ?_
        refine lv_imul S.1 S.2.1 dMod_draft_28 ?_
        refine lv_lushr S.1 S.2.1 dMod_draft_29 rfl ?_
        refine lv_ldc2 (v := 255) S.1 S.2.1 S.2.2.2.1 (S.2.2.2.2 _ q1166) dMod_draft_30 ?_
        refine lv_land S.1 S.2.1 dMod_draft_33 ?_
        refine lv_lconst (v := 0) S.1 S.2.1 dMod_draft_34 (by decide) ?_
        refine W.lcmp S.1 S.2.1 dMod_draft_35 ?_
        refine lv_if_eq S.1 S.2.1 dMod_draft_36 rfl (fun hc => ?_) (fun hc => ?_)
        · have hw := hw.1 hc
          exact J84 _ _ _ _ _ _ _ hw (lv_sub hl [0, 1, 2, 3] rfl) hP hS
        · have hw := hw.2 hc
          refine lv_lload_n S.1 S.2.1 dMod_draft_39 rfl (lv_at hl 1 rfl) ?_
          refine lv_bipush (v := 8) S.1 S.2.1 dMod_draft_40 (by decide) ?_
          refine lv_iload_n S.1 S.2.1 dMod_draft_42 rfl (lv_at hl 2 rfl) ?_
          refine lv_imul S.1 S.2.1 dMod_draft_43 ?_
          refine lv_lushr S.1 S.2.1 dMod_draft_44 rfl ?_
          refine lv_ldc2 (v := 255) S.1 S.2.1 S.2.2.2.1 (S.2.2.2.2 _ q1166) dMod_draft_45 ?_
          refine lv_land S.1 S.2.1 dMod_draft_48 ?_
          refine lv_l2i S.1 S.2.1 dMod_draft_49 rfl ?_
          refine lv_topi (fun y50 e50 => ?_)
          have hw := hw y50 e50
          refine lv_istore (lv' := [(5, .int y50), (0, .ref (ad 0)), (1, .long u1), (3, .int v3), (4, .int v4)]) S.1 S.2.1 dMod_draft_50 hl (by decide) rfl (fun ls hl => ?_)
          refine lv_iload S.1 S.2.1 dMod_draft_52 (lv_at hl 4 rfl) ?_
          refine lv_if_eq S.1 S.2.1 dMod_draft_54 rfl (fun hc => ?_) (fun hc => ?_)
          · have hw := hw.1 hc
            exact J75 _ _ _ _ _ _ hw (lv_sub hl [1, 2, 3] rfl) hP hS
          · have hw := hw.2 hc
            refine lv_iload S.1 S.2.1 dMod_draft_57 (lv_at hl 0 rfl) ?_
            refine lv_bipush (v := 32) S.1 S.2.1 dMod_draft_59 (by decide) ?_
            refine lv_icmp_lt S.1 S.2.1 dMod_draft_61 rfl (fun hc => ?_) (fun hc => ?_)
            · have hw := hw.1 hc
              exact J75 _ _ _ _ _ _ hw (lv_sub hl [1, 2, 3] rfl) hP hS
            · have hw := hw.2 hc
              refine lv_iload S.1 S.2.1 dMod_draft_64 (lv_at hl 0 rfl) ?_
              refine lv_bipush (v := 126) S.1 S.2.1 dMod_draft_66 (by decide) ?_
              refine lv_icmp_gt S.1 S.2.1 dMod_draft_68 rfl (fun hc => ?_) (fun hc => ?_)
              · have hw := hw.1 hc
                exact J75 _ _ _ _ _ _ hw (lv_sub hl [1, 2, 3] rfl) hP hS
              · have hw := hw.2 hc
                refine lv_iconst (v := 1) S.1 S.2.1 dMod_draft_71 (by decide) ?_
                refine lv_goto S.1 S.2.1 dMod_draft_72 rfl ?_
                exact J76 _ _ _ _ _ _ _ hw (lv_sub hl [1, 2, 3] rfl) hP hS
  unfold wpMod_draft at hw
  refine lv_lload_n S.1 S.2.1 dMod_draft_0 rfl (lv_at hl 1 rfl) ?_
  refine lv_lconst (v := 0) S.1 S.2.1 dMod_draft_1 (by decide) ?_
  refine W.lcmp S.1 S.2.1 dMod_draft_2 ?_
  refine lv_if_ne S.1 S.2.1 dMod_draft_3 rfl (fun hc => ?_) (fun hc => ?_)
  · have hw := hw.1 hc
    refine lv_iconst (v := 0) S.1 S.2.1 dMod_draft_13 (by decide) ?_
    refine lv_istore_n (lv' := [(3, .int 0), (0, .ref (ad 0)), (1, .long w1)]) S.1 S.2.1 dMod_draft_14 rfl hl (by decide) rfl (fun ls hl => ?_)
    refine lv_iconst (v := 1) S.1 S.2.1 dMod_draft_15 (by decide) ?_
    refine lv_istore (lv' := [(4, .int 1), (3, .int 0), (0, .ref (ad 0)), (1, .long w1)]) S.1 S.2.1 dMod_draft_16 hl (by decide) rfl (fun ls hl => ?_)
    obtain ⟨fu, hw⟩ := hw
    exact J18 fu _ _ _ _ _ _ _ hw (lv_sub hl [2, 3, 1, 0] rfl) hP hS
  · have hw := hw.2 hc
    refine lv_aload_n S.1 S.2.1 dMod_draft_6 rfl (lv_at hl 0 rfl) ?_
    refine lv_iconst (v := 0) S.1 S.2.1 dMod_draft_7 (by decide) ?_
    refine zr_put S hK hJ hP hS (by decide) (mF_0 _) fMod_drafted q865 rfl rfl (Nat.le_of_ble_eq_true rfl) (mF_0 _) dMod_draft_8 (fun h8 H locs e8 hP hS => ?_)
    have hw := hw h8 e8
    refine lv_iconst (v := 1) S.1 S.2.1 dMod_draft_11 (by decide) ?_
    exact zr_iret S hr hlk hK hP hS rfl hw dMod_draft_12
/-! Mod.state -/
theorem dMod_state_0 : decode bMod_state 0 = .ok (.aload_n 0, 1) := by decide +kernel
theorem dMod_state_1 : decode bMod_state 1 = .ok (.getfield 95, 3) := by decide +kernel
theorem dMod_state_4 : decode bMod_state 4 = .ok (.ireturn, 1) := by decide +kernel
def wpMod_state (h : zM) (post : Int32 → zM → Prop) : Prop := post (h 0 0) h
abbrev rmMod_state : Room := { frames := 0, cells := 0, slots := 0, locals := 0 }
set_option maxHeartbeats 4000000 in
set_option maxRecDepth 100000 in
theorem cMod_state (l : Launch) (D : va_G) (cI cC cE : ClassId) (ad : Nat → Nat) (A : Nat → Prop) (hJ : zJ A 28 ad) (h : zM) (post : Int32 → zM → Prop) (hw : wpMod_state h post) : Met l yMod_state (.code yMod_state bMod_state 1 (some .int) :: zt) rmMod_state (va_Pc [.ref (ad 0)] (zPre D (zty cI cC cE) 28 ad (mF ad cI) A h)) (va_Qi post (zPst D (zty cI cC cE) 28 ad (mF ad cI)) A) 0 0 A := by
  refine Met.ofW (cc := bMod_state) (maxL := 1) (ret := (some .int)) (by decide) rfl ?_
  intro p e s m args below meth c s₁ B hml hv
  obtain ⟨rfl, hP, hK, hT, hN⟩ := hv
  have hr := B.returns
  have hlk := B.notSynchronized
  have S : zS p m c bMod_state 1 s _ "CallExplorerModel" := ⟨B.exec, B.bytes, hml, findClass_of_methodNamed B.named, fun w hw => atoms_spec (ws := .code yMod_state bMod_state 1 (some .int) :: zt) B.pre w (List.mem_cons_of_mem _ hw)⟩
  have hS : va_S A s.heap s.heap [] := va_S.rf
  have hl := lv_entry ([.ref (ad 0)]) (n := 1) (Nat.le_of_ble_eq_true rfl)
  rw [lg_entry_eq]
  generalize (lg_sl ([.ref (ad 0)]) ++ List.replicate (1 - (lg_sl ([.ref (ad 0)])).length) Slot.unset).toArray = ls at hl ⊢
  have hl : lv_has ls 1 [(0, .ref (ad 0))] := hl
  show W p l e rmMod_state s m ([.ref (ad 0)] : List Value).toArray below meth c s.heap [] 0 0 (zQi post D (zty cI cC cE) 28 ad (mF ad cI) A below ([.ref (ad 0)] : List Value).toArray s) _
  unfold wpMod_state at hw
  refine lv_aload_n S.1 S.2.1 dMod_state_0 rfl (lv_at hl 0 rfl) ?_
  refine zr_get S hK hP (by decide) (mF_0 _) fMod_state q828 rfl dMod_state_1 ?_
  exact zr_iret S hr hlk hK hP hS rfl hw dMod_state_4
