/-! predicates and contracts, printed by wip/whole/gen -/
/-! Mod.entered -/
theorem dMod_entered_0 : decode bMod_entered 0 = .ok (.aload_n 0, 1) := by decide +kernel
theorem dMod_entered_1 : decode bMod_entered 1 = .ok (.getfield 191, 3) := by decide +kernel
theorem dMod_entered_4 : decode bMod_entered 4 = .ok (.istore_n 1, 1) := by decide +kernel
theorem dMod_entered_5 : decode bMod_entered 5 = .ok (.aload_n 0, 1) := by decide +kernel
theorem dMod_entered_6 : decode bMod_entered 6 = .ok (.iload_n 1, 1) := by decide +kernel
theorem dMod_entered_7 : decode bMod_entered 7 = .ok (.invokevirtual 237, 3) := by decide +kernel
theorem dMod_entered_10 : decode bMod_entered 10 = .ok (.aload_n 0, 1) := by decide +kernel
theorem dMod_entered_11 : decode bMod_entered 11 = .ok (.invokevirtual 198, 3) := by decide +kernel
theorem dMod_entered_14 : decode bMod_entered 14 = .ok (.aload_n 0, 1) := by decide +kernel
theorem dMod_entered_15 : decode bMod_entered 15 = .ok (.getfield 165, 3) := by decide +kernel
theorem dMod_entered_18 : decode bMod_entered 18 = .ok (.iconst 4, 1) := by decide +kernel
theorem dMod_entered_19 : decode bMod_entered 19 = .ok (.if_icmp .ne 6, 3) := by decide +kernel
theorem dMod_entered_22 : decode bMod_entered 22 = .ok (.bipush (-5), 2) := by decide +kernel
theorem dMod_entered_24 : decode bMod_entered 24 = .ok (.ireturn, 1) := by decide +kernel
theorem dMod_entered_25 : decode bMod_entered 25 = .ok (.aload_n 0, 1) := by decide +kernel
theorem dMod_entered_26 : decode bMod_entered 26 = .ok (.getfield 65, 3) := by decide +kernel
theorem dMod_entered_29 : decode bMod_entered 29 = .ok (.iload_n 1, 1) := by decide +kernel
theorem dMod_entered_30 : decode bMod_entered 30 = .ok (.aload_n 0, 1) := by decide +kernel
theorem dMod_entered_31 : decode bMod_entered 31 = .ok (.getfield 168, 3) := by decide +kernel
theorem dMod_entered_34 : decode bMod_entered 34 = .ok (.iastore, 1) := by decide +kernel
theorem dMod_entered_35 : decode bMod_entered 35 = .ok (.aload_n 0, 1) := by decide +kernel
theorem dMod_entered_36 : decode bMod_entered 36 = .ok (.getfield 68, 3) := by decide +kernel
theorem dMod_entered_39 : decode bMod_entered 39 = .ok (.iload_n 1, 1) := by decide +kernel
theorem dMod_entered_40 : decode bMod_entered 40 = .ok (.aload_n 0, 1) := by decide +kernel
theorem dMod_entered_41 : decode bMod_entered 41 = .ok (.getfield 153, 3) := by decide +kernel
theorem dMod_entered_44 : decode bMod_entered 44 = .ok (.ifCond .ne 25, 3) := by decide +kernel
theorem dMod_entered_47 : decode bMod_entered 47 = .ok (.aload_n 0, 1) := by decide +kernel
theorem dMod_entered_48 : decode bMod_entered 48 = .ok (.iload_n 1, 1) := by decide +kernel
theorem dMod_entered_49 : decode bMod_entered 49 = .ok (.invokevirtual 205, 3) := by decide +kernel
theorem dMod_entered_52 : decode bMod_entered 52 = .ok (.ifCond .ne 17, 3) := by decide +kernel
theorem dMod_entered_55 : decode bMod_entered 55 = .ok (.aload_n 0, 1) := by decide +kernel
theorem dMod_entered_56 : decode bMod_entered 56 = .ok (.getfield 80, 3) := by decide +kernel
theorem dMod_entered_59 : decode bMod_entered 59 = .ok (.aload_n 0, 1) := by decide +kernel
theorem dMod_entered_60 : decode bMod_entered 60 = .ok (.getfield 156, 3) := by decide +kernel
theorem dMod_entered_63 : decode bMod_entered 63 = .ok (.iconst 1, 1) := by decide +kernel
theorem dMod_entered_64 : decode bMod_entered 64 = .ok (.isub, 1) := by decide +kernel
theorem dMod_entered_65 : decode bMod_entered 65 = .ok (.iaload, 1) := by decide +kernel
theorem dMod_entered_66 : decode bMod_entered 66 = .ok (.goto 4, 3) := by decide +kernel
theorem dMod_entered_69 : decode bMod_entered 69 = .ok (.iconst 0, 1) := by decide +kernel
theorem dMod_entered_70 : decode bMod_entered 70 = .ok (.iastore, 1) := by decide +kernel
theorem dMod_entered_71 : decode bMod_entered 71 = .ok (.aload_n 0, 1) := by decide +kernel
theorem dMod_entered_72 : decode bMod_entered 72 = .ok (.getfield 62, 3) := by decide +kernel
theorem dMod_entered_75 : decode bMod_entered 75 = .ok (.iload_n 1, 1) := by decide +kernel
theorem dMod_entered_76 : decode bMod_entered 76 = .ok (.aload_n 0, 1) := by decide +kernel
theorem dMod_entered_77 : decode bMod_entered 77 = .ok (.getfield 165, 3) := by decide +kernel
theorem dMod_entered_80 : decode bMod_entered 80 = .ok (.iastore, 1) := by decide +kernel
theorem dMod_entered_81 : decode bMod_entered 81 = .ok (.aload_n 0, 1) := by decide +kernel
theorem dMod_entered_82 : decode bMod_entered 82 = .ok (.getfield 165, 3) := by decide +kernel
theorem dMod_entered_85 : decode bMod_entered 85 = .ok (.ifCond .ne 17, 3) := by decide +kernel
theorem dMod_entered_88 : decode bMod_entered 88 = .ok (.aload_n 0, 1) := by decide +kernel
theorem dMod_entered_89 : decode bMod_entered 89 = .ok (.invokevirtual 240, 3) := by decide +kernel
theorem dMod_entered_92 : decode bMod_entered 92 = .ok (.ifCond .eq 10, 3) := by decide +kernel
theorem dMod_entered_95 : decode bMod_entered 95 = .ok (.aload_n 0, 1) := by decide +kernel
theorem dMod_entered_96 : decode bMod_entered 96 = .ok (.getfield 62, 3) := by decide +kernel
theorem dMod_entered_99 : decode bMod_entered 99 = .ok (.iload_n 1, 1) := by decide +kernel
theorem dMod_entered_100 : decode bMod_entered 100 = .ok (.iconst 1, 1) := by decide +kernel
theorem dMod_entered_101 : decode bMod_entered 101 = .ok (.iastore, 1) := by decide +kernel
theorem dMod_entered_102 : decode bMod_entered 102 = .ok (.aload_n 0, 1) := by decide +kernel
theorem dMod_entered_103 : decode bMod_entered 103 = .ok (.dup, 1) := by decide +kernel
theorem dMod_entered_104 : decode bMod_entered 104 = .ok (.getfield 191, 3) := by decide +kernel
theorem dMod_entered_107 : decode bMod_entered 107 = .ok (.iconst 1, 1) := by decide +kernel
theorem dMod_entered_108 : decode bMod_entered 108 = .ok (.iadd, 1) := by decide +kernel
theorem dMod_entered_109 : decode bMod_entered 109 = .ok (.putfield 191, 3) := by decide +kernel
theorem dMod_entered_112 : decode bMod_entered 112 = .ok (.iload_n 1, 1) := by decide +kernel
theorem dMod_entered_113 : decode bMod_entered 113 = .ok (.ireturn, 1) := by decide +kernel
def wbMod_entered_102 (post : Int32 → zM → Prop) (v1 : Int32) (h : zM) : Prop := ∀ h109 : zM, h109 = zu h 0 17 ((h 0 17) + 1) → post v1 h109
def wbMod_entered_70 (post : Int32 → zM → Prop) (v1 : Int32) (k1 : Int32) (k2 : Int32) (h : zM) : Prop := (vp_in k1 41 ∧ ∀ h70 : zM, h70 = zu h 19 (Int32.toNatClampNeg k1) k2 → (vp_in v1 41 ∧ ∀ h80 : zM, h80 = zu h70 17 (Int32.toNatClampNeg v1) (h70 0 31) → ((¬ (h80 0 31) = 0 → wbMod_entered_102 post v1 h80) ∧ ((h80 0 31) = 0 → wpMod_seen h80 (fun r89 h89 => ((r89 = 0 → wbMod_entered_102 post v1 h89) ∧ (¬ r89 = 0 → (vp_in v1 41 ∧ ∀ h101 : zM, h101 = zu h89 17 (Int32.toNatClampNeg v1) 1 → wbMod_entered_102 post v1 h101))))))))
def wbMod_entered_69 (post : Int32 → zM → Prop) (v1 : Int32) (k1 : Int32) (h : zM) : Prop := wbMod_entered_70 post v1 k1 0 h
def wpMod_entered (h : zM) (post : Int32 → zM → Prop) : Prop := ∀ y4 : Int32, y4 = (h 0 17) → wpMod_store y4 h (fun h7 => wpMod_run h7 (fun h11 => ((¬ (h11 0 31) = 4 → (vp_in y4 41 ∧ ∀ h34 : zM, h34 = zu h11 18 (Int32.toNatClampNeg y4) (h11 0 32) → ((¬ (h34 0 30) = 0 → wbMod_entered_69 post y4 y4 h34) ∧ ((h34 0 30) = 0 → wpMod_typeOf y4 h34 (fun r49 h49 => ((¬ r49 = 0 → wbMod_entered_69 post y4 y4 h49) ∧ (r49 = 0 → (vp_in ((h49 0 11) - 1) 10 ∧ wbMod_entered_70 post y4 y4 (h49 23 (Int32.toNatClampNeg ((h49 0 11) - 1))) h49)))))))) ∧ ((h11 0 31) = 4 → post (-5) h11))))
abbrev rmMod_entered : Room := { frames := 5, cells := 0, slots := 0, locals := 118 }
set_option maxHeartbeats 4000000 in
set_option maxRecDepth 100000 in
theorem cMod_entered (l : Launch) (D : va_G) (cI cC cE : ClassId) (ad : Nat → Nat) (A : Nat → Prop) (hJ : zJ A 28 ad) (h : zM) (post : Int32 → zM → Prop) (hw : wpMod_entered h post) : Met l yMod_entered (.code yMod_entered bMod_entered 2 (some .int) :: zt) rmMod_entered (va_Pc [.ref (ad 0)] (zPre D (zty cI cC cE) 28 ad (mF ad cI) A h)) (va_Qi post (zPst D (zty cI cC cE) 28 ad (mF ad cI)) A) 0 0 A := by
  refine Met.ofW (cc := bMod_entered) (maxL := 2) (ret := (some .int)) (by decide) rfl ?_
  intro p e s m args below meth c s₁ B hml hv
  obtain ⟨rfl, hP, hK, hT, hN⟩ := hv
  have hr := B.returns
  have hlk := B.notSynchronized
  have S : zS p m c bMod_entered 2 s _ "CallExplorerModel" := ⟨B.exec, B.bytes, hml, findClass_of_methodNamed B.named, fun w hw => atoms_spec (ws := .code yMod_entered bMod_entered 2 (some .int) :: zt) B.pre w (List.mem_cons_of_mem _ hw)⟩
  have hS : va_S A s.heap s.heap [] := va_S.rf
  have hl := lv_entry ([.ref (ad 0)]) (n := 2) (Nat.le_of_ble_eq_true rfl)
  rw [lg_entry_eq]
  generalize (lg_sl ([.ref (ad 0)]) ++ List.replicate (2 - (lg_sl ([.ref (ad 0)])).length) Slot.unset).toArray = ls at hl ⊢
  have hl : lv_has ls 2 [(0, .ref (ad 0))] := hl
  show W p l e rmMod_entered s m ([.ref (ad 0)] : List Value).toArray below meth c s.heap [] 0 0 (zQi post D (zty cI cC cE) 28 ad (mF ad cI) A below ([.ref (ad 0)] : List Value).toArray s) _
  have J102 : ∀ (v1 : Int32) (h : zM) (H : Heap) (locs : List Loc) (ls : Array Slot), wbMod_entered_102 post v1 h → lv_has ls 2 [(0, .ref (ad 0)), (1, .int v1)] → va_P D zcl (zW 28 ad (mF ad cI) h) H → va_S A s.heap H locs → W p l e rmMod_entered s m ([.ref (ad 0)] : List Value).toArray below meth c H locs 0 0 (zQi post D (zty cI cC cE) 28 ad (mF ad cI) A below ([.ref (ad 0)] : List Value).toArray s) (F0 m 102 ls []) := by
    intro v1 h H locs ls hw hl hP hS
    unfold wbMod_entered_102 at hw
    refine lv_aload_n S.1 S.2.1 dMod_entered_102 rfl (lv_at hl 0 rfl) ?_
    refine lv_dup S.1 S.2.1 dMod_entered_103 rfl ?_
    refine zr_get S hK hP (by decide) (mF_0 _) fMod_entries q845 rfl dMod_entered_104 ?_
    refine lv_iconst (v := 1) S.1 S.2.1 dMod_entered_107 (by decide) ?_
    refine lv_iadd S.1 S.2.1 dMod_entered_108 ?_
    refine zr_put S hK hJ hP hS (by decide) (mF_0 _) fMod_entries q845 rfl rfl (Nat.le_of_ble_eq_true rfl) (mF_0 _) dMod_entered_109 (fun h109 H locs e109 hP hS => ?_)
    have hw := hw h109 e109
    refine lv_iload_n S.1 S.2.1 dMod_entered_112 rfl (lv_at hl 1 rfl) ?_
    exact zr_iret S hr hlk hK hP hS rfl hw dMod_entered_113
  have J70 : ∀ (v1 : Int32) (k1 : Int32) (k2 : Int32) (h : zM) (H : Heap) (locs : List Loc) (ls : Array Slot), wbMod_entered_70 post v1 k1 k2 h → lv_has ls 2 [(0, .ref (ad 0)), (1, .int v1)] → va_P D zcl (zW 28 ad (mF ad cI) h) H → va_S A s.heap H locs → W p l e rmMod_entered s m ([.ref (ad 0)] : List Value).toArray below meth c H locs 0 0 (zQi post D (zty cI cC cE) 28 ad (mF ad cI) A below ([.ref (ad 0)] : List Value).toArray s) (F0 m 70 ls [.int k2, .int k1, .ref (ad 19)]) := by
    intro v1 k1 k2 h H locs ls hw hl hP hS
    unfold wbMod_entered_70 at hw
    obtain ⟨z70, hw⟩ := hw
    refine zr_ast S hK hJ hP hS (by decide) mF_19 0 rfl z70 dMod_entered_70 (fun h70 H locs e70 hP hS => ?_)
    have hw := hw h70 e70
    refine lv_aload_n S.1 S.2.1 dMod_entered_71 rfl (lv_at hl 0 rfl) ?_
    refine zr_get S hK hP (by decide) (mF_0 _) fMod_outcome q850 rfl dMod_entered_72 ?_
    refine lv_iload_n S.1 S.2.1 dMod_entered_75 rfl (lv_at hl 1 rfl) ?_
    refine lv_aload_n S.1 S.2.1 dMod_entered_76 rfl (lv_at hl 0 rfl) ?_
    refine zr_get S hK hP (by decide) (mF_0 _) fMod_came q859 rfl dMod_entered_77 ?_
    obtain ⟨z80, hw⟩ := hw
    refine zr_ast S hK hJ hP hS (by decide) mF_17 0 rfl z80 dMod_entered_80 (fun h80 H locs e80 hP hS => ?_)
    have hw := hw h80 e80
    refine lv_aload_n S.1 S.2.1 dMod_entered_81 rfl (lv_at hl 0 rfl) ?_
    refine zr_get S hK hP (by decide) (mF_0 _) fMod_came q859 rfl dMod_entered_82 ?_
    refine lv_if_ne S.1 S.2.1 dMod_entered_85 rfl (fun hc => ?_) (fun hc => ?_)
    · have hw := hw.1 hc
      exact J102 _ _ _ _ _ hw (lv_sub hl [0, 1] rfl) hP hS
    · have hw := hw.2 hc
      refine lv_aload_n S.1 S.2.1 dMod_entered_88 rfl (lv_at hl 0 rfl) ?_
      refine zr_i (zr_V (As := []) (rest := []) S hK hT hN hP hS (by decide) (mF_0 _) rfl (cMod_seen l D cI cC cE ad A hJ _ _ hw) caMod_240 ⟨Nat.le_of_ble_eq_true rfl, Nat.le_of_ble_eq_true rfl⟩ ⟨rfl, rfl⟩ rfl hl.1 rfl (Nat.le_of_ble_eq_true rfl) dMod_entered_89) hS (fun r89 h89 H locs hw hP hS => ?_)
      refine lv_if_eq S.1 S.2.1 dMod_entered_92 rfl (fun hc => ?_) (fun hc => ?_)
      · have hw := hw.1 hc
        exact J102 _ _ _ _ _ hw (lv_sub hl [0, 1] rfl) hP hS
      · have hw := hw.2 hc
        refine lv_aload_n S.1 S.2.1 dMod_entered_95 rfl (lv_at hl 0 rfl) ?_
        refine zr_get S hK hP (by decide) (mF_0 _) fMod_outcome q850 rfl dMod_entered_96 ?_
        refine lv_iload_n S.1 S.2.1 dMod_entered_99 rfl (lv_at hl 1 rfl) ?_
        refine lv_iconst (v := 1) S.1 S.2.1 dMod_entered_100 (by decide) ?_
        obtain ⟨z101, hw⟩ := hw
        refine zr_ast S hK hJ hP hS (by decide) mF_17 0 rfl z101 dMod_entered_101 (fun h101 H locs e101 hP hS => ?_)
        have hw := hw h101 e101
        exact J102 _ _ _ _ _ hw (lv_sub hl [0, 1] rfl) hP hS
  have J69 : ∀ (v1 : Int32) (k1 : Int32) (h : zM) (H : Heap) (locs : List Loc) (ls : Array Slot), wbMod_entered_69 post v1 k1 h → lv_has ls 2 [(0, .ref (ad 0)), (1, .int v1)] → va_P D zcl (zW 28 ad (mF ad cI) h) H → va_S A s.heap H locs → W p l e rmMod_entered s m ([.ref (ad 0)] : List Value).toArray below meth c H locs 0 0 (zQi post D (zty cI cC cE) 28 ad (mF ad cI) A below ([.ref (ad 0)] : List Value).toArray s) (F0 m 69 ls [.int k1, .ref (ad 19)]) := by
    intro v1 k1 h H locs ls hw hl hP hS
    unfold wbMod_entered_69 at hw
    refine lv_iconst (v := 0) S.1 S.2.1 dMod_entered_69 (by decide) ?_
    exact J70 _ _ _ _ _ _ _ hw (lv_sub hl [0, 1] rfl) hP hS
  unfold wpMod_entered at hw
  refine lv_aload_n S.1 S.2.1 dMod_entered_0 rfl (lv_at hl 0 rfl) ?_
  refine zr_get S hK hP (by decide) (mF_0 _) fMod_entries q845 rfl dMod_entered_1 ?_
  refine lv_topi (fun y4 e4 => ?_)
  have hw := hw y4 e4
  refine lv_istore_n (lv' := [(1, .int y4), (0, .ref (ad 0))]) S.1 S.2.1 dMod_entered_4 rfl hl (by decide) rfl (fun ls hl => ?_)
  refine lv_aload_n S.1 S.2.1 dMod_entered_5 rfl (lv_at hl 1 rfl) ?_
  refine lv_iload_n S.1 S.2.1 dMod_entered_6 rfl (lv_at hl 0 rfl) ?_
  refine zr_v (zr_V (As := [.int y4]) (rest := []) S hK hT hN hP hS (by decide) (mF_0 _) rfl (cMod_store l D cI cC cE ad A hJ _ _ _ hw) caMod_237 ⟨Nat.le_of_ble_eq_true rfl, Nat.le_of_ble_eq_true rfl⟩ ⟨rfl, rfl⟩ rfl hl.1 rfl (Nat.le_of_ble_eq_true rfl) dMod_entered_7) hS (fun h7 H locs hw hP hS => ?_)
  refine lv_aload_n S.1 S.2.1 dMod_entered_10 rfl (lv_at hl 1 rfl) ?_
  refine zr_v (zr_V (As := []) (rest := []) S hK hT hN hP hS (by decide) (mF_0 _) rfl (cMod_run l D cI cC cE ad A hJ _ _ hw) caMod_198 ⟨Nat.le_of_ble_eq_true rfl, Nat.le_of_ble_eq_true rfl⟩ ⟨rfl, rfl⟩ rfl hl.1 rfl (Nat.le_of_ble_eq_true rfl) dMod_entered_11) hS (fun h11 H locs hw hP hS => ?_)
  refine lv_aload_n S.1 S.2.1 dMod_entered_14 rfl (lv_at hl 1 rfl) ?_
  refine zr_get S hK hP (by decide) (mF_0 _) fMod_came q859 rfl dMod_entered_15 ?_
  refine lv_iconst (v := 4) S.1 S.2.1 dMod_entered_18 (by decide) ?_
  refine lv_icmp_ne S.1 S.2.1 dMod_entered_19 rfl (fun hc => ?_) (fun hc => ?_)
  · have hw := hw.1 hc
    refine lv_aload_n S.1 S.2.1 dMod_entered_25 rfl (lv_at hl 1 rfl) ?_
    refine zr_get S hK hP (by decide) (mF_0 _) fMod_detail q851 rfl dMod_entered_26 ?_
    refine lv_iload_n S.1 S.2.1 dMod_entered_29 rfl (lv_at hl 0 rfl) ?_
    refine lv_aload_n S.1 S.2.1 dMod_entered_30 rfl (lv_at hl 1 rfl) ?_
    refine zr_get S hK hP (by decide) (mF_0 _) fMod_cameBy q860 rfl dMod_entered_31 ?_
    obtain ⟨z34, hw⟩ := hw
    refine zr_ast S hK hJ hP hS (by decide) mF_18 0 rfl z34 dMod_entered_34 (fun h34 H locs e34 hP hS => ?_)
    have hw := hw h34 e34
    refine lv_aload_n S.1 S.2.1 dMod_entered_35 rfl (lv_at hl 1 rfl) ?_
    refine zr_get S hK hP (by decide) (mF_0 _) fMod_gave q852 rfl dMod_entered_36 ?_
    refine lv_iload_n S.1 S.2.1 dMod_entered_39 rfl (lv_at hl 0 rfl) ?_
    refine lv_aload_n S.1 S.2.1 dMod_entered_40 rfl (lv_at hl 1 rfl) ?_
    refine zr_get S hK hP (by decide) (mF_0 _) fMod_trouble q858 rfl dMod_entered_41 ?_
    refine lv_if_ne S.1 S.2.1 dMod_entered_44 rfl (fun hc => ?_) (fun hc => ?_)
    · have hw := hw.1 hc
      exact J69 _ _ _ _ _ _ hw (lv_sub hl [1, 0] rfl) hP hS
    · have hw := hw.2 hc
      refine lv_aload_n S.1 S.2.1 dMod_entered_47 rfl (lv_at hl 1 rfl) ?_
      refine lv_iload_n S.1 S.2.1 dMod_entered_48 rfl (lv_at hl 0 rfl) ?_
      refine zr_i (zr_V (As := [.int y4]) (rest := [.int y4, .ref (ad 19)]) S hK hT hN hP hS (by decide) (mF_0 _) rfl (cMod_typeOf l D cI cC cE ad A hJ _ _ _ hw) caMod_205 ⟨Nat.le_of_ble_eq_true rfl, Nat.le_of_ble_eq_true rfl⟩ ⟨rfl, rfl⟩ rfl hl.1 rfl (Nat.le_of_ble_eq_true rfl) dMod_entered_49) hS (fun r49 h49 H locs hw hP hS => ?_)
      refine lv_if_ne S.1 S.2.1 dMod_entered_52 rfl (fun hc => ?_) (fun hc => ?_)
      · have hw := hw.1 hc
        exact J69 _ _ _ _ _ _ hw (lv_sub hl [1, 0] rfl) hP hS
      · have hw := hw.2 hc
        refine lv_aload_n S.1 S.2.1 dMod_entered_55 rfl (lv_at hl 1 rfl) ?_
        refine zr_get S hK hP (by decide) (mF_0 _) fMod_result q857 rfl dMod_entered_56 ?_
        refine lv_aload_n S.1 S.2.1 dMod_entered_59 rfl (lv_at hl 1 rfl) ?_
        refine zr_get S hK hP (by decide) (mF_0 _) fMod_size q839 rfl dMod_entered_60 ?_
        refine lv_iconst (v := 1) S.1 S.2.1 dMod_entered_63 (by decide) ?_
        refine lv_isub S.1 S.2.1 dMod_entered_64 ?_
        obtain ⟨z65, hw⟩ := hw
        refine zr_ald S hK hP (by decide) (mF_23 _) 0 rfl z65 dMod_entered_65 ?_
        refine lv_goto S.1 S.2.1 dMod_entered_66 rfl ?_
        exact J70 _ _ _ _ _ _ _ hw (lv_sub hl [1, 0] rfl) hP hS
  · have hw := hw.2 hc
    refine lv_bipush (v := (-5)) S.1 S.2.1 dMod_entered_22 (by decide) ?_
    exact zr_iret S hr hlk hK hP hS rfl hw dMod_entered_24
/-! Mod.step -/
theorem dMod_step_0 : decode bMod_step 0 = .ok (.aload_n 0, 1) := by decide +kernel
theorem dMod_step_1 : decode bMod_step 1 = .ok (.getfield 191, 3) := by decide +kernel
theorem dMod_step_4 : decode bMod_step 4 = .ok (.bipush 40, 2) := by decide +kernel
theorem dMod_step_6 : decode bMod_step 6 = .ok (.if_icmp .ne 6, 3) := by decide +kernel
theorem dMod_step_9 : decode bMod_step 9 = .ok (.bipush (-6), 2) := by decide +kernel
theorem dMod_step_11 : decode bMod_step 11 = .ok (.ireturn, 1) := by decide +kernel
theorem dMod_step_12 : decode bMod_step 12 = .ok (.aload_n 0, 1) := by decide +kernel
theorem dMod_step_13 : decode bMod_step 13 = .ok (.getfield 101, 3) := by decide +kernel
theorem dMod_step_16 : decode bMod_step 16 = .ok (.ifCond .ne 5, 3) := by decide +kernel
theorem dMod_step_19 : decode bMod_step 19 = .ok (.iconst (-1), 1) := by decide +kernel
theorem dMod_step_20 : decode bMod_step 20 = .ok (.ireturn, 1) := by decide +kernel
theorem dMod_step_21 : decode bMod_step 21 = .ok (.aload_n 0, 1) := by decide +kernel
theorem dMod_step_22 : decode bMod_step 22 = .ok (.aload_n 0, 1) := by decide +kernel
theorem dMod_step_23 : decode bMod_step 23 = .ok (.getfield 101, 3) := by decide +kernel
theorem dMod_step_26 : decode bMod_step 26 = .ok (.invokevirtual 214, 3) := by decide +kernel
theorem dMod_step_29 : decode bMod_step 29 = .ok (.istore_n 1, 1) := by decide +kernel
theorem dMod_step_30 : decode bMod_step 30 = .ok (.aload_n 0, 1) := by decide +kernel
theorem dMod_step_31 : decode bMod_step 31 = .ok (.iconst 0, 1) := by decide +kernel
theorem dMod_step_32 : decode bMod_step 32 = .ok (.putfield 156, 3) := by decide +kernel
theorem dMod_step_35 : decode bMod_step 35 = .ok (.iconst 0, 1) := by decide +kernel
theorem dMod_step_36 : decode bMod_step 36 = .ok (.istore_n 2, 1) := by decide +kernel
theorem dMod_step_37 : decode bMod_step 37 = .ok (.iload_n 2, 1) := by decide +kernel
theorem dMod_step_38 : decode bMod_step 38 = .ok (.aload_n 0, 1) := by decide +kernel
theorem dMod_step_39 : decode bMod_step 39 = .ok (.getfield 19, 3) := by decide +kernel
theorem dMod_step_42 : decode bMod_step 42 = .ok (.iload_n 1, 1) := by decide +kernel
theorem dMod_step_43 : decode bMod_step 43 = .ok (.iaload, 1) := by decide +kernel
theorem dMod_step_44 : decode bMod_step 44 = .ok (.invokestatic 122, 3) := by decide +kernel
theorem dMod_step_47 : decode bMod_step 47 = .ok (.if_icmp .ge 27, 3) := by decide +kernel
theorem dMod_step_50 : decode bMod_step 50 = .ok (.aload_n 0, 1) := by decide +kernel
theorem dMod_step_51 : decode bMod_step 51 = .ok (.aload_n 0, 1) := by decide +kernel
theorem dMod_step_52 : decode bMod_step 52 = .ok (.iload_n 1, 1) := by decide +kernel
theorem dMod_step_53 : decode bMod_step 53 = .ok (.iload_n 2, 1) := by decide +kernel
theorem dMod_step_54 : decode bMod_step 54 = .ok (.invokevirtual 150, 3) := by decide +kernel
theorem dMod_step_57 : decode bMod_step 57 = .ok (.iload_n 2, 1) := by decide +kernel
theorem dMod_step_58 : decode bMod_step 58 = .ok (.invokevirtual 224, 3) := by decide +kernel
theorem dMod_step_61 : decode bMod_step 61 = .ok (.istore_n 3, 1) := by decide +kernel
theorem dMod_step_62 : decode bMod_step 62 = .ok (.iload_n 3, 1) := by decide +kernel
theorem dMod_step_63 : decode bMod_step 63 = .ok (.ifCond .eq 5, 3) := by decide +kernel
theorem dMod_step_66 : decode bMod_step 66 = .ok (.iload_n 3, 1) := by decide +kernel
theorem dMod_step_67 : decode bMod_step 67 = .ok (.ireturn, 1) := by decide +kernel
theorem dMod_step_68 : decode bMod_step 68 = .ok (.iinc 2 1, 3) := by decide +kernel
theorem dMod_step_71 : decode bMod_step 71 = .ok (.goto (-34), 3) := by decide +kernel
theorem dMod_step_74 : decode bMod_step 74 = .ok (.aload_n 0, 1) := by decide +kernel
theorem dMod_step_75 : decode bMod_step 75 = .ok (.iload_n 1, 1) := by decide +kernel
theorem dMod_step_76 : decode bMod_step 76 = .ok (.invokevirtual 227, 3) := by decide +kernel
theorem dMod_step_79 : decode bMod_step 79 = .ok (.aload_n 0, 1) := by decide +kernel
theorem dMod_step_80 : decode bMod_step 80 = .ok (.invokevirtual 230, 3) := by decide +kernel
theorem dMod_step_83 : decode bMod_step 83 = .ok (.ifCond .eq 8, 3) := by decide +kernel
theorem dMod_step_86 : decode bMod_step 86 = .ok (.bipush (-4), 2) := by decide +kernel
theorem dMod_step_88 : decode bMod_step 88 = .ok (.goto 7, 3) := by decide +kernel
theorem dMod_step_91 : decode bMod_step 91 = .ok (.aload_n 0, 1) := by decide +kernel
theorem dMod_step_92 : decode bMod_step 92 = .ok (.invokevirtual 234, 3) := by decide +kernel
theorem dMod_step_95 : decode bMod_step 95 = .ok (.ireturn, 1) := by decide +kernel
def stMod_step_37 (post : Int32 → zM → Prop) (L37 : (Int32 × Int32 × zM) → Prop) : (Int32 × Int32 × zM) → Prop := fun s => match s with
  | (v1, v2, h) => (vp_in v1 10 ∧ wpMod_arity (h 4 (Int32.toNatClampNeg v1)) h (fun r44 h44 => (((r44 ≤ v2) → wpMod_put v1 h44 (fun h76 => wpMod_known h76 (fun r80 h80 => ((r80 = 0 → wpMod_entered h80 (fun r92 h92 => post r92 h92)) ∧ (¬ r80 = 0 → post (-4) h80))))) ∧ (¬ (r44 ≤ v2) → wpMod_wants v1 v2 h44 (fun r54 h54 => wpMod_chosen r54 v2 h54 (fun r58 h58 => ((r58 = 0 → L37 (v1, (v2 + 1), h58)) ∧ (¬ r58 = 0 → post r58 h58))))))))
def wpMod_step (h : zM) (post : Int32 → zM → Prop) : Prop := ((¬ (h 0 17) = 40 → ((¬ (h 0 5) = 0 → wpMod_random (h 0 5) h (fun r26 h26 => ∀ h32 : zM, h32 = zu h26 0 11 0 → zL (stMod_step_37 post) (r26, 0, h32))) ∧ ((h 0 5) = 0 → post (-1) h))) ∧ ((h 0 17) = 40 → post (-6) h))
abbrev rmMod_step : Room := { frames := 6, cells := 0, slots := 0, locals := 139 }
set_option maxHeartbeats 4000000 in
set_option maxRecDepth 100000 in
theorem cMod_step (l : Launch) (D : va_G) (cI cC cE : ClassId) (ad : Nat → Nat) (A : Nat → Prop) (hJ : zJ A 28 ad) (h : zM) (post : Int32 → zM → Prop) (hw : wpMod_step h post) : Met l yMod_step (.code yMod_step bMod_step 4 (some .int) :: zt) rmMod_step (va_Pc [.ref (ad 0)] (zPre D (zty cI cC cE) 28 ad (mF ad cI) A h)) (va_Qi post (zPst D (zty cI cC cE) 28 ad (mF ad cI)) A) 0 0 A := by
  refine Met.ofW (cc := bMod_step) (maxL := 4) (ret := (some .int)) (by decide) rfl ?_
  intro p e s m args below meth c s₁ B hml hv
  obtain ⟨rfl, hP, hK, hT, hN⟩ := hv
  have hr := B.returns
  have hlk := B.notSynchronized
  have S : zS p m c bMod_step 4 s _ "CallExplorerModel" := ⟨B.exec, B.bytes, hml, findClass_of_methodNamed B.named, fun w hw => atoms_spec (ws := .code yMod_step bMod_step 4 (some .int) :: zt) B.pre w (List.mem_cons_of_mem _ hw)⟩
  have hS : va_S A s.heap s.heap [] := va_S.rf
  have hl := lv_entry ([.ref (ad 0)]) (n := 4) (Nat.le_of_ble_eq_true rfl)
  rw [lg_entry_eq]
  generalize (lg_sl ([.ref (ad 0)]) ++ List.replicate (4 - (lg_sl ([.ref (ad 0)])).length) Slot.unset).toArray = ls at hl ⊢
  have hl : lv_has ls 4 [(0, .ref (ad 0))] := hl
  show W p l e rmMod_step s m ([.ref (ad 0)] : List Value).toArray below meth c s.heap [] 0 0 (zQi post D (zty cI cC cE) 28 ad (mF ad cI) A below ([.ref (ad 0)] : List Value).toArray s) _
  have J37 : ∀ (fu : Nat) (v1 : Int32) (v2 : Int32) (h : zM) (H : Heap) (locs : List Loc) (ls : Array Slot), zl (stMod_step_37 post) fu (v1, v2, h) → lv_has ls 4 [(0, .ref (ad 0)), (1, .int v1), (2, .int v2)] → va_P D zcl (zW 28 ad (mF ad cI) h) H → va_S A s.heap H locs → W p l e rmMod_step s m ([.ref (ad 0)] : List Value).toArray below meth c H locs 0 0 (zQi post D (zty cI cC cE) 28 ad (mF ad cI) A below ([.ref (ad 0)] : List Value).toArray s) (F0 m 37 ls []) := by
    intro fu37
    induction fu37 with
    | zero =>
      intro v1 v2 h H locs ls hw
      exact (zl_0 hw).elim
    | succ fu37 ih37 =>
      intro v1 v2 h H locs ls hw hl hP hS
      have hw := zl_s hw
      generalize zl (stMod_step_37 post) fu37 = L37 at hw ih37
      unfold stMod_step_37 at hw
      dsimp only at hw
      refine lv_iload_n S.1 S.2.1 dMod_step_37 rfl (lv_at hl 2 rfl) ?_
      refine lv_aload_n S.1 S.2.1 dMod_step_38 rfl (lv_at hl 0 rfl) ?_
      refine zr_get S hK hP (by decide) (mF_0 _) fMod_kind q834 rfl dMod_step_39 ?_
      refine lv_iload_n S.1 S.2.1 dMod_step_42 rfl (lv_at hl 1 rfl) ?_
      obtain ⟨z43, hw⟩ := hw
      refine zr_ald S hK hP (by decide) (mF_4 _) 0 rfl z43 dMod_step_43 ?_
      refine zr_i (zr_T (As := [.int (h 4 (Int32.toNatClampNeg v1))]) (rest := [.int v2]) S hK hT hN hP hS (cMod_arity l D cI cC cE ad A hJ _ _ _ hw) caMod_122 ⟨Nat.le_of_ble_eq_true rfl, Nat.le_of_ble_eq_true rfl⟩ ⟨rfl, rfl⟩ rfl hl.1 rfl (Nat.le_of_ble_eq_true rfl) dMod_step_44) hS (fun r44 h44 H locs hw hP hS => ?_)
      refine lv_icmp_ge S.1 S.2.1 dMod_step_47 rfl (fun hc => ?_) (fun hc => ?_)
      · have hw := hw.1 hc
        refine lv_aload_n S.1 S.2.1 dMod_step_74 rfl (lv_at hl 0 rfl) ?_
        refine lv_iload_n S.1 S.2.1 dMod_step_75 rfl (lv_at hl 1 rfl) ?_
        refine zr_v (zr_V (As := [.int v1]) (rest := []) S hK hT hN hP hS (by decide) (mF_0 _) rfl (cMod_put l D cI cC cE ad A hJ _ _ _ hw) caMod_227 ⟨Nat.le_of_ble_eq_true rfl, Nat.le_of_ble_eq_true rfl⟩ ⟨rfl, rfl⟩ rfl hl.1 rfl (Nat.le_of_ble_eq_true rfl) dMod_step_76) hS (fun h76 H locs hw hP hS => ?_)
        refine lv_aload_n S.1 S.2.1 dMod_step_79 rfl (lv_at hl 0 rfl) ?_
        refine zr_i (zr_V (As := []) (rest := []) S hK hT hN hP hS (by decide) (mF_0 _) rfl (cMod_known l D cI cC cE ad A hJ _ _ hw) caMod_230 ⟨Nat.le_of_ble_eq_true rfl, Nat.le_of_ble_eq_true rfl⟩ ⟨rfl, rfl⟩ rfl hl.1 rfl (Nat.le_of_ble_eq_true rfl) dMod_step_80) hS (fun r80 h80 H locs hw hP hS => ?_)
        refine lv_if_eq S.1 S.2.1 dMod_step_83 rfl (fun hc => ?_) (fun hc => ?_)
        · have hw := hw.1 hc
          refine lv_aload_n S.1 S.2.1 dMod_step_91 rfl (lv_at hl 0 rfl) ?_
          refine zr_i (zr_V (As := []) (rest := []) S hK hT hN hP hS (by decide) (mF_0 _) rfl (cMod_entered l D cI cC cE ad A hJ _ _ hw) caMod_234 ⟨Nat.le_of_ble_eq_true rfl, Nat.le_of_ble_eq_true rfl⟩ ⟨rfl, rfl⟩ rfl hl.1 rfl (Nat.le_of_ble_eq_true rfl) dMod_step_92) hS (fun r92 h92 H locs hw hP hS => ?_)
          exact zr_iret S hr hlk hK hP hS rfl hw dMod_step_95
        · have hw := hw.2 hc
          refine lv_bipush (v := (-4)) S.1 S.2.1 dMod_step_86 (by decide) ?_
          refine lv_goto S.1 S.2.1 dMod_step_88 rfl ?_
          exact zr_iret S hr hlk hK hP hS rfl hw dMod_step_95
      · have hw := hw.2 hc
        refine lv_aload_n S.1 S.2.1 dMod_step_50 rfl (lv_at hl 0 rfl) ?_
        refine lv_aload_n S.1 S.2.1 dMod_step_51 rfl (lv_at hl 0 rfl) ?_
        refine lv_iload_n S.1 S.2.1 dMod_step_52 rfl (lv_at hl 1 rfl) ?_
        refine lv_iload_n S.1 S.2.1 dMod_step_53 rfl (lv_at hl 2 rfl) ?_
        refine zr_i (zr_V (As := [.int v1, .int v2]) (rest := [.ref (ad 0)]) S hK hT hN hP hS (by decide) (mF_0 _) rfl (cMod_wants l D cI cC cE ad A hJ _ _ _ _ hw) caMod_150 ⟨Nat.le_of_ble_eq_true rfl, Nat.le_of_ble_eq_true rfl⟩ ⟨rfl, rfl⟩ rfl hl.1 rfl (Nat.le_of_ble_eq_true rfl) dMod_step_54) hS (fun r54 h54 H locs hw hP hS => ?_)
        refine lv_iload_n S.1 S.2.1 dMod_step_57 rfl (lv_at hl 2 rfl) ?_
        refine zr_i (zr_V (As := [.int r54, .int v2]) (rest := []) S hK hT hN hP hS (by decide) (mF_0 _) rfl (cMod_chosen l D cI cC cE ad A hJ _ _ _ _ hw) caMod_224 ⟨Nat.le_of_ble_eq_true rfl, Nat.le_of_ble_eq_true rfl⟩ ⟨rfl, rfl⟩ rfl hl.1 rfl (Nat.le_of_ble_eq_true rfl) dMod_step_58) hS (fun r58 h58 H locs hw hP hS => ?_)
        refine lv_istore_n (lv' := [(3, .int r58), (0, .ref (ad 0)), (1, .int v1), (2, .int v2)]) S.1 S.2.1 dMod_step_61 rfl hl (by decide) rfl (fun ls hl => ?_)
        refine lv_iload_n S.1 S.2.1 dMod_step_62 rfl (lv_at hl 0 rfl) ?_
        refine lv_if_eq S.1 S.2.1 dMod_step_63 rfl (fun hc => ?_) (fun hc => ?_)
        · have hw := hw.1 hc
          refine lv_iinc (v := (v2 + 1)) (lv' := [(2, .int (v2 + 1)), (3, .int r58), (0, .ref (ad 0)), (1, .int v1)]) (k := 3) S.1 S.2.1 dMod_step_68 hl rfl rfl (by decide) rfl (fun ls hl => ?_)
          refine lv_goto S.1 S.2.1 dMod_step_71 rfl ?_
          exact ih37 _ _ _ _ _ _ hw (lv_sub hl [2, 3, 0] rfl) hP hS
        · have hw := hw.2 hc
          refine lv_iload_n S.1 S.2.1 dMod_step_66 rfl (lv_at hl 0 rfl) ?_
          exact zr_iret S hr hlk hK hP hS rfl hw dMod_step_67
  unfold wpMod_step at hw
  refine lv_aload_n S.1 S.2.1 dMod_step_0 rfl (lv_at hl 0 rfl) ?_
  refine zr_get S hK hP (by decide) (mF_0 _) fMod_entries q845 rfl dMod_step_1 ?_
  refine lv_bipush (v := 40) S.1 S.2.1 dMod_step_4 (by decide) ?_
  refine lv_icmp_ne S.1 S.2.1 dMod_step_6 rfl (fun hc => ?_) (fun hc => ?_)
  · have hw := hw.1 hc
    refine lv_aload_n S.1 S.2.1 dMod_step_12 rfl (lv_at hl 0 rfl) ?_
    refine zr_get S hK hP (by decide) (mF_0 _) fMod_operations q833 rfl dMod_step_13 ?_
    refine lv_if_ne S.1 S.2.1 dMod_step_16 rfl (fun hc => ?_) (fun hc => ?_)
    · have hw := hw.1 hc
      refine lv_aload_n S.1 S.2.1 dMod_step_21 rfl (lv_at hl 0 rfl) ?_
      refine lv_aload_n S.1 S.2.1 dMod_step_22 rfl (lv_at hl 0 rfl) ?_
      refine zr_get S hK hP (by decide) (mF_0 _) fMod_operations q833 rfl dMod_step_23 ?_
      refine zr_i (zr_V (As := [.int (h 0 5)]) (rest := []) S hK hT hN hP hS (by decide) (mF_0 _) rfl (cMod_random l D cI cC cE ad A hJ _ _ _ hw) caMod_214 ⟨Nat.le_of_ble_eq_true rfl, Nat.le_of_ble_eq_true rfl⟩ ⟨rfl, rfl⟩ rfl hl.1 rfl (Nat.le_of_ble_eq_true rfl) dMod_step_26) hS (fun r26 h26 H locs hw hP hS => ?_)
      refine lv_istore_n (lv' := [(1, .int r26), (0, .ref (ad 0))]) S.1 S.2.1 dMod_step_29 rfl hl (by decide) rfl (fun ls hl => ?_)
      refine lv_aload_n S.1 S.2.1 dMod_step_30 rfl (lv_at hl 1 rfl) ?_
      refine lv_iconst (v := 0) S.1 S.2.1 dMod_step_31 (by decide) ?_
      refine zr_put S hK hJ hP hS (by decide) (mF_0 _) fMod_size q839 rfl rfl (Nat.le_of_ble_eq_true rfl) (mF_0 _) dMod_step_32 (fun h32 H locs e32 hP hS => ?_)
      have hw := hw h32 e32
      refine lv_iconst (v := 0) S.1 S.2.1 dMod_step_35 (by decide) ?_
      refine lv_istore_n (lv' := [(2, .int 0), (1, .int r26), (0, .ref (ad 0))]) S.1 S.2.1 dMod_step_36 rfl hl (by decide) rfl (fun ls hl => ?_)
      obtain ⟨fu, hw⟩ := hw
      exact J37 fu _ _ _ _ _ _ hw (lv_sub hl [2, 1, 0] rfl) hP hS
    · have hw := hw.2 hc
      refine lv_iconst (v := (-1)) S.1 S.2.1 dMod_step_19 (by decide) ?_
      exact zr_iret S hr hlk hK hP hS rfl hw dMod_step_20
  · have hw := hw.2 hc
    refine lv_bipush (v := (-6)) S.1 S.2.1 dMod_step_9 (by decide) ?_
    exact zr_iret S hr hlk hK hP hS rfl hw dMod_step_11
/-! Mod.seek -/
theorem dMod_seek_0 : decode bMod_seek 0 = .ok (.iload_n 1, 1) := by decide +kernel
theorem dMod_seek_1 : decode bMod_seek 1 = .ok (.iconst 1, 1) := by decide +kernel
theorem dMod_seek_2 : decode bMod_seek 2 = .ok (.if_icmp .lt 9, 3) := by decide +kernel
theorem dMod_seek_5 : decode bMod_seek 5 = .ok (.iload_n 1, 1) := by decide +kernel
theorem dMod_seek_6 : decode bMod_seek 6 = .ok (.bipush 20, 2) := by decide +kernel
theorem dMod_seek_8 : decode bMod_seek 8 = .ok (.if_icmp .le 5, 3) := by decide +kernel
theorem dMod_seek_11 : decode bMod_seek 11 = .ok (.iconst (-1), 1) := by decide +kernel
theorem dMod_seek_12 : decode bMod_seek 12 = .ok (.ireturn, 1) := by decide +kernel
theorem dMod_seek_13 : decode bMod_seek 13 = .ok (.iconst 0, 1) := by decide +kernel
theorem dMod_seek_14 : decode bMod_seek 14 = .ok (.istore_n 2, 1) := by decide +kernel
theorem dMod_seek_15 : decode bMod_seek 15 = .ok (.iload_n 2, 1) := by decide +kernel
theorem dMod_seek_16 : decode bMod_seek 16 = .ok (.iload_n 1, 1) := by decide +kernel
theorem dMod_seek_17 : decode bMod_seek 17 = .ok (.if_icmp .ge 30, 3) := by decide +kernel
theorem dMod_seek_20 : decode bMod_seek 20 = .ok (.aload_n 0, 1) := by decide +kernel
theorem dMod_seek_21 : decode bMod_seek 21 = .ok (.invokevirtual 243, 3) := by decide +kernel
theorem dMod_seek_24 : decode bMod_seek 24 = .ok (.istore_n 3, 1) := by decide +kernel
theorem dMod_seek_25 : decode bMod_seek 25 = .ok (.iload_n 3, 1) := by decide +kernel
theorem dMod_seek_26 : decode bMod_seek 26 = .ok (.ifCond .lt 15, 3) := by decide +kernel
theorem dMod_seek_29 : decode bMod_seek 29 = .ok (.aload_n 0, 1) := by decide +kernel
theorem dMod_seek_30 : decode bMod_seek 30 = .ok (.getfield 62, 3) := by decide +kernel
theorem dMod_seek_33 : decode bMod_seek 33 = .ok (.iload_n 3, 1) := by decide +kernel
theorem dMod_seek_34 : decode bMod_seek 34 = .ok (.iaload, 1) := by decide +kernel
theorem dMod_seek_35 : decode bMod_seek 35 = .ok (.iconst 3, 1) := by decide +kernel
theorem dMod_seek_36 : decode bMod_seek 36 = .ok (.if_icmp .ne 5, 3) := by decide +kernel
theorem dMod_seek_39 : decode bMod_seek 39 = .ok (.iload_n 3, 1) := by decide +kernel
theorem dMod_seek_40 : decode bMod_seek 40 = .ok (.ireturn, 1) := by decide +kernel
theorem dMod_seek_41 : decode bMod_seek 41 = .ok (.iinc 2 1, 3) := by decide +kernel
theorem dMod_seek_44 : decode bMod_seek 44 = .ok (.goto (-29), 3) := by decide +kernel
theorem dMod_seek_47 : decode bMod_seek 47 = .ok (.iconst (-1), 1) := by decide +kernel
theorem dMod_seek_48 : decode bMod_seek 48 = .ok (.ireturn, 1) := by decide +kernel
def wbMod_seek_41 (post : Int32 → zM → Prop) (L15 : (Int32 × Int32 × zM) → Prop) (v1 : Int32) (v2 : Int32) (h : zM) : Prop := L15 (v1, (v2 + 1), h)
def stMod_seek_15 (post : Int32 → zM → Prop) (L15 : (Int32 × Int32 × zM) → Prop) : (Int32 × Int32 × zM) → Prop := fun s => match s with
  | (v1, v2, h) => (((v1 ≤ v2) → post (-1) h) ∧ (¬ (v1 ≤ v2) → wpMod_step h (fun r21 h21 => (((r21 < 0) → wbMod_seek_41 post L15 v1 v2 h21) ∧ (¬ (r21 < 0) → (vp_in r21 41 ∧ ((¬ (h21 17 (Int32.toNatClampNeg r21)) = 3 → wbMod_seek_41 post L15 v1 v2 h21) ∧ ((h21 17 (Int32.toNatClampNeg r21)) = 3 → post r21 h21))))))))
def wpMod_seek (x1 : Int32) (h : zM) (post : Int32 → zM → Prop) : Prop := (((x1 < 1) → post (-1) h) ∧ (¬ (x1 < 1) → (((x1 ≤ 20) → zL (stMod_seek_15 post) (x1, 0, h)) ∧ (¬ (x1 ≤ 20) → post (-1) h))))
abbrev rmMod_seek : Room := { frames := 7, cells := 0, slots := 0, locals := 162 }
set_option maxHeartbeats 4000000 in
set_option maxRecDepth 100000 in
theorem cMod_seek (l : Launch) (D : va_G) (cI cC cE : ClassId) (ad : Nat → Nat) (A : Nat → Prop) (hJ : zJ A 28 ad) (x1 : Int32) (h : zM) (post : Int32 → zM → Prop) (hw : wpMod_seek x1 h post) : Met l yMod_seek (.code yMod_seek bMod_seek 4 (some .int) :: zt) rmMod_seek (va_Pc [.ref (ad 0), .int x1] (zPre D (zty cI cC cE) 28 ad (mF ad cI) A h)) (va_Qi post (zPst D (zty cI cC cE) 28 ad (mF ad cI)) A) 0 0 A := by
  refine Met.ofW (cc := bMod_seek) (maxL := 4) (ret := (some .int)) (by decide) rfl ?_
  intro p e s m args below meth c s₁ B hml hv
  obtain ⟨rfl, hP, hK, hT, hN⟩ := hv
  have hr := B.returns
  have hlk := B.notSynchronized
  have S : zS p m c bMod_seek 4 s _ "CallExplorerModel" := ⟨B.exec, B.bytes, hml, findClass_of_methodNamed B.named, fun w hw => atoms_spec (ws := .code yMod_seek bMod_seek 4 (some .int) :: zt) B.pre w (List.mem_cons_of_mem _ hw)⟩
  have hS : va_S A s.heap s.heap [] := va_S.rf
  have hl := lv_entry ([.ref (ad 0), .int x1]) (n := 4) (Nat.le_of_ble_eq_true rfl)
  rw [lg_entry_eq]
  generalize (lg_sl ([.ref (ad 0), .int x1]) ++ List.replicate (4 - (lg_sl ([.ref (ad 0), .int x1])).length) Slot.unset).toArray = ls at hl ⊢
  have hl : lv_has ls 4 [(0, .ref (ad 0)), (1, .int x1)] := hl
  show W p l e rmMod_seek s m ([.ref (ad 0), .int x1] : List Value).toArray below meth c s.heap [] 0 0 (zQi post D (zty cI cC cE) 28 ad (mF ad cI) A below ([.ref (ad 0), .int x1] : List Value).toArray s) _
  have J15 : ∀ (fu : Nat) (v1 : Int32) (v2 : Int32) (h : zM) (H : Heap) (locs : List Loc) (ls : Array Slot), zl (stMod_seek_15 post) fu (v1, v2, h) → lv_has ls 4 [(0, .ref (ad 0)), (1, .int v1), (2, .int v2)] → va_P D zcl (zW 28 ad (mF ad cI) h) H → va_S A s.heap H locs → W p l e rmMod_seek s m ([.ref (ad 0), .int x1] : List Value).toArray below meth c H locs 0 0 (zQi post D (zty cI cC cE) 28 ad (mF ad cI) A below ([.ref (ad 0), .int x1] : List Value).toArray s) (F0 m 15 ls []) := by
    intro fu15
    induction fu15 with
    | zero =>
      intro v1 v2 h H locs ls hw
      exact (zl_0 hw).elim
    | succ fu15 ih15 =>
      intro v1 v2 h H locs ls hw hl hP hS
      have hw := zl_s hw
      generalize zl (stMod_seek_15 post) fu15 = L15 at hw ih15
      have J41 : ∀ (v1 : Int32) (v2 : Int32) (h : zM) (H : Heap) (locs : List Loc) (ls : Array Slot), wbMod_seek_41 post L15 v1 v2 h → lv_has ls 4 [(0, .ref (ad 0)), (1, .int v1), (2, .int v2)] → va_P D zcl (zW 28 ad (mF ad cI) h) H → va_S A s.heap H locs → W p l e rmMod_seek s m ([.ref (ad 0), .int x1] : List Value).toArray below meth c H locs 0 0 (zQi post D (zty cI cC cE) 28 ad (mF ad cI) A below ([.ref (ad 0), .int x1] : List Value).toArray s) (F0 m 41 ls []) := by
        intro v1 v2 h H locs ls hw hl hP hS
        unfold wbMod_seek_41 at hw
        refine lv_iinc (v := (v2 + 1)) (lv' := [(2, .int (v2 + 1)), (0, .ref (ad 0)), (1, .int v1)]) (k := 2) S.1 S.2.1 dMod_seek_41 hl rfl rfl (by decide) rfl (fun ls hl => ?_)
        refine lv_goto S.1 S.2.1 dMod_seek_44 rfl ?_
        exact ih15 _ _ _ _ _ _ hw (lv_sub hl [1, 2, 0] rfl) hP hS
      unfold stMod_seek_15 at hw
      dsimp only at hw
      refine lv_iload_n S.1 S.2.1 dMod_seek_15 rfl (lv_at hl 2 rfl) ?_
      refine lv_iload_n S.1 S.2.1 dMod_seek_16 rfl (lv_at hl 1 rfl) ?_
      refine lv_icmp_ge S.1 S.2.1 dMod_seek_17 rfl (fun hc => ?_) (fun hc => ?_)
      · have hw := hw.1 hc
        refine lv_iconst (v := (-1)) S.1 S.2.1 dMod_seek_47 (by decide) ?_
        exact zr_iret S hr hlk hK hP hS rfl hw dMod_seek_48
      · have hw := hw.2 hc
        refine lv_aload_n S.1 S.2.1 dMod_seek_20 rfl (lv_at hl 0 rfl) ?_
        refine zr_i (zr_V (As := []) (rest := []) S hK hT hN hP hS (by decide) (mF_0 _) rfl (cMod_step l D cI cC cE ad A hJ _ _ hw) caMod_243 ⟨Nat.le_of_ble_eq_true rfl, Nat.le_of_ble_eq_true rfl⟩ ⟨rfl, rfl⟩ rfl hl.1 rfl (Nat.le_of_ble_eq_true rfl) dMod_seek_21) hS (fun r21 h21 H locs hw hP hS => ?_)
        refine lv_istore_n (lv' := [(3, .int r21), (0, .ref (ad 0)), (1, .int v1), (2, .int v2)]) S.1 S.2.1 dMod_seek_24 rfl hl (by decide) rfl (fun ls hl => ?_)
        refine lv_iload_n S.1 S.2.1 dMod_seek_25 rfl (lv_at hl 0 rfl) ?_
        refine lv_if_lt S.1 S.2.1 dMod_seek_26 rfl (fun hc => ?_) (fun hc => ?_)
        · have hw := hw.1 hc
          exact J41 _ _ _ _ _ _ hw (lv_sub hl [1, 2, 3] rfl) hP hS
        · have hw := hw.2 hc
          refine lv_aload_n S.1 S.2.1 dMod_seek_29 rfl (lv_at hl 1 rfl) ?_
          refine zr_get S hK hP (by decide) (mF_0 _) fMod_outcome q850 rfl dMod_seek_30 ?_
          refine lv_iload_n S.1 S.2.1 dMod_seek_33 rfl (lv_at hl 0 rfl) ?_
          obtain ⟨z34, hw⟩ := hw
          refine zr_ald S hK hP (by decide) (mF_17 _) 0 rfl z34 dMod_seek_34 ?_
          refine lv_iconst (v := 3) S.1 S.2.1 dMod_seek_35 (by decide) ?_
          refine lv_icmp_ne S.1 S.2.1 dMod_seek_36 rfl (fun hc => ?_) (fun hc => ?_)
          · have hw := hw.1 hc
            exact J41 _ _ _ _ _ _ hw (lv_sub hl [1, 2, 3] rfl) hP hS
          · have hw := hw.2 hc
            refine lv_iload_n S.1 S.2.1 dMod_seek_39 rfl (lv_at hl 0 rfl) ?_
            exact zr_iret S hr hlk hK hP hS rfl hw dMod_seek_40
  unfold wpMod_seek at hw
  refine lv_iload_n S.1 S.2.1 dMod_seek_0 rfl (lv_at hl 1 rfl) ?_
  refine lv_iconst (v := 1) S.1 S.2.1 dMod_seek_1 (by decide) ?_
  refine lv_icmp_lt S.1 S.2.1 dMod_seek_2 rfl (fun hc => ?_) (fun hc => ?_)
  · have hw := hw.1 hc
    refine lv_iconst (v := (-1)) S.1 S.2.1 dMod_seek_11 (by decide) ?_
    exact zr_iret S hr hlk hK hP hS rfl hw dMod_seek_12
  · have hw := hw.2 hc
    refine lv_iload_n S.1 S.2.1 dMod_seek_5 rfl (lv_at hl 1 rfl) ?_
    refine lv_bipush (v := 20) S.1 S.2.1 dMod_seek_6 (by decide) ?_
    refine lv_icmp_le S.1 S.2.1 dMod_seek_8 rfl (fun hc => ?_) (fun hc => ?_)
    · have hw := hw.1 hc
      refine lv_iconst (v := 0) S.1 S.2.1 dMod_seek_13 (by decide) ?_
      refine lv_istore_n (lv' := [(2, .int 0), (0, .ref (ad 0)), (1, .int x1)]) S.1 S.2.1 dMod_seek_14 rfl hl (by decide) rfl (fun ls hl => ?_)
      obtain ⟨fu, hw⟩ := hw
      exact J15 fu _ _ _ _ _ _ hw (lv_sub hl [1, 2, 0] rfl) hP hS
    · have hw := hw.2 hc
      refine lv_iconst (v := (-1)) S.1 S.2.1 dMod_seek_11 (by decide) ?_
      exact zr_iret S hr hlk hK hP hS rfl hw dMod_seek_12
/-! Mod.used -/
theorem dMod_used_0 : decode bMod_used 0 = .ok (.iconst 0, 1) := by decide +kernel
theorem dMod_used_1 : decode bMod_used 1 = .ok (.istore_n 2, 1) := by decide +kernel
theorem dMod_used_2 : decode bMod_used 2 = .ok (.iconst 2, 1) := by decide +kernel
theorem dMod_used_3 : decode bMod_used 3 = .ok (.iload_n 1, 1) := by decide +kernel
theorem dMod_used_4 : decode bMod_used 4 = .ok (.imul, 1) := by decide +kernel
theorem dMod_used_5 : decode bMod_used 5 = .ok (.iconst 2, 1) := by decide +kernel
theorem dMod_used_6 : decode bMod_used 6 = .ok (.iadd, 1) := by decide +kernel
theorem dMod_used_7 : decode bMod_used 7 = .ok (.istore_n 3, 1) := by decide +kernel
theorem dMod_used_8 : decode bMod_used 8 = .ok (.iload_n 3, 1) := by decide +kernel
theorem dMod_used_9 : decode bMod_used 9 = .ok (.iconst 2, 1) := by decide +kernel
theorem dMod_used_10 : decode bMod_used 10 = .ok (.aload_n 0, 1) := by decide +kernel
theorem dMod_used_11 : decode bMod_used 11 = .ok (.getfield 156, 3) := by decide +kernel
theorem dMod_used_14 : decode bMod_used 14 = .ok (.imul, 1) := by decide +kernel
theorem dMod_used_15 : decode bMod_used 15 = .ok (.if_icmp .ge 38, 3) := by decide +kernel
theorem dMod_used_18 : decode bMod_used 18 = .ok (.iload_n 2, 1) := by decide +kernel
theorem dMod_used_19 : decode bMod_used 19 = .ok (.ifCond .ne 22, 3) := by decide +kernel
theorem dMod_used_22 : decode bMod_used 22 = .ok (.aload_n 0, 1) := by decide +kernel
theorem dMod_used_23 : decode bMod_used 23 = .ok (.getfield 38, 3) := by decide +kernel
theorem dMod_used_26 : decode bMod_used 26 = .ok (.iload_n 3, 1) := by decide +kernel
theorem dMod_used_27 : decode bMod_used 27 = .ok (.iaload, 1) := by decide +kernel
theorem dMod_used_28 : decode bMod_used 28 = .ok (.ifCond .ne 17, 3) := by decide +kernel
theorem dMod_used_31 : decode bMod_used 31 = .ok (.aload_n 0, 1) := by decide +kernel
theorem dMod_used_32 : decode bMod_used 32 = .ok (.getfield 41, 3) := by decide +kernel
theorem dMod_used_35 : decode bMod_used 35 = .ok (.iload_n 3, 1) := by decide +kernel
theorem dMod_used_36 : decode bMod_used 36 = .ok (.iaload, 1) := by decide +kernel
theorem dMod_used_37 : decode bMod_used 37 = .ok (.iload_n 1, 1) := by decide +kernel
theorem dMod_used_38 : decode bMod_used 38 = .ok (.if_icmp .ne 7, 3) := by decide +kernel
theorem dMod_used_41 : decode bMod_used 41 = .ok (.iconst 1, 1) := by decide +kernel
theorem dMod_used_42 : decode bMod_used 42 = .ok (.goto 4, 3) := by decide +kernel
theorem dMod_used_45 : decode bMod_used 45 = .ok (.iconst 0, 1) := by decide +kernel
theorem dMod_used_46 : decode bMod_used 46 = .ok (.istore_n 2, 1) := by decide +kernel
theorem dMod_used_47 : decode bMod_used 47 = .ok (.iinc 3 1, 3) := by decide +kernel
theorem dMod_used_50 : decode bMod_used 50 = .ok (.goto (-42), 3) := by decide +kernel
theorem dMod_used_53 : decode bMod_used 53 = .ok (.iload_n 2, 1) := by decide +kernel
theorem dMod_used_54 : decode bMod_used 54 = .ok (.ireturn, 1) := by decide +kernel
def wbMod_used_46 (post : Int32 → zM → Prop) (L8 : (Int32 × Int32 × Int32 × zM) → Prop) (v1 : Int32) (v3 : Int32) (k0 : Int32) (h : zM) : Prop := L8 (v1, k0, (v3 + 1), h)
def wbMod_used_41 (post : Int32 → zM → Prop) (L8 : (Int32 × Int32 × Int32 × zM) → Prop) (v1 : Int32) (v3 : Int32) (h : zM) : Prop := wbMod_used_46 post L8 v1 v3 1 h
def wbMod_used_45 (post : Int32 → zM → Prop) (L8 : (Int32 × Int32 × Int32 × zM) → Prop) (v1 : Int32) (v3 : Int32) (h : zM) : Prop := wbMod_used_46 post L8 v1 v3 0 h
def stMod_used_8 (post : Int32 → zM → Prop) (L8 : (Int32 × Int32 × Int32 × zM) → Prop) : (Int32 × Int32 × Int32 × zM) → Prop := fun s => match s with
  | (v1, v2, v3, h) => ((((2 * (h 0 11)) ≤ v3) → ((v2 = 0 ∨ v2 = 1) ∧ post v2 h)) ∧ (¬ ((2 * (h 0 11)) ≤ v3) → ((¬ v2 = 0 → wbMod_used_41 post L8 v1 v3 h) ∧ (v2 = 0 → (vp_in v3 40 ∧ ((¬ (h 9 (Int32.toNatClampNeg v3)) = 0 → wbMod_used_45 post L8 v1 v3 h) ∧ ((h 9 (Int32.toNatClampNeg v3)) = 0 → (vp_in v3 40 ∧ ((¬ (h 10 (Int32.toNatClampNeg v3)) = v1 → wbMod_used_45 post L8 v1 v3 h) ∧ ((h 10 (Int32.toNatClampNeg v3)) = v1 → wbMod_used_41 post L8 v1 v3 h))))))))))
def wpMod_used (x1 : Int32) (h : zM) (post : Int32 → zM → Prop) : Prop := ∀ y7 : Int32, y7 = ((2 * x1) + 2) → zL (stMod_used_8 post) (x1, 0, y7, h)
abbrev rmMod_used : Room := { frames := 0, cells := 0, slots := 0, locals := 0 }
set_option maxHeartbeats 4000000 in
set_option maxRecDepth 100000 in
theorem cMod_used (l : Launch) (D : va_G) (cI cC cE : ClassId) (ad : Nat → Nat) (A : Nat → Prop) (hJ : zJ A 28 ad) (x1 : Int32) (h : zM) (post : Int32 → zM → Prop) (hw : wpMod_used x1 h post) : Met l yMod_used (.code yMod_used bMod_used 4 (some .boolean) :: zt) rmMod_used (va_Pc [.ref (ad 0), .int x1] (zPre D (zty cI cC cE) 28 ad (mF ad cI) A h)) (va_Qi post (zPst D (zty cI cC cE) 28 ad (mF ad cI)) A) 0 0 A := by
  refine Met.ofW (cc := bMod_used) (maxL := 4) (ret := (some .boolean)) (by decide) rfl ?_
  intro p e s m args below meth c s₁ B hml hv
  obtain ⟨rfl, hP, hK, hT, hN⟩ := hv
  have hr := B.returns
  have hlk := B.notSynchronized
  have S : zS p m c bMod_used 4 s _ "CallExplorerModel" := ⟨B.exec, B.bytes, hml, findClass_of_methodNamed B.named, fun w hw => atoms_spec (ws := .code yMod_used bMod_used 4 (some .boolean) :: zt) B.pre w (List.mem_cons_of_mem _ hw)⟩
  have hS : va_S A s.heap s.heap [] := va_S.rf
  have hl := lv_entry ([.ref (ad 0), .int x1]) (n := 4) (Nat.le_of_ble_eq_true rfl)
  rw [lg_entry_eq]
  generalize (lg_sl ([.ref (ad 0), .int x1]) ++ List.replicate (4 - (lg_sl ([.ref (ad 0), .int x1])).length) Slot.unset).toArray = ls at hl ⊢
  have hl : lv_has ls 4 [(0, .ref (ad 0)), (1, .int x1)] := hl
  show W p l e rmMod_used s m ([.ref (ad 0), .int x1] : List Value).toArray below meth c s.heap [] 0 0 (zQi post D (zty cI cC cE) 28 ad (mF ad cI) A below ([.ref (ad 0), .int x1] : List Value).toArray s) _
  have J8 : ∀ (fu : Nat) (v1 : Int32) (v2 : Int32) (v3 : Int32) (h : zM) (H : Heap) (locs : List Loc) (ls : Array Slot), zl (stMod_used_8 post) fu (v1, v2, v3, h) → lv_has ls 4 [(0, .ref (ad 0)), (1, .int v1), (2, .int v2), (3, .int v3)] → va_P D zcl (zW 28 ad (mF ad cI) h) H → va_S A s.heap H locs → W p l e rmMod_used s m ([.ref (ad 0), .int x1] : List Value).toArray below meth c H locs 0 0 (zQi post D (zty cI cC cE) 28 ad (mF ad cI) A below ([.ref (ad 0), .int x1] : List Value).toArray s) (F0 m 8 ls []) := by
    intro fu8
    induction fu8 with
    | zero =>
      intro v1 v2 v3 h H locs ls hw
      exact (zl_0 hw).elim
    | succ fu8 ih8 =>
      intro v1 v2 v3 h H locs ls hw hl hP hS
      have hw := zl_s hw
      generalize zl (stMod_used_8 post) fu8 = L8 at hw ih8
      have J46 : ∀ (v1 : Int32) (v3 : Int32) (k0 : Int32) (h : zM) (H : Heap) (locs : List Loc) (ls : Array Slot), wbMod_used_46 post L8 v1 v3 k0 h → lv_has ls 4 [(0, .ref (ad 0)), (1, .int v1), (3, .int v3)] → va_P D zcl (zW 28 ad (mF ad cI) h) H → va_S A s.heap H locs → W p l e rmMod_used s m ([.ref (ad 0), .int x1] : List Value).toArray below meth c H locs 0 0 (zQi post D (zty cI cC cE) 28 ad (mF ad cI) A below ([.ref (ad 0), .int x1] : List Value).toArray s) (F0 m 46 ls [.int k0]) := by
        intro v1 v3 k0 h H locs ls hw hl hP hS
        unfold wbMod_used_46 at hw
        refine lv_istore_n (lv' := [(2, .int k0), (0, .ref (ad 0)), (1, .int v1), (3, .int v3)]) S.1 S.2.1 dMod_used_46 rfl hl (by decide) rfl (fun ls hl => ?_)
        refine lv_iinc (v := (v3 + 1)) (lv' := [(3, .int (v3 + 1)), (2, .int k0), (0, .ref (ad 0)), (1, .int v1)]) (k := 3) S.1 S.2.1 dMod_used_47 hl rfl rfl (by decide) rfl (fun ls hl => ?_)
        refine lv_goto S.1 S.2.1 dMod_used_50 rfl ?_
        exact ih8 _ _ _ _ _ _ _ hw (lv_sub hl [2, 3, 1, 0] rfl) hP hS
      have J41 : ∀ (v1 : Int32) (v3 : Int32) (h : zM) (H : Heap) (locs : List Loc) (ls : Array Slot), wbMod_used_41 post L8 v1 v3 h → lv_has ls 4 [(0, .ref (ad 0)), (1, .int v1), (3, .int v3)] → va_P D zcl (zW 28 ad (mF ad cI) h) H → va_S A s.heap H locs → W p l e rmMod_used s m ([.ref (ad 0), .int x1] : List Value).toArray below meth c H locs 0 0 (zQi post D (zty cI cC cE) 28 ad (mF ad cI) A below ([.ref (ad 0), .int x1] : List Value).toArray s) (F0 m 41 ls []) := by
        intro v1 v3 h H locs ls hw hl hP hS
        unfold wbMod_used_41 at hw
        refine lv_iconst (v := 1) S.1 S.2.1 dMod_used_41 (by decide) ?_
        refine lv_goto S.1 S.2.1 dMod_used_42 rfl ?_
        exact J46 _ _ _ _ _ _ _ hw (lv_sub hl [0, 1, 2] rfl) hP hS
      have J45 : ∀ (v1 : Int32) (v3 : Int32) (h : zM) (H : Heap) (locs : List Loc) (ls : Array Slot), wbMod_used_45 post L8 v1 v3 h → lv_has ls 4 [(0, .ref (ad 0)), (1, .int v1), (3, .int v3)] → va_P D zcl (zW 28 ad (mF ad cI) h) H → va_S A s.heap H locs → W p l e rmMod_used s m ([.ref (ad 0), .int x1] : List Value).toArray below meth c H locs 0 0 (zQi post D (zty cI cC cE) 28 ad (mF ad cI) A below ([.ref (ad 0), .int x1] : List Value).toArray s) (F0 m 45 ls []) := by
        intro v1 v3 h H locs ls hw hl hP hS
        unfold wbMod_used_45 at hw
        refine lv_iconst (v := 0) S.1 S.2.1 dMod_used_45 (by decide) ?_
        exact J46 _ _ _ _ _ _ _ hw (lv_sub hl [0, 1, 2] rfl) hP hS
      unfold stMod_used_8 at hw
      dsimp only at hw
      refine lv_iload_n S.1 S.2.1 dMod_used_8 rfl (lv_at hl 3 rfl) ?_
      refine lv_iconst (v := 2) S.1 S.2.1 dMod_used_9 (by decide) ?_
      refine lv_aload_n S.1 S.2.1 dMod_used_10 rfl (lv_at hl 0 rfl) ?_
      refine zr_get S hK hP (by decide) (mF_0 _) fMod_size q839 rfl dMod_used_11 ?_
      refine lv_imul S.1 S.2.1 dMod_used_14 ?_
      refine lv_icmp_ge S.1 S.2.1 dMod_used_15 rfl (fun hc => ?_) (fun hc => ?_)
      · have hw := hw.1 hc
        refine lv_iload_n S.1 S.2.1 dMod_used_53 rfl (lv_at hl 2 rfl) ?_
        exact zr_iret S hr hlk hK hP hS (zbn hw.1) hw.2 dMod_used_54
      · have hw := hw.2 hc
        refine lv_iload_n S.1 S.2.1 dMod_used_18 rfl (lv_at hl 2 rfl) ?_
        refine lv_if_ne S.1 S.2.1 dMod_used_19 rfl (fun hc => ?_) (fun hc => ?_)
        · have hw := hw.1 hc
          exact J41 _ _ _ _ _ _ hw (lv_sub hl [0, 1, 3] rfl) hP hS
        · have hw := hw.2 hc
          refine lv_aload_n S.1 S.2.1 dMod_used_22 rfl (lv_at hl 0 rfl) ?_
          refine zr_get S hK hP (by decide) (mF_0 _) fMod_how q841 rfl dMod_used_23 ?_
          refine lv_iload_n S.1 S.2.1 dMod_used_26 rfl (lv_at hl 3 rfl) ?_
          obtain ⟨z27, hw⟩ := hw
          refine zr_ald S hK hP (by decide) (mF_9 _) 0 rfl z27 dMod_used_27 ?_
          refine lv_if_ne S.1 S.2.1 dMod_used_28 rfl (fun hc => ?_) (fun hc => ?_)
          · have hw := hw.1 hc
            exact J45 _ _ _ _ _ _ hw (lv_sub hl [0, 1, 3] rfl) hP hS
          · have hw := hw.2 hc
            refine lv_aload_n S.1 S.2.1 dMod_used_31 rfl (lv_at hl 0 rfl) ?_
            refine zr_get S hK hP (by decide) (mF_0 _) fMod_arg q842 rfl dMod_used_32 ?_
            refine lv_iload_n S.1 S.2.1 dMod_used_35 rfl (lv_at hl 3 rfl) ?_
            obtain ⟨z36, hw⟩ := hw
            refine zr_ald S hK hP (by decide) (mF_10 _) 0 rfl z36 dMod_used_36 ?_
            refine lv_iload_n S.1 S.2.1 dMod_used_37 rfl (lv_at hl 1 rfl) ?_
            refine lv_icmp_ne S.1 S.2.1 dMod_used_38 rfl (fun hc => ?_) (fun hc => ?_)
            · have hw := hw.1 hc
              exact J45 _ _ _ _ _ _ hw (lv_sub hl [0, 1, 3] rfl) hP hS
            · have hw := hw.2 hc
              exact J41 _ _ _ _ _ _ hw (lv_sub hl [0, 1, 3] rfl) hP hS
  unfold wpMod_used at hw
  refine lv_iconst (v := 0) S.1 S.2.1 dMod_used_0 (by decide) ?_
  refine lv_istore_n (lv' := [(2, .int 0), (0, .ref (ad 0)), (1, .int x1)]) S.1 S.2.1 dMod_used_1 rfl hl (by decide) rfl (fun ls hl => ?_)
  refine lv_iconst (v := 2) S.1 S.2.1 dMod_used_2 (by decide) ?_
  refine lv_iload_n S.1 S.2.1 dMod_used_3 rfl (lv_at hl 2 rfl) ?_
  refine lv_imul S.1 S.2.1 dMod_used_4 ?_
  refine lv_iconst (v := 2) S.1 S.2.1 dMod_used_5 (by decide) ?_
  refine lv_iadd S.1 S.2.1 dMod_used_6 ?_
  refine lv_topi (fun y7 e7 => ?_)
  have hw := hw y7 e7
  refine lv_istore_n (lv' := [(3, .int y7), (2, .int 0), (0, .ref (ad 0)), (1, .int x1)]) S.1 S.2.1 dMod_used_7 rfl hl (by decide) rfl (fun ls hl => ?_)
  obtain ⟨fu, hw⟩ := hw
  exact J8 fu _ _ _ _ _ _ _ hw (lv_sub hl [2, 3, 1, 0] rfl) hP hS
/-! Mod.without -/
theorem dMod_without_0 : decode bMod_without 0 = .ok (.aload_n 0, 1) := by decide +kernel
theorem dMod_without_1 : decode bMod_without 1 = .ok (.dup, 1) := by decide +kernel
theorem dMod_without_2 : decode bMod_without 2 = .ok (.getfield 156, 3) := by decide +kernel
theorem dMod_without_5 : decode bMod_without 5 = .ok (.iconst 1, 1) := by decide +kernel
theorem dMod_without_6 : decode bMod_without 6 = .ok (.isub, 1) := by decide +kernel
theorem dMod_without_7 : decode bMod_without 7 = .ok (.putfield 156, 3) := by decide +kernel
theorem dMod_without_10 : decode bMod_without 10 = .ok (.iload_n 1, 1) := by decide +kernel
theorem dMod_without_11 : decode bMod_without 11 = .ok (.istore_n 2, 1) := by decide +kernel
theorem dMod_without_12 : decode bMod_without 12 = .ok (.iload_n 2, 1) := by decide +kernel
theorem dMod_without_13 : decode bMod_without 13 = .ok (.aload_n 0, 1) := by decide +kernel
theorem dMod_without_14 : decode bMod_without 14 = .ok (.getfield 156, 3) := by decide +kernel
theorem dMod_without_17 : decode bMod_without 17 = .ok (.if_icmp .ge 104, 3) := by decide +kernel
theorem dMod_without_20 : decode bMod_without 20 = .ok (.aload_n 0, 1) := by decide +kernel
theorem dMod_without_21 : decode bMod_without 21 = .ok (.getfield 35, 3) := by decide +kernel
theorem dMod_without_24 : decode bMod_without 24 = .ok (.iload_n 2, 1) := by decide +kernel
theorem dMod_without_25 : decode bMod_without 25 = .ok (.aload_n 0, 1) := by decide +kernel
theorem dMod_without_26 : decode bMod_without 26 = .ok (.getfield 35, 3) := by decide +kernel
theorem dMod_without_29 : decode bMod_without 29 = .ok (.iload_n 2, 1) := by decide +kernel
theorem dMod_without_30 : decode bMod_without 30 = .ok (.iconst 1, 1) := by decide +kernel
theorem dMod_without_31 : decode bMod_without 31 = .ok (.iadd, 1) := by decide +kernel
theorem dMod_without_32 : decode bMod_without 32 = .ok (.iaload, 1) := by decide +kernel
theorem dMod_without_33 : decode bMod_without 33 = .ok (.iastore, 1) := by decide +kernel
theorem dMod_without_34 : decode bMod_without 34 = .ok (.iconst 2, 1) := by decide +kernel
theorem dMod_without_35 : decode bMod_without 35 = .ok (.iload_n 2, 1) := by decide +kernel
theorem dMod_without_36 : decode bMod_without 36 = .ok (.imul, 1) := by decide +kernel
theorem dMod_without_37 : decode bMod_without 37 = .ok (.istore_n 3, 1) := by decide +kernel
theorem dMod_without_38 : decode bMod_without 38 = .ok (.iload_n 3, 1) := by decide +kernel
theorem dMod_without_39 : decode bMod_without 39 = .ok (.iconst 2, 1) := by decide +kernel
theorem dMod_without_40 : decode bMod_without 40 = .ok (.iload_n 2, 1) := by decide +kernel
theorem dMod_without_41 : decode bMod_without 41 = .ok (.imul, 1) := by decide +kernel
theorem dMod_without_42 : decode bMod_without 42 = .ok (.iconst 2, 1) := by decide +kernel
theorem dMod_without_43 : decode bMod_without 43 = .ok (.iadd, 1) := by decide +kernel
theorem dMod_without_44 : decode bMod_without 44 = .ok (.if_icmp .ge 71, 3) := by decide +kernel
theorem dMod_without_47 : decode bMod_without 47 = .ok (.aload_n 0, 1) := by decide +kernel
theorem dMod_without_48 : decode bMod_without 48 = .ok (.getfield 38, 3) := by decide +kernel
theorem dMod_without_51 : decode bMod_without 51 = .ok (.iload_n 3, 1) := by decide +kernel
theorem dMod_without_52 : decode bMod_without 52 = .ok (.aload_n 0, 1) := by decide +kernel
theorem dMod_without_53 : decode bMod_without 53 = .ok (.getfield 38, 3) := by decide +kernel
theorem dMod_without_56 : decode bMod_without 56 = .ok (.iload_n 3, 1) := by decide +kernel
theorem dMod_without_57 : decode bMod_without 57 = .ok (.iconst 2, 1) := by decide +kernel
theorem dMod_without_58 : decode bMod_without 58 = .ok (.iadd, 1) := by decide +kernel
theorem dMod_without_59 : decode bMod_without 59 = .ok (.iaload, 1) := by decide +kernel
theorem dMod_without_60 : decode bMod_without 60 = .ok (.iastore, 1) := by decide +kernel
theorem dMod_without_61 : decode bMod_without 61 = .ok (.aload_n 0, 1) := by decide +kernel
theorem dMod_without_62 : decode bMod_without 62 = .ok (.getfield 41, 3) := by decide +kernel
theorem dMod_without_65 : decode bMod_without 65 = .ok (.iload_n 3, 1) := by decide +kernel
theorem dMod_without_66 : decode bMod_without 66 = .ok (.aload_n 0, 1) := by decide +kernel
theorem dMod_without_67 : decode bMod_without 67 = .ok (.getfield 38, 3) := by decide +kernel
theorem dMod_without_70 : decode bMod_without 70 = .ok (.iload_n 3, 1) := by decide +kernel
theorem dMod_without_71 : decode bMod_without 71 = .ok (.iaload, 1) := by decide +kernel
theorem dMod_without_72 : decode bMod_without 72 = .ok (.ifCond .ne 28, 3) := by decide +kernel
theorem dMod_without_75 : decode bMod_without 75 = .ok (.aload_n 0, 1) := by decide +kernel
theorem dMod_without_76 : decode bMod_without 76 = .ok (.getfield 41, 3) := by decide +kernel
theorem dMod_without_79 : decode bMod_without 79 = .ok (.iload_n 3, 1) := by decide +kernel
theorem dMod_without_80 : decode bMod_without 80 = .ok (.iconst 2, 1) := by decide +kernel
theorem dMod_without_81 : decode bMod_without 81 = .ok (.iadd, 1) := by decide +kernel
theorem dMod_without_82 : decode bMod_without 82 = .ok (.iaload, 1) := by decide +kernel
theorem dMod_without_83 : decode bMod_without 83 = .ok (.iload_n 1, 1) := by decide +kernel
theorem dMod_without_84 : decode bMod_without 84 = .ok (.if_icmp .le 16, 3) := by decide +kernel
theorem dMod_without_87 : decode bMod_without 87 = .ok (.aload_n 0, 1) := by decide +kernel
theorem dMod_without_88 : decode bMod_without 88 = .ok (.getfield 41, 3) := by decide +kernel
theorem dMod_without_91 : decode bMod_without 91 = .ok (.iload_n 3, 1) := by decide +kernel
theorem dMod_without_92 : decode bMod_without 92 = .ok (.iconst 2, 1) := by decide +kernel
theorem dMod_without_93 : decode bMod_without 93 = .ok (.iadd, 1) := by decide +kernel
theorem dMod_without_94 : decode bMod_without 94 = .ok (.iaload, 1) := by decide +kernel
theorem dMod_without_95 : decode bMod_without 95 = .ok (.iconst 1, 1) := by decide +kernel
theorem dMod_without_96 : decode bMod_without 96 = .ok (.isub, 1) := by decide +kernel
theorem dMod_without_97 : decode bMod_without 97 = .ok (.goto 11, 3) := by decide +kernel
theorem dMod_without_100 : decode bMod_without 100 = .ok (.aload_n 0, 1) := by decide +kernel
theorem dMod_without_101 : decode bMod_without 101 = .ok (.getfield 41, 3) := by decide +kernel
theorem dMod_without_104 : decode bMod_without 104 = .ok (.iload_n 3, 1) := by decide +kernel
theorem dMod_without_105 : decode bMod_without 105 = .ok (.iconst 2, 1) := by decide +kernel
theorem dMod_without_106 : decode bMod_without 106 = .ok (.iadd, 1) := by decide +kernel
theorem dMod_without_107 : decode bMod_without 107 = .ok (.iaload, 1) := by decide +kernel
theorem dMod_without_108 : decode bMod_without 108 = .ok (.iastore, 1) := by decide +kernel
theorem dMod_without_109 : decode bMod_without 109 = .ok (.iinc 3 1, 3) := by decide +kernel
theorem dMod_without_112 : decode bMod_without 112 = .ok (.goto (-74), 3) := by decide +kernel
theorem dMod_without_115 : decode bMod_without 115 = .ok (.iinc 2 1, 3) := by decide +kernel
theorem dMod_without_118 : decode bMod_without 118 = .ok (.goto (-106), 3) := by decide +kernel
theorem dMod_without_121 : decode bMod_without 121 = .ok (.return_, 1) := by decide +kernel
def wbMod_without_108 (post : zM → Prop) (L12 : (Int32 × Int32 × zM) → Prop) (L38 : (Int32 × Int32 × Int32 × zM) → Prop) (v1 : Int32) (v2 : Int32) (v3 : Int32) (k1 : Int32) (k2 : Int32) (h : zM) : Prop := (vp_in k1 40 ∧ ∀ h108 : zM, h108 = zu h 10 (Int32.toNatClampNeg k1) k2 → L38 (v1, v2, (v3 + 1), h108))
def wbMod_without_100 (post : zM → Prop) (L12 : (Int32 × Int32 × zM) → Prop) (L38 : (Int32 × Int32 × Int32 × zM) → Prop) (v1 : Int32) (v2 : Int32) (v3 : Int32) (k1 : Int32) (h : zM) : Prop := (vp_in (v3 + 2) 40 ∧ wbMod_without_108 post L12 L38 v1 v2 v3 k1 (h 10 (Int32.toNatClampNeg (v3 + 2))) h)
def stMod_without_38 (post : zM → Prop) (L12 : (Int32 × Int32 × zM) → Prop) (L38 : (Int32 × Int32 × Int32 × zM) → Prop) : (Int32 × Int32 × Int32 × zM) → Prop := fun s => match s with
  | (v1, v2, v3, h) => (((((2 * v2) + 2) ≤ v3) → L12 (v1, (v2 + 1), h)) ∧ (¬ (((2 * v2) + 2) ≤ v3) → (vp_in (v3 + 2) 40 ∧ (vp_in v3 40 ∧ ∀ h60 : zM, h60 = zu h 9 (Int32.toNatClampNeg v3) (h 9 (Int32.toNatClampNeg (v3 + 2))) → (vp_in v3 40 ∧ ((¬ (h60 9 (Int32.toNatClampNeg v3)) = 0 → wbMod_without_100 post L12 L38 v1 v2 v3 v3 h60) ∧ ((h60 9 (Int32.toNatClampNeg v3)) = 0 → (vp_in (v3 + 2) 40 ∧ ((((h60 10 (Int32.toNatClampNeg (v3 + 2))) ≤ v1) → wbMod_without_100 post L12 L38 v1 v2 v3 v3 h60) ∧ (¬ ((h60 10 (Int32.toNatClampNeg (v3 + 2))) ≤ v1) → (vp_in (v3 + 2) 40 ∧ wbMod_without_108 post L12 L38 v1 v2 v3 v3 ((h60 10 (Int32.toNatClampNeg (v3 + 2))) - 1) h60)))))))))))
def stMod_without_12 (post : zM → Prop) (L12 : (Int32 × Int32 × zM) → Prop) : (Int32 × Int32 × zM) → Prop := fun s => match s with
  | (v1, v2, h) => ((((h 0 11) ≤ v2) → post h) ∧ (¬ ((h 0 11) ≤ v2) → (vp_in (v2 + 1) 20 ∧ (vp_in v2 20 ∧ ∀ h33 : zM, h33 = zu h 8 (Int32.toNatClampNeg v2) (h 8 (Int32.toNatClampNeg (v2 + 1))) → ∀ y37 : Int32, y37 = (2 * v2) → zL (stMod_without_38 post L12) (v1, v2, y37, h33)))))
def wpMod_without (x1 : Int32) (h : zM) (post : zM → Prop) : Prop := ∀ h7 : zM, h7 = zu h 0 11 ((h 0 11) - 1) → zL (stMod_without_12 post) (x1, x1, h7)
abbrev rmMod_without : Room := { frames := 0, cells := 0, slots := 0, locals := 0 }
set_option maxHeartbeats 4000000 in
set_option maxRecDepth 100000 in
theorem cMod_without (l : Launch) (D : va_G) (cI cC cE : ClassId) (ad : Nat → Nat) (A : Nat → Prop) (hJ : zJ A 28 ad) (x1 : Int32) (h : zM) (post : zM → Prop) (hw : wpMod_without x1 h post) : Met l yMod_without (.code yMod_without bMod_without 4 none :: zt) rmMod_without (va_Pc [.ref (ad 0), .int x1] (zPre D (zty cI cC cE) 28 ad (mF ad cI) A h)) (va_Qv post (zPst D (zty cI cC cE) 28 ad (mF ad cI)) A) 0 0 A := by
  refine Met.ofW (cc := bMod_without) (maxL := 4) (ret := none) (by decide) rfl ?_
  intro p e s m args below meth c s₁ B hml hv
  obtain ⟨rfl, hP, hK, hT, hN⟩ := hv
  have hr := B.returns
  have hlk := B.notSynchronized
  have S : zS p m c bMod_without 4 s _ "CallExplorerModel" := ⟨B.exec, B.bytes, hml, findClass_of_methodNamed B.named, fun w hw => atoms_spec (ws := .code yMod_without bMod_without 4 none :: zt) B.pre w (List.mem_cons_of_mem _ hw)⟩
  have hS : va_S A s.heap s.heap [] := va_S.rf
  have hl := lv_entry ([.ref (ad 0), .int x1]) (n := 4) (Nat.le_of_ble_eq_true rfl)
  rw [lg_entry_eq]
  generalize (lg_sl ([.ref (ad 0), .int x1]) ++ List.replicate (4 - (lg_sl ([.ref (ad 0), .int x1])).length) Slot.unset).toArray = ls at hl ⊢
  have hl : lv_has ls 4 [(0, .ref (ad 0)), (1, .int x1)] := hl
  show W p l e rmMod_without s m ([.ref (ad 0), .int x1] : List Value).toArray below meth c s.heap [] 0 0 (zQv post D (zty cI cC cE) 28 ad (mF ad cI) A below ([.ref (ad 0), .int x1] : List Value).toArray s) _
  have J12 : ∀ (fu : Nat) (v1 : Int32) (v2 : Int32) (h : zM) (H : Heap) (locs : List Loc) (ls : Array Slot), zl (stMod_without_12 post) fu (v1, v2, h) → lv_has ls 4 [(0, .ref (ad 0)), (1, .int v1), (2, .int v2)] → va_P D zcl (zW 28 ad (mF ad cI) h) H → va_S A s.heap H locs → W p l e rmMod_without s m ([.ref (ad 0), .int x1] : List Value).toArray below meth c H locs 0 0 (zQv post D (zty cI cC cE) 28 ad (mF ad cI) A below ([.ref (ad 0), .int x1] : List Value).toArray s) (F0 m 12 ls []) := by
    intro fu12
    induction fu12 with
    | zero =>
      intro v1 v2 h H locs ls hw
      exact (zl_0 hw).elim
    | succ fu12 ih12 =>
      intro v1 v2 h H locs ls hw hl hP hS
      have hw := zl_s hw
      generalize zl (stMod_without_12 post) fu12 = L12 at hw ih12
      have J38 : ∀ (fu : Nat) (v1 : Int32) (v2 : Int32) (v3 : Int32) (h : zM) (H : Heap) (locs : List Loc) (ls : Array Slot), zl (stMod_without_38 post L12) fu (v1, v2, v3, h) → lv_has ls 4 [(0, .ref (ad 0)), (1, .int v1), (2, .int v2), (3, .int v3)] → va_P D zcl (zW 28 ad (mF ad cI) h) H → va_S A s.heap H locs → W p l e rmMod_without s m ([.ref (ad 0), .int x1] : List Value).toArray below meth c H locs 0 0 (zQv post D (zty cI cC cE) 28 ad (mF ad cI) A below ([.ref (ad 0), .int x1] : List Value).toArray s) (F0 m 38 ls []) := by
        intro fu38
        induction fu38 with
        | zero =>
          intro v1 v2 v3 h H locs ls hw
          exact (zl_0 hw).elim
        | succ fu38 ih38 =>
          intro v1 v2 v3 h H locs ls hw hl hP hS
          have hw := zl_s hw
          generalize zl (stMod_without_38 post L12) fu38 = L38 at hw ih38
          have J108 : ∀ (v1 : Int32) (v2 : Int32) (v3 : Int32) (k1 : Int32) (k2 : Int32) (h : zM) (H : Heap) (locs : List Loc) (ls : Array Slot), wbMod_without_108 post L12 L38 v1 v2 v3 k1 k2 h → lv_has ls 4 [(0, .ref (ad 0)), (1, .int v1), (2, .int v2), (3, .int v3)] → va_P D zcl (zW 28 ad (mF ad cI) h) H → va_S A s.heap H locs → W p l e rmMod_without s m ([.ref (ad 0), .int x1] : List Value).toArray below meth c H locs 0 0 (zQv post D (zty cI cC cE) 28 ad (mF ad cI) A below ([.ref (ad 0), .int x1] : List Value).toArray s) (F0 m 108 ls [.int k2, .int k1, .ref (ad 10)]) := by
            intro v1 v2 v3 k1 k2 h H locs ls hw hl hP hS
            unfold wbMod_without_108 at hw
            obtain ⟨z108, hw⟩ := hw
            refine zr_ast S hK hJ hP hS (by decide) mF_10 0 rfl z108 dMod_without_108 (fun h108 H locs e108 hP hS => ?_)
            have hw := hw h108 e108
            refine lv_iinc (v := (v3 + 1)) (lv' := [(3, .int (v3 + 1)), (0, .ref (ad 0)), (1, .int v1), (2, .int v2)]) (k := 3) S.1 S.2.1 dMod_without_109 hl rfl rfl (by decide) rfl (fun ls hl => ?_)
            refine lv_goto S.1 S.2.1 dMod_without_112 rfl ?_
            exact ih38 _ _ _ _ _ _ _ hw (lv_sub hl [1, 2, 3, 0] rfl) hP hS
          have J100 : ∀ (v1 : Int32) (v2 : Int32) (v3 : Int32) (k1 : Int32) (h : zM) (H : Heap) (locs : List Loc) (ls : Array Slot), wbMod_without_100 post L12 L38 v1 v2 v3 k1 h → lv_has ls 4 [(0, .ref (ad 0)), (1, .int v1), (2, .int v2), (3, .int v3)] → va_P D zcl (zW 28 ad (mF ad cI) h) H → va_S A s.heap H locs → W p l e rmMod_without s m ([.ref (ad 0), .int x1] : List Value).toArray below meth c H locs 0 0 (zQv post D (zty cI cC cE) 28 ad (mF ad cI) A below ([.ref (ad 0), .int x1] : List Value).toArray s) (F0 m 100 ls [.int k1, .ref (ad 10)]) := by
            intro v1 v2 v3 k1 h H locs ls hw hl hP hS
            unfold wbMod_without_100 at hw
            refine lv_aload_n S.1 S.2.1 dMod_without_100 rfl (lv_at hl 0 rfl) ?_
            refine zr_get S hK hP (by decide) (mF_0 _) fMod_arg q842 rfl dMod_without_101 ?_
            refine lv_iload_n S.1 S.2.1 dMod_without_104 rfl (lv_at hl 3 rfl) ?_
            refine lv_iconst (v := 2) S.1 S.2.1 dMod_without_105 (by decide) ?_
            refine lv_iadd S.1 S.2.1 dMod_without_106 ?_
            obtain ⟨z107, hw⟩ := hw
            refine zr_ald S hK hP (by decide) (mF_10 _) 0 rfl z107 dMod_without_107 ?_
            exact J108 _ _ _ _ _ _ _ _ _ hw (lv_sub hl [0, 1, 2, 3] rfl) hP hS
          unfold stMod_without_38 at hw
          dsimp only at hw
          refine lv_iload_n S.1 S.2.1 dMod_without_38 rfl (lv_at hl 3 rfl) ?_
          refine lv_iconst (v := 2) S.1 S.2.1 dMod_without_39 (by decide) ?_
          refine lv_iload_n S.1 S.2.1 dMod_without_40 rfl (lv_at hl 2 rfl) ?_
          refine lv_imul S.1 S.2.1 dMod_without_41 ?_
          refine lv_iconst (v := 2) S.1 S.2.1 dMod_without_42 (by decide) ?_
          refine lv_iadd S.1 S.2.1 dMod_without_43 ?_
          refine lv_icmp_ge S.1 S.2.1 dMod_without_44 rfl (fun hc => ?_) (fun hc => ?_)
          · have hw := hw.1 hc
            refine lv_iinc (v := (v2 + 1)) (lv' := [(2, .int (v2 + 1)), (0, .ref (ad 0)), (1, .int v1), (3, .int v3)]) (k := 2) S.1 S.2.1 dMod_without_115 hl rfl rfl (by decide) rfl (fun ls hl => ?_)
            refine lv_goto S.1 S.2.1 dMod_without_118 rfl ?_
            exact ih12 _ _ _ _ _ _ hw (lv_sub hl [1, 2, 0] rfl) hP hS
          · have hw := hw.2 hc
            refine lv_aload_n S.1 S.2.1 dMod_without_47 rfl (lv_at hl 0 rfl) ?_
            refine zr_get S hK hP (by decide) (mF_0 _) fMod_how q841 rfl dMod_without_48 ?_
            refine lv_iload_n S.1 S.2.1 dMod_without_51 rfl (lv_at hl 3 rfl) ?_
            refine lv_aload_n S.1 S.2.1 dMod_without_52 rfl (lv_at hl 0 rfl) ?_
            refine zr_get S hK hP (by decide) (mF_0 _) fMod_how q841 rfl dMod_without_53 ?_
            refine lv_iload_n S.1 S.2.1 dMod_without_56 rfl (lv_at hl 3 rfl) ?_
            refine lv_iconst (v := 2) S.1 S.2.1 dMod_without_57 (by decide) ?_
            refine lv_iadd S.1 S.2.1 dMod_without_58 ?_
            obtain ⟨z59, hw⟩ := hw
            refine zr_ald S hK hP (by decide) (mF_9 _) 0 rfl z59 dMod_without_59 ?_
            obtain ⟨z60, hw⟩ := hw
            refine zr_ast S hK hJ hP hS (by decide) mF_9 0 rfl z60 dMod_without_60 (fun h60 H locs e60 hP hS => ?_)
            have hw := hw h60 e60
            refine lv_aload_n S.1 S.2.1 dMod_without_61 rfl (lv_at hl 0 rfl) ?_
            refine zr_get S hK hP (by decide) (mF_0 _) fMod_arg q842 rfl dMod_without_62 ?_
            refine lv_iload_n S.1 S.2.1 dMod_without_65 rfl (lv_at hl 3 rfl) ?_
            refine lv_aload_n S.1 S.2.1 dMod_without_66 rfl (lv_at hl 0 rfl) ?_
            refine zr_get S hK hP (by decide) (mF_0 _) fMod_how q841 rfl dMod_without_67 ?_
            refine lv_iload_n S.1 S.2.1 dMod_without_70 rfl (lv_at hl 3 rfl) ?_
            obtain ⟨z71, hw⟩ := hw
            refine zr_ald S hK hP (by decide) (mF_9 _) 0 rfl z71 dMod_without_71 ?_
            refine lv_if_ne S.1 S.2.1 dMod_without_72 rfl (fun hc => ?_) (fun hc => ?_)
            · have hw := hw.1 hc
              exact J100 _ _ _ _ _ _ _ _ hw (lv_sub hl [0, 1, 2, 3] rfl) hP hS
            · have hw := hw.2 hc
              refine lv_aload_n S.1 S.2.1 dMod_without_75 rfl (lv_at hl 0 rfl) ?_
              refine zr_get S hK hP (by decide) (mF_0 _) fMod_arg q842 rfl dMod_without_76 ?_
              refine lv_iload_n S.1 S.2.1 dMod_without_79 rfl (lv_at hl 3 rfl) ?_
              refine lv_iconst (v := 2) S.1 S.2.1 dMod_without_80 (by decide) ?_
              refine lv_iadd S.1 S.2.1 dMod_without_81 ?_
              obtain ⟨z82, hw⟩ := hw
              refine zr_ald S hK hP (by decide) (mF_10 _) 0 rfl z82 dMod_without_82 ?_
              refine lv_iload_n S.1 S.2.1 dMod_without_83 rfl (lv_at hl 1 rfl) ?_
              refine lv_icmp_le S.1 S.2.1 dMod_without_84 rfl (fun hc => ?_) (fun hc => ?_)
              · have hw := hw.1 hc
                exact J100 _ _ _ _ _ _ _ _ hw (lv_sub hl [0, 1, 2, 3] rfl) hP hS
              · have hw := hw.2 hc
                refine lv_aload_n S.1 S.2.1 dMod_without_87 rfl (lv_at hl 0 rfl) ?_
                refine zr_get S hK hP (by decide) (mF_0 _) fMod_arg q842 rfl dMod_without_88 ?_
                refine lv_iload_n S.1 S.2.1 dMod_without_91 rfl (lv_at hl 3 rfl) ?_
                refine lv_iconst (v := 2) S.1 S.2.1 dMod_without_92 (by decide) ?_
                refine lv_iadd S.1 S.2.1 dMod_without_93 ?_
                obtain ⟨z94, hw⟩ := hw
                refine zr_ald S hK hP (by decide) (mF_10 _) 0 rfl z94 dMod_without_94 ?_
                refine lv_iconst (v := 1) S.1 S.2.1 dMod_without_95 (by decide) ?_
                refine lv_isub S.1 S.2.1 dMod_without_96 ?_
                refine lv_goto S.1 S.2.1 dMod_without_97 rfl ?_
                exact J108 _ _ _ _ _ _ _ _ _ hw (lv_sub hl [0, 1, 2, 3] rfl) hP hS
      unfold stMod_without_12 at hw
      dsimp only at hw
      refine lv_iload_n S.1 S.2.1 dMod_without_12 rfl (lv_at hl 2 rfl) ?_
      refine lv_aload_n S.1 S.2.1 dMod_without_13 rfl (lv_at hl 0 rfl) ?_
      refine zr_get S hK hP (by decide) (mF_0 _) fMod_size q839 rfl dMod_without_14 ?_
      refine lv_icmp_ge S.1 S.2.1 dMod_without_17 rfl (fun hc => ?_) (fun hc => ?_)
      · have hw := hw.1 hc
        exact zr_vret S hr hlk hK hP hS hw dMod_without_121
      · have hw := hw.2 hc
        refine lv_aload_n S.1 S.2.1 dMod_without_20 rfl (lv_at hl 0 rfl) ?_
        refine zr_get S hK hP (by decide) (mF_0 _) fMod_op q840 rfl dMod_without_21 ?_
        refine lv_iload_n S.1 S.2.1 dMod_without_24 rfl (lv_at hl 2 rfl) ?_
        refine lv_aload_n S.1 S.2.1 dMod_without_25 rfl (lv_at hl 0 rfl) ?_
        refine zr_get S hK hP (by decide) (mF_0 _) fMod_op q840 rfl dMod_without_26 ?_
        refine lv_iload_n S.1 S.2.1 dMod_without_29 rfl (lv_at hl 2 rfl) ?_
        refine lv_iconst (v := 1) S.1 S.2.1 dMod_without_30 (by decide) ?_
        refine lv_iadd S.1 S.2.1 dMod_without_31 ?_
        obtain ⟨z32, hw⟩ := hw
        refine zr_ald S hK hP (by decide) (mF_8 _) 0 rfl z32 dMod_without_32 ?_
        obtain ⟨z33, hw⟩ := hw
        refine zr_ast S hK hJ hP hS (by decide) mF_8 0 rfl z33 dMod_without_33 (fun h33 H locs e33 hP hS => ?_)
        have hw := hw h33 e33
        refine lv_iconst (v := 2) S.1 S.2.1 dMod_without_34 (by decide) ?_
        refine lv_iload_n S.1 S.2.1 dMod_without_35 rfl (lv_at hl 2 rfl) ?_
        refine lv_imul S.1 S.2.1 dMod_without_36 ?_
        refine lv_topi (fun y37 e37 => ?_)
        have hw := hw y37 e37
        refine lv_istore_n (lv' := [(3, .int y37), (0, .ref (ad 0)), (1, .int v1), (2, .int v2)]) S.1 S.2.1 dMod_without_37 rfl hl (by decide) rfl (fun ls hl => ?_)
        obtain ⟨fu, hw⟩ := hw
        exact J38 fu _ _ _ _ _ _ _ hw (lv_sub hl [1, 2, 3, 0] rfl) hP hS
  unfold wpMod_without at hw
  refine lv_aload_n S.1 S.2.1 dMod_without_0 rfl (lv_at hl 0 rfl) ?_
  refine lv_dup S.1 S.2.1 dMod_without_1 rfl ?_
  refine zr_get S hK hP (by decide) (mF_0 _) fMod_size q839 rfl dMod_without_2 ?_
  refine lv_iconst (v := 1) S.1 S.2.1 dMod_without_5 (by decide) ?_
  refine lv_isub S.1 S.2.1 dMod_without_6 ?_
  refine zr_put S hK hJ hP hS (by decide) (mF_0 _) fMod_size q839 rfl rfl (Nat.le_of_ble_eq_true rfl) (mF_0 _) dMod_without_7 (fun h7 H locs e7 hP hS => ?_)
  have hw := hw h7 e7
  refine lv_iload_n S.1 S.2.1 dMod_without_10 rfl (lv_at hl 1 rfl) ?_
  refine lv_istore_n (lv' := [(2, .int x1), (0, .ref (ad 0)), (1, .int x1)]) S.1 S.2.1 dMod_without_11 rfl hl (by decide) rfl (fun ls hl => ?_)
  obtain ⟨fu, hw⟩ := hw
  exact J12 fu _ _ _ _ _ _ hw (lv_sub hl [1, 2, 0] rfl) hP hS
/-! Mod.settle -/
theorem dMod_settle_0 : decode bMod_settle 0 = .ok (.aload_n 0, 1) := by decide +kernel
theorem dMod_settle_1 : decode bMod_settle 1 = .ok (.invokevirtual 198, 3) := by decide +kernel
theorem dMod_settle_4 : decode bMod_settle 4 = .ok (.aload_n 0, 1) := by decide +kernel
theorem dMod_settle_5 : decode bMod_settle 5 = .ok (.getfield 165, 3) := by decide +kernel
theorem dMod_settle_8 : decode bMod_settle 8 = .ok (.aload_n 0, 1) := by decide +kernel
theorem dMod_settle_9 : decode bMod_settle 9 = .ok (.getfield 62, 3) := by decide +kernel
theorem dMod_settle_12 : decode bMod_settle 12 = .ok (.iload_n 1, 1) := by decide +kernel
theorem dMod_settle_13 : decode bMod_settle 13 = .ok (.iaload, 1) := by decide +kernel
theorem dMod_settle_14 : decode bMod_settle 14 = .ok (.if_icmp .ne 24, 3) := by decide +kernel
theorem dMod_settle_17 : decode bMod_settle 17 = .ok (.aload_n 0, 1) := by decide +kernel
theorem dMod_settle_18 : decode bMod_settle 18 = .ok (.getfield 168, 3) := by decide +kernel
theorem dMod_settle_21 : decode bMod_settle 21 = .ok (.aload_n 0, 1) := by decide +kernel
theorem dMod_settle_22 : decode bMod_settle 22 = .ok (.getfield 65, 3) := by decide +kernel
theorem dMod_settle_25 : decode bMod_settle 25 = .ok (.iload_n 1, 1) := by decide +kernel
theorem dMod_settle_26 : decode bMod_settle 26 = .ok (.iaload, 1) := by decide +kernel
theorem dMod_settle_27 : decode bMod_settle 27 = .ok (.if_icmp .ne 11, 3) := by decide +kernel
theorem dMod_settle_30 : decode bMod_settle 30 = .ok (.aload_n 0, 1) := by decide +kernel
theorem dMod_settle_31 : decode bMod_settle 31 = .ok (.iload_n 1, 1) := by decide +kernel
theorem dMod_settle_32 : decode bMod_settle 32 = .ok (.invokevirtual 237, 3) := by decide +kernel
theorem dMod_settle_35 : decode bMod_settle 35 = .ok (.goto 8, 3) := by decide +kernel
theorem dMod_settle_38 : decode bMod_settle 38 = .ok (.aload_n 0, 1) := by decide +kernel
theorem dMod_settle_39 : decode bMod_settle 39 = .ok (.iload_n 1, 1) := by decide +kernel
theorem dMod_settle_40 : decode bMod_settle 40 = .ok (.invokevirtual 194, 3) := by decide +kernel
theorem dMod_settle_43 : decode bMod_settle 43 = .ok (.return_, 1) := by decide +kernel
def wbMod_settle_38 (post : zM → Prop) (v1 : Int32) (h : zM) : Prop := wpMod_load v1 h (fun h40 => post h40)
def wpMod_settle (x1 : Int32) (h : zM) (post : zM → Prop) : Prop := wpMod_run h (fun h1 => (vp_in x1 41 ∧ ((¬ (h1 0 31) = (h1 17 (Int32.toNatClampNeg x1)) → wbMod_settle_38 post x1 h1) ∧ ((h1 0 31) = (h1 17 (Int32.toNatClampNeg x1)) → (vp_in x1 41 ∧ ((¬ (h1 0 32) = (h1 18 (Int32.toNatClampNeg x1)) → wbMod_settle_38 post x1 h1) ∧ ((h1 0 32) = (h1 18 (Int32.toNatClampNeg x1)) → wpMod_store x1 h1 (fun h32 => post h32))))))))
abbrev rmMod_settle : Room := { frames := 4, cells := 0, slots := 0, locals := 95 }
set_option maxHeartbeats 4000000 in
set_option maxRecDepth 100000 in
theorem cMod_settle (l : Launch) (D : va_G) (cI cC cE : ClassId) (ad : Nat → Nat) (A : Nat → Prop) (hJ : zJ A 28 ad) (x1 : Int32) (h : zM) (post : zM → Prop) (hw : wpMod_settle x1 h post) : Met l yMod_settle (.code yMod_settle bMod_settle 2 none :: zt) rmMod_settle (va_Pc [.ref (ad 0), .int x1] (zPre D (zty cI cC cE) 28 ad (mF ad cI) A h)) (va_Qv post (zPst D (zty cI cC cE) 28 ad (mF ad cI)) A) 0 0 A := by
  refine Met.ofW (cc := bMod_settle) (maxL := 2) (ret := none) (by decide) rfl ?_
  intro p e s m args below meth c s₁ B hml hv
  obtain ⟨rfl, hP, hK, hT, hN⟩ := hv
  have hr := B.returns
  have hlk := B.notSynchronized
  have S : zS p m c bMod_settle 2 s _ "CallExplorerModel" := ⟨B.exec, B.bytes, hml, findClass_of_methodNamed B.named, fun w hw => atoms_spec (ws := .code yMod_settle bMod_settle 2 none :: zt) B.pre w (List.mem_cons_of_mem _ hw)⟩
  have hS : va_S A s.heap s.heap [] := va_S.rf
  have hl := lv_entry ([.ref (ad 0), .int x1]) (n := 2) (Nat.le_of_ble_eq_true rfl)
  rw [lg_entry_eq]
  generalize (lg_sl ([.ref (ad 0), .int x1]) ++ List.replicate (2 - (lg_sl ([.ref (ad 0), .int x1])).length) Slot.unset).toArray = ls at hl ⊢
  have hl : lv_has ls 2 [(0, .ref (ad 0)), (1, .int x1)] := hl
  show W p l e rmMod_settle s m ([.ref (ad 0), .int x1] : List Value).toArray below meth c s.heap [] 0 0 (zQv post D (zty cI cC cE) 28 ad (mF ad cI) A below ([.ref (ad 0), .int x1] : List Value).toArray s) _
  have J38 : ∀ (v1 : Int32) (h : zM) (H : Heap) (locs : List Loc) (ls : Array Slot), wbMod_settle_38 post v1 h → lv_has ls 2 [(0, .ref (ad 0)), (1, .int v1)] → va_P D zcl (zW 28 ad (mF ad cI) h) H → va_S A s.heap H locs → W p l e rmMod_settle s m ([.ref (ad 0), .int x1] : List Value).toArray below meth c H locs 0 0 (zQv post D (zty cI cC cE) 28 ad (mF ad cI) A below ([.ref (ad 0), .int x1] : List Value).toArray s) (F0 m 38 ls []) := by
    intro v1 h H locs ls hw hl hP hS
    unfold wbMod_settle_38 at hw
    refine lv_aload_n S.1 S.2.1 dMod_settle_38 rfl (lv_at hl 0 rfl) ?_
    refine lv_iload_n S.1 S.2.1 dMod_settle_39 rfl (lv_at hl 1 rfl) ?_
    refine zr_v (zr_V (As := [.int v1]) (rest := []) S hK hT hN hP hS (by decide) (mF_0 _) rfl (cMod_load l D cI cC cE ad A hJ _ _ _ hw) caMod_194 ⟨Nat.le_of_ble_eq_true rfl, Nat.le_of_ble_eq_true rfl⟩ ⟨rfl, rfl⟩ rfl hl.1 rfl (Nat.le_of_ble_eq_true rfl) dMod_settle_40) hS (fun h40 H locs hw hP hS => ?_)
    exact zr_vret S hr hlk hK hP hS hw dMod_settle_43
  unfold wpMod_settle at hw
  refine lv_aload_n S.1 S.2.1 dMod_settle_0 rfl (lv_at hl 0 rfl) ?_
  refine zr_v (zr_V (As := []) (rest := []) S hK hT hN hP hS (by decide) (mF_0 _) rfl (cMod_run l D cI cC cE ad A hJ _ _ hw) caMod_198 ⟨Nat.le_of_ble_eq_true rfl, Nat.le_of_ble_eq_true rfl⟩ ⟨rfl, rfl⟩ rfl hl.1 rfl (Nat.le_of_ble_eq_true rfl) dMod_settle_1) hS (fun h1 H locs hw hP hS => ?_)
  refine lv_aload_n S.1 S.2.1 dMod_settle_4 rfl (lv_at hl 0 rfl) ?_
  refine zr_get S hK hP (by decide) (mF_0 _) fMod_came q859 rfl dMod_settle_5 ?_
  refine lv_aload_n S.1 S.2.1 dMod_settle_8 rfl (lv_at hl 0 rfl) ?_
  refine zr_get S hK hP (by decide) (mF_0 _) fMod_outcome q850 rfl dMod_settle_9 ?_
  refine lv_iload_n S.1 S.2.1 dMod_settle_12 rfl (lv_at hl 1 rfl) ?_
  obtain ⟨z13, hw⟩ := hw
  refine zr_ald S hK hP (by decide) (mF_17 _) 0 rfl z13 dMod_settle_13 ?_
  refine lv_icmp_ne S.1 S.2.1 dMod_settle_14 rfl (fun hc => ?_) (fun hc => ?_)
  · have hw := hw.1 hc
    exact J38 _ _ _ _ _ hw (lv_sub hl [0, 1] rfl) hP hS
  · have hw := hw.2 hc
    refine lv_aload_n S.1 S.2.1 dMod_settle_17 rfl (lv_at hl 0 rfl) ?_
    refine zr_get S hK hP (by decide) (mF_0 _) fMod_cameBy q860 rfl dMod_settle_18 ?_
    refine lv_aload_n S.1 S.2.1 dMod_settle_21 rfl (lv_at hl 0 rfl) ?_
    refine zr_get S hK hP (by decide) (mF_0 _) fMod_detail q851 rfl dMod_settle_22 ?_
    refine lv_iload_n S.1 S.2.1 dMod_settle_25 rfl (lv_at hl 1 rfl) ?_
    obtain ⟨z26, hw⟩ := hw
    refine zr_ald S hK hP (by decide) (mF_18 _) 0 rfl z26 dMod_settle_26 ?_
    refine lv_icmp_ne S.1 S.2.1 dMod_settle_27 rfl (fun hc => ?_) (fun hc => ?_)
    · have hw := hw.1 hc
      exact J38 _ _ _ _ _ hw (lv_sub hl [0, 1] rfl) hP hS
    · have hw := hw.2 hc
      refine lv_aload_n S.1 S.2.1 dMod_settle_30 rfl (lv_at hl 0 rfl) ?_
      refine lv_iload_n S.1 S.2.1 dMod_settle_31 rfl (lv_at hl 1 rfl) ?_
      refine zr_v (zr_V (As := [.int x1]) (rest := []) S hK hT hN hP hS (by decide) (mF_0 _) rfl (cMod_store l D cI cC cE ad A hJ _ _ _ hw) caMod_237 ⟨Nat.le_of_ble_eq_true rfl, Nat.le_of_ble_eq_true rfl⟩ ⟨rfl, rfl⟩ rfl hl.1 rfl (Nat.le_of_ble_eq_true rfl) dMod_settle_32) hS (fun h32 H locs hw hP hS => ?_)
      refine lv_goto S.1 S.2.1 dMod_settle_35 rfl ?_
      exact zr_vret S hr hlk hK hP hS hw dMod_settle_43
/-! Mod.simpler -/
theorem dMod_simpler_0 : decode bMod_simpler 0 = .ok (.aload_n 0, 1) := by decide +kernel
theorem dMod_simpler_1 : decode bMod_simpler 1 = .ok (.aload_n 0, 1) := by decide +kernel
theorem dMod_simpler_2 : decode bMod_simpler 2 = .ok (.getfield 35, 3) := by decide +kernel
theorem dMod_simpler_5 : decode bMod_simpler 5 = .ok (.iload_n 2, 1) := by decide +kernel
theorem dMod_simpler_6 : decode bMod_simpler 6 = .ok (.iconst 2, 1) := by decide +kernel
theorem dMod_simpler_7 : decode bMod_simpler 7 = .ok (.idiv, 1) := by decide +kernel
theorem dMod_simpler_8 : decode bMod_simpler 8 = .ok (.iaload, 1) := by decide +kernel
theorem dMod_simpler_9 : decode bMod_simpler 9 = .ok (.iload_n 2, 1) := by decide +kernel
theorem dMod_simpler_10 : decode bMod_simpler 10 = .ok (.iconst 2, 1) := by decide +kernel
theorem dMod_simpler_11 : decode bMod_simpler 11 = .ok (.irem, 1) := by decide +kernel
theorem dMod_simpler_12 : decode bMod_simpler 12 = .ok (.invokevirtual 150, 3) := by decide +kernel
theorem dMod_simpler_15 : decode bMod_simpler 15 = .ok (.istore_n 3, 1) := by decide +kernel
theorem dMod_simpler_16 : decode bMod_simpler 16 = .ok (.iconst 0, 1) := by decide +kernel
theorem dMod_simpler_17 : decode bMod_simpler 17 = .ok (.istore 4, 2) := by decide +kernel
theorem dMod_simpler_19 : decode bMod_simpler 19 = .ok (.iload_n 3, 1) := by decide +kernel
theorem dMod_simpler_20 : decode bMod_simpler 20 = .ok (.ifCond .le 28, 3) := by decide +kernel
theorem dMod_simpler_23 : decode bMod_simpler 23 = .ok (.aload_n 0, 1) := by decide +kernel
theorem dMod_simpler_24 : decode bMod_simpler 24 = .ok (.aload_n 0, 1) := by decide +kernel
theorem dMod_simpler_25 : decode bMod_simpler 25 = .ok (.aload_n 0, 1) := by decide +kernel
theorem dMod_simpler_26 : decode bMod_simpler 26 = .ok (.getfield 35, 3) := by decide +kernel
theorem dMod_simpler_29 : decode bMod_simpler 29 = .ok (.iload 4, 2) := by decide +kernel
theorem dMod_simpler_31 : decode bMod_simpler 31 = .ok (.iaload, 1) := by decide +kernel
theorem dMod_simpler_32 : decode bMod_simpler 32 = .ok (.invokevirtual 181, 3) := by decide +kernel
theorem dMod_simpler_35 : decode bMod_simpler 35 = .ok (.iload_n 3, 1) := by decide +kernel
theorem dMod_simpler_36 : decode bMod_simpler 36 = .ok (.invokevirtual 138, 3) := by decide +kernel
theorem dMod_simpler_39 : decode bMod_simpler 39 = .ok (.ifCond .ne 9, 3) := by decide +kernel
theorem dMod_simpler_42 : decode bMod_simpler 42 = .ok (.iinc 4 1, 3) := by decide +kernel
theorem dMod_simpler_45 : decode bMod_simpler 45 = .ok (.goto (-26), 3) := by decide +kernel
theorem dMod_simpler_48 : decode bMod_simpler 48 = .ok (.aload_n 0, 1) := by decide +kernel
theorem dMod_simpler_49 : decode bMod_simpler 49 = .ok (.getfield 38, 3) := by decide +kernel
theorem dMod_simpler_52 : decode bMod_simpler 52 = .ok (.iload_n 2, 1) := by decide +kernel
theorem dMod_simpler_53 : decode bMod_simpler 53 = .ok (.iload_n 3, 1) := by decide +kernel
theorem dMod_simpler_54 : decode bMod_simpler 54 = .ok (.ifCond .ne 7, 3) := by decide +kernel
theorem dMod_simpler_57 : decode bMod_simpler 57 = .ok (.iconst 1, 1) := by decide +kernel
theorem dMod_simpler_58 : decode bMod_simpler 58 = .ok (.goto 4, 3) := by decide +kernel
theorem dMod_simpler_61 : decode bMod_simpler 61 = .ok (.iconst 0, 1) := by decide +kernel
theorem dMod_simpler_62 : decode bMod_simpler 62 = .ok (.iastore, 1) := by decide +kernel
theorem dMod_simpler_63 : decode bMod_simpler 63 = .ok (.aload_n 0, 1) := by decide +kernel
theorem dMod_simpler_64 : decode bMod_simpler 64 = .ok (.getfield 41, 3) := by decide +kernel
theorem dMod_simpler_67 : decode bMod_simpler 67 = .ok (.iload_n 2, 1) := by decide +kernel
theorem dMod_simpler_68 : decode bMod_simpler 68 = .ok (.iload 4, 2) := by decide +kernel
theorem dMod_simpler_70 : decode bMod_simpler 70 = .ok (.iastore, 1) := by decide +kernel
theorem dMod_simpler_71 : decode bMod_simpler 71 = .ok (.aload_n 0, 1) := by decide +kernel
theorem dMod_simpler_72 : decode bMod_simpler 72 = .ok (.iload_n 1, 1) := by decide +kernel
theorem dMod_simpler_73 : decode bMod_simpler 73 = .ok (.invokevirtual 246, 3) := by decide +kernel
theorem dMod_simpler_76 : decode bMod_simpler 76 = .ok (.return_, 1) := by decide +kernel
def wbMod_simpler_62 (post : zM → Prop) (v1 : Int32) (v2 : Int32) (v4 : Int32) (k1 : Int32) (k2 : Int32) (h : zM) : Prop := (vp_in k1 40 ∧ ∀ h62 : zM, h62 = zu h 9 (Int32.toNatClampNeg k1) k2 → (vp_in v2 40 ∧ ∀ h70 : zM, h70 = zu h62 10 (Int32.toNatClampNeg v2) v4 → wpMod_settle v1 h70 (fun h73 => post h73)))
def wbMod_simpler_48 (post : zM → Prop) (v1 : Int32) (v2 : Int32) (v3 : Int32) (v4 : Int32) (h : zM) : Prop := ((¬ v3 = 0 → wbMod_simpler_62 post v1 v2 v4 v2 0 h) ∧ (v3 = 0 → wbMod_simpler_62 post v1 v2 v4 v2 1 h))
def stMod_simpler_19 (post : zM → Prop) (L19 : (Int32 × Int32 × Int32 × Int32 × zM) → Prop) : (Int32 × Int32 × Int32 × Int32 × zM) → Prop := fun s => match s with
  | (v1, v2, v3, v4, h) => (((v3 ≤ 0) → wbMod_simpler_48 post v1 v2 v3 v4 h) ∧ (¬ (v3 ≤ 0) → (vp_in v4 20 ∧ wpMod_gives (h 8 (Int32.toNatClampNeg v4)) h (fun r32 h32 => wpMod_is r32 v3 h32 (fun r36 h36 => ((¬ r36 = 0 → wbMod_simpler_48 post v1 v2 v3 v4 h36) ∧ (r36 = 0 → L19 (v1, v2, v3, (v4 + 1), h36))))))))
def wpMod_simpler (x1 : Int32) (x2 : Int32) (h : zM) (post : zM → Prop) : Prop := (vp_in (x2 / 2) 20 ∧ wpMod_wants (h 8 (Int32.toNatClampNeg (x2 / 2))) (x2 - x2 / 2 * 2) h (fun r12 h12 => zL (stMod_simpler_19 post) (x1, x2, r12, 0, h12)))
abbrev rmMod_simpler : Room := { frames := 5, cells := 0, slots := 0, locals := 116 }
set_option maxHeartbeats 4000000 in
set_option maxRecDepth 100000 in
theorem cMod_simpler (l : Launch) (D : va_G) (cI cC cE : ClassId) (ad : Nat → Nat) (A : Nat → Prop) (hJ : zJ A 28 ad) (x1 : Int32) (x2 : Int32) (h : zM) (post : zM → Prop) (hw : wpMod_simpler x1 x2 h post) : Met l yMod_simpler (.code yMod_simpler bMod_simpler 5 none :: zt) rmMod_simpler (va_Pc [.ref (ad 0), .int x1, .int x2] (zPre D (zty cI cC cE) 28 ad (mF ad cI) A h)) (va_Qv post (zPst D (zty cI cC cE) 28 ad (mF ad cI)) A) 0 0 A := by
  refine Met.ofW (cc := bMod_simpler) (maxL := 5) (ret := none) (by decide) rfl ?_
  intro p e s m args below meth c s₁ B hml hv
  obtain ⟨rfl, hP, hK, hT, hN⟩ := hv
  have hr := B.returns
  have hlk := B.notSynchronized
  have S : zS p m c bMod_simpler 5 s _ "CallExplorerModel" := ⟨B.exec, B.bytes, hml, findClass_of_methodNamed B.named, fun w hw => atoms_spec (ws := .code yMod_simpler bMod_simpler 5 none :: zt) B.pre w (List.mem_cons_of_mem _ hw)⟩
  have hS : va_S A s.heap s.heap [] := va_S.rf
  have hl := lv_entry ([.ref (ad 0), .int x1, .int x2]) (n := 5) (Nat.le_of_ble_eq_true rfl)
  rw [lg_entry_eq]
  generalize (lg_sl ([.ref (ad 0), .int x1, .int x2]) ++ List.replicate (5 - (lg_sl ([.ref (ad 0), .int x1, .int x2])).length) Slot.unset).toArray = ls at hl ⊢
  have hl : lv_has ls 5 [(0, .ref (ad 0)), (1, .int x1), (2, .int x2)] := hl
  show W p l e rmMod_simpler s m ([.ref (ad 0), .int x1, .int x2] : List Value).toArray below meth c s.heap [] 0 0 (zQv post D (zty cI cC cE) 28 ad (mF ad cI) A below ([.ref (ad 0), .int x1, .int x2] : List Value).toArray s) _
  have J62 : ∀ (v1 : Int32) (v2 : Int32) (v4 : Int32) (k1 : Int32) (k2 : Int32) (h : zM) (H : Heap) (locs : List Loc) (ls : Array Slot), wbMod_simpler_62 post v1 v2 v4 k1 k2 h → lv_has ls 5 [(0, .ref (ad 0)), (1, .int v1), (2, .int v2), (4, .int v4)] → va_P D zcl (zW 28 ad (mF ad cI) h) H → va_S A s.heap H locs → W p l e rmMod_simpler s m ([.ref (ad 0), .int x1, .int x2] : List Value).toArray below meth c H locs 0 0 (zQv post D (zty cI cC cE) 28 ad (mF ad cI) A below ([.ref (ad 0), .int x1, .int x2] : List Value).toArray s) (F0 m 62 ls [.int k2, .int k1, .ref (ad 9)]) := by
    intro v1 v2 v4 k1 k2 h H locs ls hw hl hP hS
    unfold wbMod_simpler_62 at hw
    obtain ⟨z62, hw⟩ := hw
    refine zr_ast S hK hJ hP hS (by decide) mF_9 0 rfl z62 dMod_simpler_62 (fun h62 H locs e62 hP hS => ?_)
    have hw := hw h62 e62
    refine lv_aload_n S.1 S.2.1 dMod_simpler_63 rfl (lv_at hl 0 rfl) ?_
    refine zr_get S hK hP (by decide) (mF_0 _) fMod_arg q842 rfl dMod_simpler_64 ?_
    refine lv_iload_n S.1 S.2.1 dMod_simpler_67 rfl (lv_at hl 2 rfl) ?_
    refine lv_iload S.1 S.2.1 dMod_simpler_68 (lv_at hl 3 rfl) ?_
    obtain ⟨z70, hw⟩ := hw
    refine zr_ast S hK hJ hP hS (by decide) mF_10 0 rfl z70 dMod_simpler_70 (fun h70 H locs e70 hP hS => ?_)
    have hw := hw h70 e70
    refine lv_aload_n S.1 S.2.1 dMod_simpler_71 rfl (lv_at hl 0 rfl) ?_
    refine lv_iload_n S.1 S.2.1 dMod_simpler_72 rfl (lv_at hl 1 rfl) ?_
    refine zr_v (zr_V (As := [.int v1]) (rest := []) S hK hT hN hP hS (by decide) (mF_0 _) rfl (cMod_settle l D cI cC cE ad A hJ _ _ _ hw) caMod_246 ⟨Nat.le_of_ble_eq_true rfl, Nat.le_of_ble_eq_true rfl⟩ ⟨rfl, rfl⟩ rfl hl.1 rfl (Nat.le_of_ble_eq_true rfl) dMod_simpler_73) hS (fun h73 H locs hw hP hS => ?_)
    exact zr_vret S hr hlk hK hP hS hw dMod_simpler_76
  have J48 : ∀ (v1 : Int32) (v2 : Int32) (v3 : Int32) (v4 : Int32) (h : zM) (H : Heap) (locs : List Loc) (ls : Array Slot), wbMod_simpler_48 post v1 v2 v3 v4 h → lv_has ls 5 [(0, .ref (ad 0)), (1, .int v1), (2, .int v2), (3, .int v3), (4, .int v4)] → va_P D zcl (zW 28 ad (mF ad cI) h) H → va_S A s.heap H locs → W p l e rmMod_simpler s m ([.ref (ad 0), .int x1, .int x2] : List Value).toArray below meth c H locs 0 0 (zQv post D (zty cI cC cE) 28 ad (mF ad cI) A below ([.ref (ad 0), .int x1, .int x2] : List Value).toArray s) (F0 m 48 ls []) := by
    intro v1 v2 v3 v4 h H locs ls hw hl hP hS
    unfold wbMod_simpler_48 at hw
    refine lv_aload_n S.1 S.2.1 dMod_simpler_48 rfl (lv_at hl 0 rfl) ?_
    refine zr_get S hK hP (by decide) (mF_0 _) fMod_how q841 rfl dMod_simpler_49 ?_
    refine lv_iload_n S.1 S.2.1 dMod_simpler_52 rfl (lv_at hl 2 rfl) ?_
    refine lv_iload_n S.1 S.2.1 dMod_simpler_53 rfl (lv_at hl 3 rfl) ?_
    refine lv_if_ne S.1 S.2.1 dMod_simpler_54 rfl (fun hc => ?_) (fun hc => ?_)
    · have hw := hw.1 hc
      refine lv_iconst (v := 0) S.1 S.2.1 dMod_simpler_61 (by decide) ?_
      exact J62 _ _ _ _ _ _ _ _ _ hw (lv_sub hl [0, 1, 2, 4] rfl) hP hS
    · have hw := hw.2 hc
      refine lv_iconst (v := 1) S.1 S.2.1 dMod_simpler_57 (by decide) ?_
      refine lv_goto S.1 S.2.1 dMod_simpler_58 rfl ?_
      exact J62 _ _ _ _ _ _ _ _ _ hw (lv_sub hl [0, 1, 2, 4] rfl) hP hS
  have J19 : ∀ (fu : Nat) (v1 : Int32) (v2 : Int32) (v3 : Int32) (v4 : Int32) (h : zM) (H : Heap) (locs : List Loc) (ls : Array Slot), zl (stMod_simpler_19 post) fu (v1, v2, v3, v4, h) → lv_has ls 5 [(0, .ref (ad 0)), (1, .int v1), (2, .int v2), (3, .int v3), (4, .int v4)] → va_P D zcl (zW 28 ad (mF ad cI) h) H → va_S A s.heap H locs → W p l e rmMod_simpler s m ([.ref (ad 0), .int x1, .int x2] : List Value).toArray below meth c H locs 0 0 (zQv post D (zty cI cC cE) 28 ad (mF ad cI) A below ([.ref (ad 0), .int x1, .int x2] : List Value).toArray s) (F0 m 19 ls []) := by
    intro fu19
    induction fu19 with
    | zero =>
      intro v1 v2 v3 v4 h H locs ls hw
      exact (zl_0 hw).elim
    | succ fu19 ih19 =>
      intro v1 v2 v3 v4 h H locs ls hw hl hP hS
      have hw := zl_s hw
      generalize zl (stMod_simpler_19 post) fu19 = L19 at hw ih19
      unfold stMod_simpler_19 at hw
      dsimp only at hw
      refine lv_iload_n S.1 S.2.1 dMod_simpler_19 rfl (lv_at hl 3 rfl) ?_
      refine lv_if_le S.1 S.2.1 dMod_simpler_20 rfl (fun hc => ?_) (fun hc => ?_)
      · have hw := hw.1 hc
        exact J48 _ _ _ _ _ _ _ _ hw (lv_sub hl [0, 1, 2, 3, 4] rfl) hP hS
      · have hw := hw.2 hc
        refine lv_aload_n S.1 S.2.1 dMod_simpler_23 rfl (lv_at hl 0 rfl) ?_
        refine lv_aload_n S.1 S.2.1 dMod_simpler_24 rfl (lv_at hl 0 rfl) ?_
        refine lv_aload_n S.1 S.2.1 dMod_simpler_25 rfl (lv_at hl 0 rfl) ?_
        refine zr_get S hK hP (by decide) (mF_0 _) fMod_op q840 rfl dMod_simpler_26 ?_
        refine lv_iload S.1 S.2.1 dMod_simpler_29 (lv_at hl 4 rfl) ?_
        obtain ⟨z31, hw⟩ := hw
        refine zr_ald S hK hP (by decide) (mF_8 _) 0 rfl z31 dMod_simpler_31 ?_
        refine zr_i (zr_V (As := [.int (h 8 (Int32.toNatClampNeg v4))]) (rest := [.ref (ad 0)]) S hK hT hN hP hS (by decide) (mF_0 _) rfl (cMod_gives l D cI cC cE ad A hJ _ _ _ hw) caMod_181 ⟨Nat.le_of_ble_eq_true rfl, Nat.le_of_ble_eq_true rfl⟩ ⟨rfl, rfl⟩ rfl hl.1 rfl (Nat.le_of_ble_eq_true rfl) dMod_simpler_32) hS (fun r32 h32 H locs hw hP hS => ?_)
        refine lv_iload_n S.1 S.2.1 dMod_simpler_35 rfl (lv_at hl 3 rfl) ?_
        refine zr_i (zr_V (As := [.int r32, .int v3]) (rest := []) S hK hT hN hP hS (by decide) (mF_0 _) rfl (cMod_is l D cI cC cE ad A hJ _ _ _ _ hw) caMod_138 ⟨Nat.le_of_ble_eq_true rfl, Nat.le_of_ble_eq_true rfl⟩ ⟨rfl, rfl⟩ rfl hl.1 rfl (Nat.le_of_ble_eq_true rfl) dMod_simpler_36) hS (fun r36 h36 H locs hw hP hS => ?_)
        refine lv_if_ne S.1 S.2.1 dMod_simpler_39 rfl (fun hc => ?_) (fun hc => ?_)
        · have hw := hw.1 hc
          exact J48 _ _ _ _ _ _ _ _ hw (lv_sub hl [0, 1, 2, 3, 4] rfl) hP hS
        · have hw := hw.2 hc
          refine lv_iinc (v := (v4 + 1)) (lv' := [(4, .int (v4 + 1)), (0, .ref (ad 0)), (1, .int v1), (2, .int v2), (3, .int v3)]) (k := 4) S.1 S.2.1 dMod_simpler_42 hl rfl rfl (by decide) rfl (fun ls hl => ?_)
          refine lv_goto S.1 S.2.1 dMod_simpler_45 rfl ?_
          exact ih19 _ _ _ _ _ _ _ _ hw (lv_sub hl [1, 2, 3, 4, 0] rfl) hP hS
  unfold wpMod_simpler at hw
  refine lv_aload_n S.1 S.2.1 dMod_simpler_0 rfl (lv_at hl 0 rfl) ?_
  refine lv_aload_n S.1 S.2.1 dMod_simpler_1 rfl (lv_at hl 0 rfl) ?_
  refine zr_get S hK hP (by decide) (mF_0 _) fMod_op q840 rfl dMod_simpler_2 ?_
  refine lv_iload_n S.1 S.2.1 dMod_simpler_5 rfl (lv_at hl 2 rfl) ?_
  refine lv_iconst (v := 2) S.1 S.2.1 dMod_simpler_6 (by decide) ?_
  refine lv_idiv S.1 S.2.1 dMod_simpler_7 (by decide) ?_
  obtain ⟨z8, hw⟩ := hw
  refine zr_ald S hK hP (by decide) (mF_8 _) 0 rfl z8 dMod_simpler_8 ?_
  refine lv_iload_n S.1 S.2.1 dMod_simpler_9 rfl (lv_at hl 2 rfl) ?_
  refine lv_iconst (v := 2) S.1 S.2.1 dMod_simpler_10 (by decide) ?_
  refine lv_irem S.1 S.2.1 dMod_simpler_11 (by decide) ?_
  refine zr_i (zr_V (As := [.int (h 8 (Int32.toNatClampNeg (x2 / 2))), .int (x2 - x2 / 2 * 2)]) (rest := []) S hK hT hN hP hS (by decide) (mF_0 _) rfl (cMod_wants l D cI cC cE ad A hJ _ _ _ _ hw) caMod_150 ⟨Nat.le_of_ble_eq_true rfl, Nat.le_of_ble_eq_true rfl⟩ ⟨rfl, rfl⟩ rfl hl.1 rfl (Nat.le_of_ble_eq_true rfl) dMod_simpler_12) hS (fun r12 h12 H locs hw hP hS => ?_)
  refine lv_istore_n (lv' := [(3, .int r12), (0, .ref (ad 0)), (1, .int x1), (2, .int x2)]) S.1 S.2.1 dMod_simpler_15 rfl hl (by decide) rfl (fun ls hl => ?_)
  refine lv_iconst (v := 0) S.1 S.2.1 dMod_simpler_16 (by decide) ?_
  refine lv_istore (lv' := [(4, .int 0), (3, .int r12), (0, .ref (ad 0)), (1, .int x1), (2, .int x2)]) S.1 S.2.1 dMod_simpler_17 hl (by decide) rfl (fun ls hl => ?_)
  obtain ⟨fu, hw⟩ := hw
  exact J19 fu _ _ _ _ _ _ _ _ hw (lv_sub hl [2, 3, 4, 1, 0] rfl) hP hS
/-! Mod.shorten -/
theorem dMod_shorten_0 : decode bMod_shorten 0 = .ok (.iload_n 1, 1) := by decide +kernel
theorem dMod_shorten_1 : decode bMod_shorten 1 = .ok (.ifCond .lt 21, 3) := by decide +kernel
theorem dMod_shorten_4 : decode bMod_shorten 4 = .ok (.iload_n 1, 1) := by decide +kernel
theorem dMod_shorten_5 : decode bMod_shorten 5 = .ok (.aload_n 0, 1) := by decide +kernel
theorem dMod_shorten_6 : decode bMod_shorten 6 = .ok (.getfield 191, 3) := by decide +kernel
theorem dMod_shorten_9 : decode bMod_shorten 9 = .ok (.if_icmp .ge 13, 3) := by decide +kernel
theorem dMod_shorten_12 : decode bMod_shorten 12 = .ok (.aload_n 0, 1) := by decide +kernel
theorem dMod_shorten_13 : decode bMod_shorten 13 = .ok (.getfield 62, 3) := by decide +kernel
theorem dMod_shorten_16 : decode bMod_shorten 16 = .ok (.iload_n 1, 1) := by decide +kernel
theorem dMod_shorten_17 : decode bMod_shorten 17 = .ok (.iaload, 1) := by decide +kernel
theorem dMod_shorten_18 : decode bMod_shorten 18 = .ok (.iconst 2, 1) := by decide +kernel
theorem dMod_shorten_19 : decode bMod_shorten 19 = .ok (.if_icmp .ge 5, 3) := by decide +kernel
theorem dMod_shorten_22 : decode bMod_shorten 22 = .ok (.iconst (-1), 1) := by decide +kernel
theorem dMod_shorten_23 : decode bMod_shorten 23 = .ok (.ireturn, 1) := by decide +kernel
theorem dMod_shorten_24 : decode bMod_shorten 24 = .ok (.aload_n 0, 1) := by decide +kernel
theorem dMod_shorten_25 : decode bMod_shorten 25 = .ok (.iload_n 1, 1) := by decide +kernel
theorem dMod_shorten_26 : decode bMod_shorten 26 = .ok (.invokevirtual 194, 3) := by decide +kernel
theorem dMod_shorten_29 : decode bMod_shorten 29 = .ok (.iconst 0, 1) := by decide +kernel
theorem dMod_shorten_30 : decode bMod_shorten 30 = .ok (.istore_n 2, 1) := by decide +kernel
theorem dMod_shorten_31 : decode bMod_shorten 31 = .ok (.iload_n 2, 1) := by decide +kernel
theorem dMod_shorten_32 : decode bMod_shorten 32 = .ok (.iconst 2, 1) := by decide +kernel
theorem dMod_shorten_33 : decode bMod_shorten 33 = .ok (.aload_n 0, 1) := by decide +kernel
theorem dMod_shorten_34 : decode bMod_shorten 34 = .ok (.getfield 156, 3) := by decide +kernel
theorem dMod_shorten_37 : decode bMod_shorten 37 = .ok (.imul, 1) := by decide +kernel
theorem dMod_shorten_38 : decode bMod_shorten 38 = .ok (.if_icmp .ge 46, 3) := by decide +kernel
theorem dMod_shorten_41 : decode bMod_shorten 41 = .ok (.iload_n 2, 1) := by decide +kernel
theorem dMod_shorten_42 : decode bMod_shorten 42 = .ok (.iconst 2, 1) := by decide +kernel
theorem dMod_shorten_43 : decode bMod_shorten 43 = .ok (.irem, 1) := by decide +kernel
theorem dMod_shorten_44 : decode bMod_shorten 44 = .ok (.aload_n 0, 1) := by decide +kernel
theorem dMod_shorten_45 : decode bMod_shorten 45 = .ok (.getfield 19, 3) := by decide +kernel
theorem dMod_shorten_48 : decode bMod_shorten 48 = .ok (.aload_n 0, 1) := by decide +kernel
theorem dMod_shorten_49 : decode bMod_shorten 49 = .ok (.getfield 35, 3) := by decide +kernel
theorem dMod_shorten_52 : decode bMod_shorten 52 = .ok (.iload_n 2, 1) := by decide +kernel
theorem dMod_shorten_53 : decode bMod_shorten 53 = .ok (.iconst 2, 1) := by decide +kernel
theorem dMod_shorten_54 : decode bMod_shorten 54 = .ok (.idiv, 1) := by decide +kernel
theorem dMod_shorten_55 : decode bMod_shorten 55 = .ok (.iaload, 1) := by decide +kernel
theorem dMod_shorten_56 : decode bMod_shorten 56 = .ok (.iaload, 1) := by decide +kernel
theorem dMod_shorten_57 : decode bMod_shorten 57 = .ok (.invokestatic 122, 3) := by decide +kernel
theorem dMod_shorten_60 : decode bMod_shorten 60 = .ok (.if_icmp .ge 18, 3) := by decide +kernel
theorem dMod_shorten_63 : decode bMod_shorten 63 = .ok (.aload_n 0, 1) := by decide +kernel
theorem dMod_shorten_64 : decode bMod_shorten 64 = .ok (.getfield 38, 3) := by decide +kernel
theorem dMod_shorten_67 : decode bMod_shorten 67 = .ok (.iload_n 2, 1) := by decide +kernel
theorem dMod_shorten_68 : decode bMod_shorten 68 = .ok (.iaload, 1) := by decide +kernel
theorem dMod_shorten_69 : decode bMod_shorten 69 = .ok (.ifCond .ne 9, 3) := by decide +kernel
theorem dMod_shorten_72 : decode bMod_shorten 72 = .ok (.aload_n 0, 1) := by decide +kernel
theorem dMod_shorten_73 : decode bMod_shorten 73 = .ok (.iload_n 1, 1) := by decide +kernel
theorem dMod_shorten_74 : decode bMod_shorten 74 = .ok (.iload_n 2, 1) := by decide +kernel
theorem dMod_shorten_75 : decode bMod_shorten 75 = .ok (.invokevirtual 249, 3) := by decide +kernel
theorem dMod_shorten_78 : decode bMod_shorten 78 = .ok (.iinc 2 1, 3) := by decide +kernel
theorem dMod_shorten_81 : decode bMod_shorten 81 = .ok (.goto (-50), 3) := by decide +kernel
theorem dMod_shorten_84 : decode bMod_shorten 84 = .ok (.aload_n 0, 1) := by decide +kernel
theorem dMod_shorten_85 : decode bMod_shorten 85 = .ok (.getfield 156, 3) := by decide +kernel
theorem dMod_shorten_88 : decode bMod_shorten 88 = .ok (.iconst 2, 1) := by decide +kernel
theorem dMod_shorten_89 : decode bMod_shorten 89 = .ok (.isub, 1) := by decide +kernel
theorem dMod_shorten_90 : decode bMod_shorten 90 = .ok (.istore_n 2, 1) := by decide +kernel
theorem dMod_shorten_91 : decode bMod_shorten 91 = .ok (.iload_n 2, 1) := by decide +kernel
theorem dMod_shorten_92 : decode bMod_shorten 92 = .ok (.ifCond .lt 27, 3) := by decide +kernel
theorem dMod_shorten_95 : decode bMod_shorten 95 = .ok (.aload_n 0, 1) := by decide +kernel
theorem dMod_shorten_96 : decode bMod_shorten 96 = .ok (.iload_n 2, 1) := by decide +kernel
theorem dMod_shorten_97 : decode bMod_shorten 97 = .ok (.invokevirtual 252, 3) := by decide +kernel
theorem dMod_shorten_100 : decode bMod_shorten 100 = .ok (.ifCond .ne 13, 3) := by decide +kernel
theorem dMod_shorten_103 : decode bMod_shorten 103 = .ok (.aload_n 0, 1) := by decide +kernel
theorem dMod_shorten_104 : decode bMod_shorten 104 = .ok (.iload_n 2, 1) := by decide +kernel
theorem dMod_shorten_105 : decode bMod_shorten 105 = .ok (.invokevirtual 255, 3) := by decide +kernel
theorem dMod_shorten_108 : decode bMod_shorten 108 = .ok (.aload_n 0, 1) := by decide +kernel
theorem dMod_shorten_109 : decode bMod_shorten 109 = .ok (.iload_n 1, 1) := by decide +kernel
theorem dMod_shorten_110 : decode bMod_shorten 110 = .ok (.invokevirtual 246, 3) := by decide +kernel
theorem dMod_shorten_113 : decode bMod_shorten 113 = .ok (.iinc 2 (-1), 3) := by decide +kernel
theorem dMod_shorten_116 : decode bMod_shorten 116 = .ok (.goto (-25), 3) := by decide +kernel
theorem dMod_shorten_119 : decode bMod_shorten 119 = .ok (.iconst 0, 1) := by decide +kernel
theorem dMod_shorten_120 : decode bMod_shorten 120 = .ok (.istore_n 2, 1) := by decide +kernel
theorem dMod_shorten_121 : decode bMod_shorten 121 = .ok (.iload_n 2, 1) := by decide +kernel
theorem dMod_shorten_122 : decode bMod_shorten 122 = .ok (.iconst 2, 1) := by decide +kernel
theorem dMod_shorten_123 : decode bMod_shorten 123 = .ok (.aload_n 0, 1) := by decide +kernel
theorem dMod_shorten_124 : decode bMod_shorten 124 = .ok (.getfield 156, 3) := by decide +kernel
theorem dMod_shorten_127 : decode bMod_shorten 127 = .ok (.imul, 1) := by decide +kernel
theorem dMod_shorten_128 : decode bMod_shorten 128 = .ok (.if_icmp .ge 62, 3) := by decide +kernel
theorem dMod_shorten_131 : decode bMod_shorten 131 = .ok (.iload_n 2, 1) := by decide +kernel
theorem dMod_shorten_132 : decode bMod_shorten 132 = .ok (.iconst 2, 1) := by decide +kernel
theorem dMod_shorten_133 : decode bMod_shorten 133 = .ok (.irem, 1) := by decide +kernel
theorem dMod_shorten_134 : decode bMod_shorten 134 = .ok (.aload_n 0, 1) := by decide +kernel
theorem dMod_shorten_135 : decode bMod_shorten 135 = .ok (.getfield 19, 3) := by decide +kernel
theorem dMod_shorten_138 : decode bMod_shorten 138 = .ok (.aload_n 0, 1) := by decide +kernel
theorem dMod_shorten_139 : decode bMod_shorten 139 = .ok (.getfield 35, 3) := by decide +kernel
theorem dMod_shorten_142 : decode bMod_shorten 142 = .ok (.iload_n 2, 1) := by decide +kernel
theorem dMod_shorten_143 : decode bMod_shorten 143 = .ok (.iconst 2, 1) := by decide +kernel
theorem dMod_shorten_144 : decode bMod_shorten 144 = .ok (.idiv, 1) := by decide +kernel
theorem dMod_shorten_145 : decode bMod_shorten 145 = .ok (.iaload, 1) := by decide +kernel
theorem dMod_shorten_146 : decode bMod_shorten 146 = .ok (.iaload, 1) := by decide +kernel
theorem dMod_shorten_147 : decode bMod_shorten 147 = .ok (.invokestatic 122, 3) := by decide +kernel
theorem dMod_shorten_150 : decode bMod_shorten 150 = .ok (.if_icmp .ge 34, 3) := by decide +kernel
theorem dMod_shorten_153 : decode bMod_shorten 153 = .ok (.aload_n 0, 1) := by decide +kernel
theorem dMod_shorten_154 : decode bMod_shorten 154 = .ok (.getfield 38, 3) := by decide +kernel
theorem dMod_shorten_157 : decode bMod_shorten 157 = .ok (.iload_n 2, 1) := by decide +kernel
theorem dMod_shorten_158 : decode bMod_shorten 158 = .ok (.iaload, 1) := by decide +kernel
theorem dMod_shorten_159 : decode bMod_shorten 159 = .ok (.iconst 1, 1) := by decide +kernel
theorem dMod_shorten_160 : decode bMod_shorten 160 = .ok (.if_icmp .ne 24, 3) := by decide +kernel
theorem dMod_shorten_163 : decode bMod_shorten 163 = .ok (.aload_n 0, 1) := by decide +kernel
theorem dMod_shorten_164 : decode bMod_shorten 164 = .ok (.getfield 41, 3) := by decide +kernel
theorem dMod_shorten_167 : decode bMod_shorten 167 = .ok (.iload_n 2, 1) := by decide +kernel
theorem dMod_shorten_168 : decode bMod_shorten 168 = .ok (.iaload, 1) := by decide +kernel
theorem dMod_shorten_169 : decode bMod_shorten 169 = .ok (.ifCond .eq 15, 3) := by decide +kernel
theorem dMod_shorten_172 : decode bMod_shorten 172 = .ok (.aload_n 0, 1) := by decide +kernel
theorem dMod_shorten_173 : decode bMod_shorten 173 = .ok (.getfield 41, 3) := by decide +kernel
theorem dMod_shorten_176 : decode bMod_shorten 176 = .ok (.iload_n 2, 1) := by decide +kernel
theorem dMod_shorten_177 : decode bMod_shorten 177 = .ok (.iconst 0, 1) := by decide +kernel
theorem dMod_shorten_178 : decode bMod_shorten 178 = .ok (.iastore, 1) := by decide +kernel
theorem dMod_shorten_179 : decode bMod_shorten 179 = .ok (.aload_n 0, 1) := by decide +kernel
theorem dMod_shorten_180 : decode bMod_shorten 180 = .ok (.iload_n 1, 1) := by decide +kernel
theorem dMod_shorten_181 : decode bMod_shorten 181 = .ok (.invokevirtual 246, 3) := by decide +kernel
theorem dMod_shorten_184 : decode bMod_shorten 184 = .ok (.iinc 2 1, 3) := by decide +kernel
theorem dMod_shorten_187 : decode bMod_shorten 187 = .ok (.goto (-66), 3) := by decide +kernel
theorem dMod_shorten_190 : decode bMod_shorten 190 = .ok (.aload_n 0, 1) := by decide +kernel
theorem dMod_shorten_191 : decode bMod_shorten 191 = .ok (.getfield 156, 3) := by decide +kernel
theorem dMod_shorten_194 : decode bMod_shorten 194 = .ok (.ireturn, 1) := by decide +kernel
def wbMod_shorten_184 (post : Int32 → zM → Prop) (L121 : (Int32 × Int32 × zM) → Prop) (v1 : Int32) (v2 : Int32) (h : zM) : Prop := L121 (v1, (v2 + 1), h)
def stMod_shorten_121 (post : Int32 → zM → Prop) (L121 : (Int32 × Int32 × zM) → Prop) : (Int32 × Int32 × zM) → Prop := fun s => match s with
  | (v1, v2, h) => ((((2 * (h 0 11)) ≤ v2) → post (h 0 11) h) ∧ (¬ ((2 * (h 0 11)) ≤ v2) → (vp_in (v2 / 2) 20 ∧ (vp_in (h 8 (Int32.toNatClampNeg (v2 / 2))) 10 ∧ wpMod_arity (h 4 (Int32.toNatClampNeg (h 8 (Int32.toNatClampNeg (v2 / 2))))) h (fun r147 h147 => (((r147 ≤ (v2 - v2 / 2 * 2)) → wbMod_shorten_184 post L121 v1 v2 h147) ∧ (¬ (r147 ≤ (v2 - v2 / 2 * 2)) → (vp_in v2 40 ∧ ((¬ (h147 9 (Int32.toNatClampNeg v2)) = 1 → wbMod_shorten_184 post L121 v1 v2 h147) ∧ ((h147 9 (Int32.toNatClampNeg v2)) = 1 → (vp_in v2 40 ∧ (((h147 10 (Int32.toNatClampNeg v2)) = 0 → wbMod_shorten_184 post L121 v1 v2 h147) ∧ (¬ (h147 10 (Int32.toNatClampNeg v2)) = 0 → (vp_in v2 40 ∧ ∀ h178 : zM, h178 = zu h147 10 (Int32.toNatClampNeg v2) 0 → wpMod_settle v1 h178 (fun h181 => wbMod_shorten_184 post L121 v1 v2 h181)))))))))))))))
def wbMod_shorten_113 (post : Int32 → zM → Prop) (L91 : (Int32 × Int32 × zM) → Prop) (v1 : Int32) (v2 : Int32) (h : zM) : Prop := L91 (v1, (v2 + (-1)), h)
def stMod_shorten_91 (post : Int32 → zM → Prop) (L91 : (Int32 × Int32 × zM) → Prop) : (Int32 × Int32 × zM) → Prop := fun s => match s with
  | (v1, v2, h) => (((v2 < 0) → zL (stMod_shorten_121 post) (v1, 0, h)) ∧ (¬ (v2 < 0) → wpMod_used v2 h (fun r97 h97 => ((¬ r97 = 0 → wbMod_shorten_113 post L91 v1 v2 h97) ∧ (r97 = 0 → wpMod_without v2 h97 (fun h105 => wpMod_settle v1 h105 (fun h110 => wbMod_shorten_113 post L91 v1 v2 h110)))))))
def wbMod_shorten_78 (post : Int32 → zM → Prop) (L31 : (Int32 × Int32 × zM) → Prop) (v1 : Int32) (v2 : Int32) (h : zM) : Prop := L31 (v1, (v2 + 1), h)
def stMod_shorten_31 (post : Int32 → zM → Prop) (L31 : (Int32 × Int32 × zM) → Prop) : (Int32 × Int32 × zM) → Prop := fun s => match s with
  | (v1, v2, h) => ((((2 * (h 0 11)) ≤ v2) → ∀ y90 : Int32, y90 = ((h 0 11) - 2) → zL (stMod_shorten_91 post) (v1, y90, h)) ∧ (¬ ((2 * (h 0 11)) ≤ v2) → (vp_in (v2 / 2) 20 ∧ (vp_in (h 8 (Int32.toNatClampNeg (v2 / 2))) 10 ∧ wpMod_arity (h 4 (Int32.toNatClampNeg (h 8 (Int32.toNatClampNeg (v2 / 2))))) h (fun r57 h57 => (((r57 ≤ (v2 - v2 / 2 * 2)) → wbMod_shorten_78 post L31 v1 v2 h57) ∧ (¬ (r57 ≤ (v2 - v2 / 2 * 2)) → (vp_in v2 40 ∧ ((¬ (h57 9 (Int32.toNatClampNeg v2)) = 0 → wbMod_shorten_78 post L31 v1 v2 h57) ∧ ((h57 9 (Int32.toNatClampNeg v2)) = 0 → wpMod_simpler v1 v2 h57 (fun h75 => wbMod_shorten_78 post L31 v1 v2 h75)))))))))))
def wpMod_shorten (x1 : Int32) (h : zM) (post : Int32 → zM → Prop) : Prop := (((x1 < 0) → post (-1) h) ∧ (¬ (x1 < 0) → ((((h 0 17) ≤ x1) → post (-1) h) ∧ (¬ ((h 0 17) ≤ x1) → (vp_in x1 41 ∧ (((2 ≤ (h 17 (Int32.toNatClampNeg x1))) → wpMod_load x1 h (fun h26 => zL (stMod_shorten_31 post) (x1, 0, h26))) ∧ (¬ (2 ≤ (h 17 (Int32.toNatClampNeg x1))) → post (-1) h)))))))
abbrev rmMod_shorten : Room := { frames := 6, cells := 0, slots := 0, locals := 140 }
set_option maxHeartbeats 4000000 in
set_option maxRecDepth 100000 in
theorem cMod_shorten (l : Launch) (D : va_G) (cI cC cE : ClassId) (ad : Nat → Nat) (A : Nat → Prop) (hJ : zJ A 28 ad) (x1 : Int32) (h : zM) (post : Int32 → zM → Prop) (hw : wpMod_shorten x1 h post) : Met l yMod_shorten (.code yMod_shorten bMod_shorten 3 (some .int) :: zt) rmMod_shorten (va_Pc [.ref (ad 0), .int x1] (zPre D (zty cI cC cE) 28 ad (mF ad cI) A h)) (va_Qi post (zPst D (zty cI cC cE) 28 ad (mF ad cI)) A) 0 0 A := by
  refine Met.ofW (cc := bMod_shorten) (maxL := 3) (ret := (some .int)) (by decide) rfl ?_
  intro p e s m args below meth c s₁ B hml hv
  obtain ⟨rfl, hP, hK, hT, hN⟩ := hv
  have hr := B.returns
  have hlk := B.notSynchronized
  have S : zS p m c bMod_shorten 3 s _ "CallExplorerModel" := ⟨B.exec, B.bytes, hml, findClass_of_methodNamed B.named, fun w hw => atoms_spec (ws := .code yMod_shorten bMod_shorten 3 (some .int) :: zt) B.pre w (List.mem_cons_of_mem _ hw)⟩
  have hS : va_S A s.heap s.heap [] := va_S.rf
  have hl := lv_entry ([.ref (ad 0), .int x1]) (n := 3) (Nat.le_of_ble_eq_true rfl)
  rw [lg_entry_eq]
  generalize (lg_sl ([.ref (ad 0), .int x1]) ++ List.replicate (3 - (lg_sl ([.ref (ad 0), .int x1])).length) Slot.unset).toArray = ls at hl ⊢
  have hl : lv_has ls 3 [(0, .ref (ad 0)), (1, .int x1)] := hl
  show W p l e rmMod_shorten s m ([.ref (ad 0), .int x1] : List Value).toArray below meth c s.heap [] 0 0 (zQi post D (zty cI cC cE) 28 ad (mF ad cI) A below ([.ref (ad 0), .int x1] : List Value).toArray s) _
  have J121 : ∀ (fu : Nat) (v1 : Int32) (v2 : Int32) (h : zM) (H : Heap) (locs : List Loc) (ls : Array Slot), zl (stMod_shorten_121 post) fu (v1, v2, h) → lv_has ls 3 [(0, .ref (ad 0)), (1, .int v1), (2, .int v2)] → va_P D zcl (zW 28 ad (mF ad cI) h) H → va_S A s.heap H locs → W p l e rmMod_shorten s m ([.ref (ad 0), .int x1] : List Value).toArray below meth c H locs 0 0 (zQi post D (zty cI cC cE) 28 ad (mF ad cI) A below ([.ref (ad 0), .int x1] : List Value).toArray s) (F0 m 121 ls []) := by
    intro fu121
    induction fu121 with
    | zero =>
      intro v1 v2 h H locs ls hw
      exact (zl_0 hw).elim
    | succ fu121 ih121 =>
      intro v1 v2 h H locs ls hw hl hP hS
      have hw := zl_s hw
      generalize zl (stMod_shorten_121 post) fu121 = L121 at hw ih121
      have J184 : ∀ (v1 : Int32) (v2 : Int32) (h : zM) (H : Heap) (locs : List Loc) (ls : Array Slot), wbMod_shorten_184 post L121 v1 v2 h → lv_has ls 3 [(0, .ref (ad 0)), (1, .int v1), (2, .int v2)] → va_P D zcl (zW 28 ad (mF ad cI) h) H → va_S A s.heap H locs → W p l e rmMod_shorten s m ([.ref (ad 0), .int x1] : List Value).toArray below meth c H locs 0 0 (zQi post D (zty cI cC cE) 28 ad (mF ad cI) A below ([.ref (ad 0), .int x1] : List Value).toArray s) (F0 m 184 ls []) := by
        intro v1 v2 h H locs ls hw hl hP hS
        unfold wbMod_shorten_184 at hw
        refine lv_iinc (v := (v2 + 1)) (lv' := [(2, .int (v2 + 1)), (0, .ref (ad 0)), (1, .int v1)]) (k := 2) S.1 S.2.1 dMod_shorten_184 hl rfl rfl (by decide) rfl (fun ls hl => ?_)
        refine lv_goto S.1 S.2.1 dMod_shorten_187 rfl ?_
        exact ih121 _ _ _ _ _ _ hw (lv_sub hl [1, 2, 0] rfl) hP hS
      unfold stMod_shorten_121 at hw
      dsimp only at hw
      refine lv_iload_n S.1 S.2.1 dMod_shorten_121 rfl (lv_at hl 2 rfl) ?_
      refine lv_iconst (v := 2) S.1 S.2.1 dMod_shorten_122 (by decide) ?_
      refine lv_aload_n S.1 S.2.1 dMod_shorten_123 rfl (lv_at hl 0 rfl) ?_
      refine zr_get S hK hP (by decide) (mF_0 _) fMod_size q839 rfl dMod_shorten_124 ?_
      refine lv_imul S.1 S.2.1 dMod_shorten_127 ?_
      refine lv_icmp_ge S.1 S.2.1 dMod_shorten_128 rfl (fun hc => ?_) (fun hc => ?_)
      · have hw := hw.1 hc
        refine lv_aload_n S.1 S.2.1 dMod_shorten_190 rfl (lv_at hl 0 rfl) ?_
        refine zr_get S hK hP (by decide) (mF_0 _) fMod_size q839 rfl dMod_shorten_191 ?_
        exact zr_iret S hr hlk hK hP hS rfl hw dMod_shorten_194
      · have hw := hw.2 hc
        refine lv_iload_n S.1 S.2.1 dMod_shorten_131 rfl (lv_at hl 2 rfl) ?_
        refine lv_iconst (v := 2) S.1 S.2.1 dMod_shorten_132 (by decide) ?_
        refine lv_irem S.1 S.2.1 dMod_shorten_133 (by decide) ?_
        refine lv_aload_n S.1 S.2.1 dMod_shorten_134 rfl (lv_at hl 0 rfl) ?_
        refine zr_get S hK hP (by decide) (mF_0 _) fMod_kind q834 rfl dMod_shorten_135 ?_
        refine lv_aload_n S.1 S.2.1 dMod_shorten_138 rfl (lv_at hl 0 rfl) ?_
        refine zr_get S hK hP (by decide) (mF_0 _) fMod_op q840 rfl dMod_shorten_139 ?_
        refine lv_iload_n S.1 S.2.1 dMod_shorten_142 rfl (lv_at hl 2 rfl) ?_
        refine lv_iconst (v := 2) S.1 S.2.1 dMod_shorten_143 (by decide) ?_
        refine lv_idiv S.1 S.2.1 dMod_shorten_144 (by decide) ?_
        obtain ⟨z145, hw⟩ := hw
        refine zr_ald S hK hP (by decide) (mF_8 _) 0 rfl z145 dMod_shorten_145 ?_
        obtain ⟨z146, hw⟩ := hw
        refine zr_ald S hK hP (by decide) (mF_4 _) 0 rfl z146 dMod_shorten_146 ?_
        refine zr_i (zr_T (As := [.int (h 4 (Int32.toNatClampNeg (h 8 (Int32.toNatClampNeg (v2 / 2)))))]) (rest := [.int (v2 - v2 / 2 * 2)]) S hK hT hN hP hS (cMod_arity l D cI cC cE ad A hJ _ _ _ hw) caMod_122 ⟨Nat.le_of_ble_eq_true rfl, Nat.le_of_ble_eq_true rfl⟩ ⟨rfl, rfl⟩ rfl hl.1 rfl (Nat.le_of_ble_eq_true rfl) dMod_shorten_147) hS (fun r147 h147 H locs hw hP hS => ?_)
        refine lv_icmp_ge S.1 S.2.1 dMod_shorten_150 rfl (fun hc => ?_) (fun hc => ?_)
        · have hw := hw.1 hc
          exact J184 _ _ _ _ _ _ hw (lv_sub hl [0, 1, 2] rfl) hP hS
        · have hw := hw.2 hc
          refine lv_aload_n S.1 S.2.1 dMod_shorten_153 rfl (lv_at hl 0 rfl) ?_
          refine zr_get S hK hP (by decide) (mF_0 _) fMod_how q841 rfl dMod_shorten_154 ?_
          refine lv_iload_n S.1 S.2.1 dMod_shorten_157 rfl (lv_at hl 2 rfl) ?_
          obtain ⟨z158, hw⟩ := hw
          refine zr_ald S hK hP (by decide) (mF_9 _) 0 rfl z158 dMod_shorten_158 ?_
          refine lv_iconst (v := 1) S.1 S.2.1 dMod_shorten_159 (by decide) ?_
          refine lv_icmp_ne S.1 S.2.1 dMod_shorten_160 rfl (fun hc => ?_) (fun hc => ?_)
          · have hw := hw.1 hc
            exact J184 _ _ _ _ _ _ hw (lv_sub hl [0, 1, 2] rfl) hP hS
          · have hw := hw.2 hc
            refine lv_aload_n S.1 S.2.1 dMod_shorten_163 rfl (lv_at hl 0 rfl) ?_
            refine zr_get S hK hP (by decide) (mF_0 _) fMod_arg q842 rfl dMod_shorten_164 ?_
            refine lv_iload_n S.1 S.2.1 dMod_shorten_167 rfl (lv_at hl 2 rfl) ?_
            obtain ⟨z168, hw⟩ := hw
            refine zr_ald S hK hP (by decide) (mF_10 _) 0 rfl z168 dMod_shorten_168 ?_
            refine lv_if_eq S.1 S.2.1 dMod_shorten_169 rfl (fun hc => ?_) (fun hc => ?_)
            · have hw := hw.1 hc
              exact J184 _ _ _ _ _ _ hw (lv_sub hl [0, 1, 2] rfl) hP hS
            · have hw := hw.2 hc
              refine lv_aload_n S.1 S.2.1 dMod_shorten_172 rfl (lv_at hl 0 rfl) ?_
              refine zr_get S hK hP (by decide) (mF_0 _) fMod_arg q842 rfl dMod_shorten_173 ?_
              refine lv_iload_n S.1 S.2.1 dMod_shorten_176 rfl (lv_at hl 2 rfl) ?_
              refine lv_iconst (v := 0) S.1 S.2.1 dMod_shorten_177 (by decide) ?_
              obtain ⟨z178, hw⟩ := hw
              refine zr_ast S hK hJ hP hS (by decide) mF_10 0 rfl z178 dMod_shorten_178 (fun h178 H locs e178 hP hS => ?_)
              have hw := hw h178 e178
              refine lv_aload_n S.1 S.2.1 dMod_shorten_179 rfl (lv_at hl 0 rfl) ?_
              refine lv_iload_n S.1 S.2.1 dMod_shorten_180 rfl (lv_at hl 1 rfl) ?_
              refine zr_v (zr_V (As := [.int v1]) (rest := []) S hK hT hN hP hS (by decide) (mF_0 _) rfl (cMod_settle l D cI cC cE ad A hJ _ _ _ hw) caMod_246 ⟨Nat.le_of_ble_eq_true rfl, Nat.le_of_ble_eq_true rfl⟩ ⟨rfl, rfl⟩ rfl hl.1 rfl (Nat.le_of_ble_eq_true rfl) dMod_shorten_181) hS (fun h181 H locs hw hP hS => ?_)
              exact J184 _ _ _ _ _ _ hw (lv_sub hl [0, 1, 2] rfl) hP hS
  have J91 : ∀ (fu : Nat) (v1 : Int32) (v2 : Int32) (h : zM) (H : Heap) (locs : List Loc) (ls : Array Slot), zl (stMod_shorten_91 post) fu (v1, v2, h) → lv_has ls 3 [(0, .ref (ad 0)), (1, .int v1), (2, .int v2)] → va_P D zcl (zW 28 ad (mF ad cI) h) H → va_S A s.heap H locs → W p l e rmMod_shorten s m ([.ref (ad 0), .int x1] : List Value).toArray below meth c H locs 0 0 (zQi post D (zty cI cC cE) 28 ad (mF ad cI) A below ([.ref (ad 0), .int x1] : List Value).toArray s) (F0 m 91 ls []) := by
    intro fu91
    induction fu91 with
    | zero =>
      intro v1 v2 h H locs ls hw
      exact (zl_0 hw).elim
    | succ fu91 ih91 =>
      intro v1 v2 h H locs ls hw hl hP hS
      have hw := zl_s hw
      generalize zl (stMod_shorten_91 post) fu91 = L91 at hw ih91
      have J113 : ∀ (v1 : Int32) (v2 : Int32) (h : zM) (H : Heap) (locs : List Loc) (ls : Array Slot), wbMod_shorten_113 post L91 v1 v2 h → lv_has ls 3 [(0, .ref (ad 0)), (1, .int v1), (2, .int v2)] → va_P D zcl (zW 28 ad (mF ad cI) h) H → va_S A s.heap H locs → W p l e rmMod_shorten s m ([.ref (ad 0), .int x1] : List Value).toArray below meth c H locs 0 0 (zQi post D (zty cI cC cE) 28 ad (mF ad cI) A below ([.ref (ad 0), .int x1] : List Value).toArray s) (F0 m 113 ls []) := by
        intro v1 v2 h H locs ls hw hl hP hS
        unfold wbMod_shorten_113 at hw
        refine lv_iinc (v := (v2 + (-1))) (lv' := [(2, .int (v2 + (-1))), (0, .ref (ad 0)), (1, .int v1)]) (k := 2) S.1 S.2.1 dMod_shorten_113 hl rfl rfl (by decide) rfl (fun ls hl => ?_)
        refine lv_goto S.1 S.2.1 dMod_shorten_116 rfl ?_
        exact ih91 _ _ _ _ _ _ hw (lv_sub hl [1, 2, 0] rfl) hP hS
      unfold stMod_shorten_91 at hw
      dsimp only at hw
      refine lv_iload_n S.1 S.2.1 dMod_shorten_91 rfl (lv_at hl 2 rfl) ?_
      refine lv_if_lt S.1 S.2.1 dMod_shorten_92 rfl (fun hc => ?_) (fun hc => ?_)
      · have hw := hw.1 hc
        refine lv_iconst (v := 0) S.1 S.2.1 dMod_shorten_119 (by decide) ?_
        refine lv_istore_n (lv' := [(2, .int 0), (0, .ref (ad 0)), (1, .int v1)]) S.1 S.2.1 dMod_shorten_120 rfl hl (by decide) rfl (fun ls hl => ?_)
        obtain ⟨fu, hw⟩ := hw
        exact J121 fu _ _ _ _ _ _ hw (lv_sub hl [1, 2, 0] rfl) hP hS
      · have hw := hw.2 hc
        refine lv_aload_n S.1 S.2.1 dMod_shorten_95 rfl (lv_at hl 0 rfl) ?_
        refine lv_iload_n S.1 S.2.1 dMod_shorten_96 rfl (lv_at hl 2 rfl) ?_
        refine zr_i (zr_V (As := [.int v2]) (rest := []) S hK hT hN hP hS (by decide) (mF_0 _) rfl (cMod_used l D cI cC cE ad A hJ _ _ _ hw) caMod_252 ⟨Nat.le_of_ble_eq_true rfl, Nat.le_of_ble_eq_true rfl⟩ ⟨rfl, rfl⟩ rfl hl.1 rfl (Nat.le_of_ble_eq_true rfl) dMod_shorten_97) hS (fun r97 h97 H locs hw hP hS => ?_)
        refine lv_if_ne S.1 S.2.1 dMod_shorten_100 rfl (fun hc => ?_) (fun hc => ?_)
        · have hw := hw.1 hc
          exact J113 _ _ _ _ _ _ hw (lv_sub hl [0, 1, 2] rfl) hP hS
        · have hw := hw.2 hc
          refine lv_aload_n S.1 S.2.1 dMod_shorten_103 rfl (lv_at hl 0 rfl) ?_
          refine lv_iload_n S.1 S.2.1 dMod_shorten_104 rfl (lv_at hl 2 rfl) ?_
          refine zr_v (zr_V (As := [.int v2]) (rest := []) S hK hT hN hP hS (by decide) (mF_0 _) rfl (cMod_without l D cI cC cE ad A hJ _ _ _ hw) caMod_255 ⟨Nat.le_of_ble_eq_true rfl, Nat.le_of_ble_eq_true rfl⟩ ⟨rfl, rfl⟩ rfl hl.1 rfl (Nat.le_of_ble_eq_true rfl) dMod_shorten_105) hS (fun h105 H locs hw hP hS => ?_)
          refine lv_aload_n S.1 S.2.1 dMod_shorten_108 rfl (lv_at hl 0 rfl) ?_
          refine lv_iload_n S.1 S.2.1 dMod_shorten_109 rfl (lv_at hl 1 rfl) ?_
          refine zr_v (zr_V (As := [.int v1]) (rest := []) S hK hT hN hP hS (by decide) (mF_0 _) rfl (cMod_settle l D cI cC cE ad A hJ _ _ _ hw) caMod_246 ⟨Nat.le_of_ble_eq_true rfl, Nat.le_of_ble_eq_true rfl⟩ ⟨rfl, rfl⟩ rfl hl.1 rfl (Nat.le_of_ble_eq_true rfl) dMod_shorten_110) hS (fun h110 H locs hw hP hS => ?_)
          exact J113 _ _ _ _ _ _ hw (lv_sub hl [0, 1, 2] rfl) hP hS
  have J31 : ∀ (fu : Nat) (v1 : Int32) (v2 : Int32) (h : zM) (H : Heap) (locs : List Loc) (ls : Array Slot), zl (stMod_shorten_31 post) fu (v1, v2, h) → lv_has ls 3 [(0, .ref (ad 0)), (1, .int v1), (2, .int v2)] → va_P D zcl (zW 28 ad (mF ad cI) h) H → va_S A s.heap H locs → W p l e rmMod_shorten s m ([.ref (ad 0), .int x1] : List Value).toArray below meth c H locs 0 0 (zQi post D (zty cI cC cE) 28 ad (mF ad cI) A below ([.ref (ad 0), .int x1] : List Value).toArray s) (F0 m 31 ls []) := by
    intro fu31
    induction fu31 with
    | zero =>
      intro v1 v2 h H locs ls hw
      exact (zl_0 hw).elim
    | succ fu31 ih31 =>
      intro v1 v2 h H locs ls hw hl hP hS
      have hw := zl_s hw
      generalize zl (stMod_shorten_31 post) fu31 = L31 at hw ih31
      have J78 : ∀ (v1 : Int32) (v2 : Int32) (h : zM) (H : Heap) (locs : List Loc) (ls : Array Slot), wbMod_shorten_78 post L31 v1 v2 h → lv_has ls 3 [(0, .ref (ad 0)), (1, .int v1), (2, .int v2)] → va_P D zcl (zW 28 ad (mF ad cI) h) H → va_S A s.heap H locs → W p l e rmMod_shorten s m ([.ref (ad 0), .int x1] : List Value).toArray below meth c H locs 0 0 (zQi post D (zty cI cC cE) 28 ad (mF ad cI) A below ([.ref (ad 0), .int x1] : List Value).toArray s) (F0 m 78 ls []) := by
        intro v1 v2 h H locs ls hw hl hP hS
        unfold wbMod_shorten_78 at hw
        refine lv_iinc (v := (v2 + 1)) (lv' := [(2, .int (v2 + 1)), (0, .ref (ad 0)), (1, .int v1)]) (k := 2) S.1 S.2.1 dMod_shorten_78 hl rfl rfl (by decide) rfl (fun ls hl => ?_)
        refine lv_goto S.1 S.2.1 dMod_shorten_81 rfl ?_
        exact ih31 _ _ _ _ _ _ hw (lv_sub hl [1, 2, 0] rfl) hP hS
      unfold stMod_shorten_31 at hw
      dsimp only at hw
      refine lv_iload_n S.1 S.2.1 dMod_shorten_31 rfl (lv_at hl 2 rfl) ?_
      refine lv_iconst (v := 2) S.1 S.2.1 dMod_shorten_32 (by decide) ?_
      refine lv_aload_n S.1 S.2.1 dMod_shorten_33 rfl (lv_at hl 0 rfl) ?_
      refine zr_get S hK hP (by decide) (mF_0 _) fMod_size q839 rfl dMod_shorten_34 ?_
      refine lv_imul S.1 S.2.1 dMod_shorten_37 ?_
      refine lv_icmp_ge S.1 S.2.1 dMod_shorten_38 rfl (fun hc => ?_) (fun hc => ?_)
      · have hw := hw.1 hc
        refine lv_aload_n S.1 S.2.1 dMod_shorten_84 rfl (lv_at hl 0 rfl) ?_
        refine zr_get S hK hP (by decide) (mF_0 _) fMod_size q839 rfl dMod_shorten_85 ?_
        refine lv_iconst (v := 2) S.1 S.2.1 dMod_shorten_88 (by decide) ?_
        refine lv_isub S.1 S.2.1 dMod_shorten_89 ?_
        refine lv_topi (fun y90 e90 => ?_)
        have hw := hw y90 e90
        refine lv_istore_n (lv' := [(2, .int y90), (0, .ref (ad 0)), (1, .int v1)]) S.1 S.2.1 dMod_shorten_90 rfl hl (by decide) rfl (fun ls hl => ?_)
        obtain ⟨fu, hw⟩ := hw
        exact J91 fu _ _ _ _ _ _ hw (lv_sub hl [1, 2, 0] rfl) hP hS
      · have hw := hw.2 hc
        refine lv_iload_n S.1 S.2.1 dMod_shorten_41 rfl (lv_at hl 2 rfl) ?_
        refine lv_iconst (v := 2) S.1 S.2.1 dMod_shorten_42 (by decide) ?_
        refine lv_irem S.1 S.2.1 dMod_shorten_43 (by decide) ?_
        refine lv_aload_n S.1 S.2.1 dMod_shorten_44 rfl (lv_at hl 0 rfl) ?_
        refine zr_get S hK hP (by decide) (mF_0 _) fMod_kind q834 rfl dMod_shorten_45 ?_
        refine lv_aload_n S.1 S.2.1 dMod_shorten_48 rfl (lv_at hl 0 rfl) ?_
        refine zr_get S hK hP (by decide) (mF_0 _) fMod_op q840 rfl dMod_shorten_49 ?_
        refine lv_iload_n S.1 S.2.1 dMod_shorten_52 rfl (lv_at hl 2 rfl) ?_
        refine lv_iconst (v := 2) S.1 S.2.1 dMod_shorten_53 (by decide) ?_
        refine lv_idiv S.1 S.2.1 dMod_shorten_54 (by decide) ?_
        obtain ⟨z55, hw⟩ := hw
        refine zr_ald S hK hP (by decide) (mF_8 _) 0 rfl z55 dMod_shorten_55 ?_
        obtain ⟨z56, hw⟩ := hw
        refine zr_ald S hK hP (by decide) (mF_4 _) 0 rfl z56 dMod_shorten_56 ?_
        refine zr_i (zr_T (As := [.int (h 4 (Int32.toNatClampNeg (h 8 (Int32.toNatClampNeg (v2 / 2)))))]) (rest := [.int (v2 - v2 / 2 * 2)]) S hK hT hN hP hS (cMod_arity l D cI cC cE ad A hJ _ _ _ hw) caMod_122 ⟨Nat.le_of_ble_eq_true rfl, Nat.le_of_ble_eq_true rfl⟩ ⟨rfl, rfl⟩ rfl hl.1 rfl (Nat.le_of_ble_eq_true rfl) dMod_shorten_57) hS (fun r57 h57 H locs hw hP hS => ?_)
        refine lv_icmp_ge S.1 S.2.1 dMod_shorten_60 rfl (fun hc => ?_) (fun hc => ?_)
        · have hw := hw.1 hc
          exact J78 _ _ _ _ _ _ hw (lv_sub hl [0, 1, 2] rfl) hP hS
        · have hw := hw.2 hc
          refine lv_aload_n S.1 S.2.1 dMod_shorten_63 rfl (lv_at hl 0 rfl) ?_
          refine zr_get S hK hP (by decide) (mF_0 _) fMod_how q841 rfl dMod_shorten_64 ?_
          refine lv_iload_n S.1 S.2.1 dMod_shorten_67 rfl (lv_at hl 2 rfl) ?_
          obtain ⟨z68, hw⟩ := hw
          refine zr_ald S hK hP (by decide) (mF_9 _) 0 rfl z68 dMod_shorten_68 ?_
          refine lv_if_ne S.1 S.2.1 dMod_shorten_69 rfl (fun hc => ?_) (fun hc => ?_)
          · have hw := hw.1 hc
            exact J78 _ _ _ _ _ _ hw (lv_sub hl [0, 1, 2] rfl) hP hS
          · have hw := hw.2 hc
            refine lv_aload_n S.1 S.2.1 dMod_shorten_72 rfl (lv_at hl 0 rfl) ?_
            refine lv_iload_n S.1 S.2.1 dMod_shorten_73 rfl (lv_at hl 1 rfl) ?_
            refine lv_iload_n S.1 S.2.1 dMod_shorten_74 rfl (lv_at hl 2 rfl) ?_
            refine zr_v (zr_V (As := [.int v1, .int v2]) (rest := []) S hK hT hN hP hS (by decide) (mF_0 _) rfl (cMod_simpler l D cI cC cE ad A hJ _ _ _ _ hw) caMod_249 ⟨Nat.le_of_ble_eq_true rfl, Nat.le_of_ble_eq_true rfl⟩ ⟨rfl, rfl⟩ rfl hl.1 rfl (Nat.le_of_ble_eq_true rfl) dMod_shorten_75) hS (fun h75 H locs hw hP hS => ?_)
            exact J78 _ _ _ _ _ _ hw (lv_sub hl [0, 1, 2] rfl) hP hS
  unfold wpMod_shorten at hw
  refine lv_iload_n S.1 S.2.1 dMod_shorten_0 rfl (lv_at hl 1 rfl) ?_
  refine lv_if_lt S.1 S.2.1 dMod_shorten_1 rfl (fun hc => ?_) (fun hc => ?_)
  · have hw := hw.1 hc
    refine lv_iconst (v := (-1)) S.1 S.2.1 dMod_shorten_22 (by decide) ?_
    exact zr_iret S hr hlk hK hP hS rfl hw dMod_shorten_23
  · have hw := hw.2 hc
    refine lv_iload_n S.1 S.2.1 dMod_shorten_4 rfl (lv_at hl 1 rfl) ?_
    refine lv_aload_n S.1 S.2.1 dMod_shorten_5 rfl (lv_at hl 0 rfl) ?_
    refine zr_get S hK hP (by decide) (mF_0 _) fMod_entries q845 rfl dMod_shorten_6 ?_
    refine lv_icmp_ge S.1 S.2.1 dMod_shorten_9 rfl (fun hc => ?_) (fun hc => ?_)
    · have hw := hw.1 hc
      refine lv_iconst (v := (-1)) S.1 S.2.1 dMod_shorten_22 (by decide) ?_
      exact zr_iret S hr hlk hK hP hS rfl hw dMod_shorten_23
    · have hw := hw.2 hc
      refine lv_aload_n S.1 S.2.1 dMod_shorten_12 rfl (lv_at hl 0 rfl) ?_
      refine zr_get S hK hP (by decide) (mF_0 _) fMod_outcome q850 rfl dMod_shorten_13 ?_
      refine lv_iload_n S.1 S.2.1 dMod_shorten_16 rfl (lv_at hl 1 rfl) ?_
      obtain ⟨z17, hw⟩ := hw
      refine zr_ald S hK hP (by decide) (mF_17 _) 0 rfl z17 dMod_shorten_17 ?_
      refine lv_iconst (v := 2) S.1 S.2.1 dMod_shorten_18 (by decide) ?_
      refine lv_icmp_ge S.1 S.2.1 dMod_shorten_19 rfl (fun hc => ?_) (fun hc => ?_)
      · have hw := hw.1 hc
        refine lv_aload_n S.1 S.2.1 dMod_shorten_24 rfl (lv_at hl 0 rfl) ?_
        refine lv_iload_n S.1 S.2.1 dMod_shorten_25 rfl (lv_at hl 1 rfl) ?_
        refine zr_v (zr_V (As := [.int x1]) (rest := []) S hK hT hN hP hS (by decide) (mF_0 _) rfl (cMod_load l D cI cC cE ad A hJ _ _ _ hw) caMod_194 ⟨Nat.le_of_ble_eq_true rfl, Nat.le_of_ble_eq_true rfl⟩ ⟨rfl, rfl⟩ rfl hl.1 rfl (Nat.le_of_ble_eq_true rfl) dMod_shorten_26) hS (fun h26 H locs hw hP hS => ?_)
        refine lv_iconst (v := 0) S.1 S.2.1 dMod_shorten_29 (by decide) ?_
        refine lv_istore_n (lv' := [(2, .int 0), (0, .ref (ad 0)), (1, .int x1)]) S.1 S.2.1 dMod_shorten_30 rfl hl (by decide) rfl (fun ls hl => ?_)
        obtain ⟨fu, hw⟩ := hw
        exact J31 fu _ _ _ _ _ _ hw (lv_sub hl [1, 2, 0] rfl) hP hS
      · have hw := hw.2 hc
        refine lv_iconst (v := (-1)) S.1 S.2.1 dMod_shorten_22 (by decide) ?_
        exact zr_iret S hr hlk hK hP hS rfl hw dMod_shorten_23
