/-! predicates and contracts, printed by wip/whole/gen -/
/-! Mod.copyFrom -/
theorem dMod_copyFrom_0 : decode bMod_copyFrom 0 = .ok (.aload_n 0, 1) := by decide +kernel
theorem dMod_copyFrom_1 : decode bMod_copyFrom 1 = .ok (.getfield 35, 3) := by decide +kernel
theorem dMod_copyFrom_4 : decode bMod_copyFrom 4 = .ok (.iload_n 2, 1) := by decide +kernel
theorem dMod_copyFrom_5 : decode bMod_copyFrom 5 = .ok (.aload_n 0, 1) := by decide +kernel
theorem dMod_copyFrom_6 : decode bMod_copyFrom 6 = .ok (.getfield 53, 3) := by decide +kernel
theorem dMod_copyFrom_9 : decode bMod_copyFrom 9 = .ok (.iload_n 1, 1) := by decide +kernel
theorem dMod_copyFrom_10 : decode bMod_copyFrom 10 = .ok (.iaload, 1) := by decide +kernel
theorem dMod_copyFrom_11 : decode bMod_copyFrom 11 = .ok (.iastore, 1) := by decide +kernel
theorem dMod_copyFrom_12 : decode bMod_copyFrom 12 = .ok (.iconst 0, 1) := by decide +kernel
theorem dMod_copyFrom_13 : decode bMod_copyFrom 13 = .ok (.istore_n 3, 1) := by decide +kernel
theorem dMod_copyFrom_14 : decode bMod_copyFrom 14 = .ok (.iload_n 3, 1) := by decide +kernel
theorem dMod_copyFrom_15 : decode bMod_copyFrom 15 = .ok (.iconst 2, 1) := by decide +kernel
theorem dMod_copyFrom_16 : decode bMod_copyFrom 16 = .ok (.if_icmp .ge 49, 3) := by decide +kernel
theorem dMod_copyFrom_19 : decode bMod_copyFrom 19 = .ok (.aload_n 0, 1) := by decide +kernel
theorem dMod_copyFrom_20 : decode bMod_copyFrom 20 = .ok (.getfield 38, 3) := by decide +kernel
theorem dMod_copyFrom_23 : decode bMod_copyFrom 23 = .ok (.iconst 2, 1) := by decide +kernel
theorem dMod_copyFrom_24 : decode bMod_copyFrom 24 = .ok (.iload_n 2, 1) := by decide +kernel
theorem dMod_copyFrom_25 : decode bMod_copyFrom 25 = .ok (.imul, 1) := by decide +kernel
theorem dMod_copyFrom_26 : decode bMod_copyFrom 26 = .ok (.iload_n 3, 1) := by decide +kernel
theorem dMod_copyFrom_27 : decode bMod_copyFrom 27 = .ok (.iadd, 1) := by decide +kernel
theorem dMod_copyFrom_28 : decode bMod_copyFrom 28 = .ok (.aload_n 0, 1) := by decide +kernel
theorem dMod_copyFrom_29 : decode bMod_copyFrom 29 = .ok (.getfield 56, 3) := by decide +kernel
theorem dMod_copyFrom_32 : decode bMod_copyFrom 32 = .ok (.iconst 2, 1) := by decide +kernel
theorem dMod_copyFrom_33 : decode bMod_copyFrom 33 = .ok (.iload_n 1, 1) := by decide +kernel
theorem dMod_copyFrom_34 : decode bMod_copyFrom 34 = .ok (.imul, 1) := by decide +kernel
theorem dMod_copyFrom_35 : decode bMod_copyFrom 35 = .ok (.iload_n 3, 1) := by decide +kernel
theorem dMod_copyFrom_36 : decode bMod_copyFrom 36 = .ok (.iadd, 1) := by decide +kernel
theorem dMod_copyFrom_37 : decode bMod_copyFrom 37 = .ok (.iaload, 1) := by decide +kernel
theorem dMod_copyFrom_38 : decode bMod_copyFrom 38 = .ok (.iastore, 1) := by decide +kernel
theorem dMod_copyFrom_39 : decode bMod_copyFrom 39 = .ok (.aload_n 0, 1) := by decide +kernel
theorem dMod_copyFrom_40 : decode bMod_copyFrom 40 = .ok (.getfield 41, 3) := by decide +kernel
theorem dMod_copyFrom_43 : decode bMod_copyFrom 43 = .ok (.iconst 2, 1) := by decide +kernel
theorem dMod_copyFrom_44 : decode bMod_copyFrom 44 = .ok (.iload_n 2, 1) := by decide +kernel
theorem dMod_copyFrom_45 : decode bMod_copyFrom 45 = .ok (.imul, 1) := by decide +kernel
theorem dMod_copyFrom_46 : decode bMod_copyFrom 46 = .ok (.iload_n 3, 1) := by decide +kernel
theorem dMod_copyFrom_47 : decode bMod_copyFrom 47 = .ok (.iadd, 1) := by decide +kernel
theorem dMod_copyFrom_48 : decode bMod_copyFrom 48 = .ok (.aload_n 0, 1) := by decide +kernel
theorem dMod_copyFrom_49 : decode bMod_copyFrom 49 = .ok (.getfield 59, 3) := by decide +kernel
theorem dMod_copyFrom_52 : decode bMod_copyFrom 52 = .ok (.iconst 2, 1) := by decide +kernel
theorem dMod_copyFrom_53 : decode bMod_copyFrom 53 = .ok (.iload_n 1, 1) := by decide +kernel
theorem dMod_copyFrom_54 : decode bMod_copyFrom 54 = .ok (.imul, 1) := by decide +kernel
theorem dMod_copyFrom_55 : decode bMod_copyFrom 55 = .ok (.iload_n 3, 1) := by decide +kernel
theorem dMod_copyFrom_56 : decode bMod_copyFrom 56 = .ok (.iadd, 1) := by decide +kernel
theorem dMod_copyFrom_57 : decode bMod_copyFrom 57 = .ok (.iaload, 1) := by decide +kernel
theorem dMod_copyFrom_58 : decode bMod_copyFrom 58 = .ok (.iastore, 1) := by decide +kernel
theorem dMod_copyFrom_59 : decode bMod_copyFrom 59 = .ok (.iinc 3 1, 3) := by decide +kernel
theorem dMod_copyFrom_62 : decode bMod_copyFrom 62 = .ok (.goto (-48), 3) := by decide +kernel
theorem dMod_copyFrom_65 : decode bMod_copyFrom 65 = .ok (.return_, 1) := by decide +kernel
def stMod_copyFrom_14 (post : zM → Prop) (L14 : (Int32 × Int32 × Int32 × zM) → Prop) : (Int32 × Int32 × Int32 × zM) → Prop := fun s => match s with
  | (v1, v2, v3, h) => (((2 ≤ v3) → post h) ∧ (¬ (2 ≤ v3) → (vp_in ((2 * v1) + v3) 820 ∧ (vp_in ((2 * v2) + v3) 40 ∧ ∀ h38 : zM, h38 = zu h 9 (Int32.toNatClampNeg ((2 * v2) + v3)) (h 15 (Int32.toNatClampNeg ((2 * v1) + v3))) → (vp_in ((2 * v1) + v3) 820 ∧ (vp_in ((2 * v2) + v3) 40 ∧ ∀ h58 : zM, h58 = zu h38 10 (Int32.toNatClampNeg ((2 * v2) + v3)) (h38 16 (Int32.toNatClampNeg ((2 * v1) + v3))) → L14 (v1, v2, (v3 + 1), h58)))))))
def wpMod_copyFrom (x1 : Int32) (x2 : Int32) (h : zM) (post : zM → Prop) : Prop := (vp_in x1 410 ∧ (vp_in x2 20 ∧ ∀ h11 : zM, h11 = zu h 8 (Int32.toNatClampNeg x2) (h 14 (Int32.toNatClampNeg x1)) → zL (stMod_copyFrom_14 post) (x1, x2, 0, h11)))
abbrev rmMod_copyFrom : Room := { frames := 0, cells := 0, slots := 0, locals := 0 }
set_option maxHeartbeats 4000000 in
set_option maxRecDepth 100000 in
theorem cMod_copyFrom (l : Launch) (D : va_G) (cI cC cE : ClassId) (ad : Nat → Nat) (A : Nat → Prop) (hJ : zJ A 28 ad) (x1 : Int32) (x2 : Int32) (h : zM) (post : zM → Prop) (hw : wpMod_copyFrom x1 x2 h post) : Met l yMod_copyFrom (.code yMod_copyFrom bMod_copyFrom 4 none :: zt) rmMod_copyFrom (va_Pc [.ref (ad 0), .int x1, .int x2] (zPre D (zty cI cC cE) 28 ad (mF ad cI) A h)) (va_Qv post (zPst D (zty cI cC cE) 28 ad (mF ad cI)) A) 0 0 A := by
  refine Met.ofW (cc := bMod_copyFrom) (maxL := 4) (ret := none) (by decide) rfl ?_
  intro p e s m args below meth c s₁ B hml hv
  obtain ⟨rfl, hP, hK, hT, hN⟩ := hv
  have hr := B.returns
  have hlk := B.notSynchronized
  have S : zS p m c bMod_copyFrom 4 s _ "CallExplorerModel" := ⟨B.exec, B.bytes, hml, findClass_of_methodNamed B.named, fun w hw => atoms_spec (ws := .code yMod_copyFrom bMod_copyFrom 4 none :: zt) B.pre w (List.mem_cons_of_mem _ hw)⟩
  have hS : va_S A s.heap s.heap [] := va_S.rf
  have hl := lv_entry ([.ref (ad 0), .int x1, .int x2]) (n := 4) (Nat.le_of_ble_eq_true rfl)
  rw [lg_entry_eq]
  generalize (lg_sl ([.ref (ad 0), .int x1, .int x2]) ++ List.replicate (4 - (lg_sl ([.ref (ad 0), .int x1, .int x2])).length) Slot.unset).toArray = ls at hl ⊢
  have hl : lv_has ls 4 [(0, .ref (ad 0)), (1, .int x1), (2, .int x2)] := hl
  show W p l e rmMod_copyFrom s m ([.ref (ad 0), .int x1, .int x2] : List Value).toArray below meth c s.heap [] 0 0 (zQv post D (zty cI cC cE) 28 ad (mF ad cI) A below ([.ref (ad 0), .int x1, .int x2] : List Value).toArray s) _
  have J14 : ∀ (fu : Nat) (v1 : Int32) (v2 : Int32) (v3 : Int32) (h : zM) (H : Heap) (locs : List Loc) (ls : Array Slot), zl (stMod_copyFrom_14 post) fu (v1, v2, v3, h) → lv_has ls 4 [(0, .ref (ad 0)), (1, .int v1), (2, .int v2), (3, .int v3)] → va_P D zcl (zW 28 ad (mF ad cI) h) H → va_S A s.heap H locs → W p l e rmMod_copyFrom s m ([.ref (ad 0), .int x1, .int x2] : List Value).toArray below meth c H locs 0 0 (zQv post D (zty cI cC cE) 28 ad (mF ad cI) A below ([.ref (ad 0), .int x1, .int x2] : List Value).toArray s) (F0 m 14 ls []) := by
    intro fu14
    induction fu14 with
    | zero =>
      intro v1 v2 v3 h H locs ls hw
      exact (zl_0 hw).elim
    | succ fu14 ih14 =>
      intro v1 v2 v3 h H locs ls hw hl hP hS
      have hw := zl_s hw
      generalize zl (stMod_copyFrom_14 post) fu14 = L14 at hw ih14
      unfold stMod_copyFrom_14 at hw
      dsimp only at hw
      refine lv_iload_n S.1 S.2.1 dMod_copyFrom_14 rfl (lv_at hl 3 rfl) ?_
      refine lv_iconst (v := 2) S.1 S.2.1 dMod_copyFrom_15 (by decide) ?_
      refine lv_icmp_ge S.1 S.2.1 dMod_copyFrom_16 rfl (fun hc => ?_) (fun hc => ?_)
      · have hw := hw.1 hc
        exact zr_vret S hr hlk hK hP hS hw dMod_copyFrom_65
      · have hw := hw.2 hc
        refine lv_aload_n S.1 S.2.1 dMod_copyFrom_19 rfl (lv_at hl 0 rfl) ?_
        refine zr_get S hK hP (by decide) (mF_0 _) fMod_how q841 rfl dMod_copyFrom_20 ?_
        refine lv_iconst (v := 2) S.1 S.2.1 dMod_copyFrom_23 (by decide) ?_
        refine lv_iload_n S.1 S.2.1 dMod_copyFrom_24 rfl (lv_at hl 2 rfl) ?_
        refine lv_imul S.1 S.2.1 dMod_copyFrom_25 ?_
        refine lv_iload_n S.1 S.2.1 dMod_copyFrom_26 rfl (lv_at hl 3 rfl) ?_
        refine lv_iadd S.1 S.2.1 dMod_copyFrom_27 ?_
        refine lv_aload_n S.1 S.2.1 dMod_copyFrom_28 rfl (lv_at hl 0 rfl) ?_
        refine zr_get S hK hP (by decide) (mF_0 _) fMod_hows q848 rfl dMod_copyFrom_29 ?_
        refine lv_iconst (v := 2) S.1 S.2.1 dMod_copyFrom_32 (by decide) ?_
        refine lv_iload_n S.1 S.2.1 dMod_copyFrom_33 rfl (lv_at hl 1 rfl) ?_
        refine lv_imul S.1 S.2.1 dMod_copyFrom_34 ?_
        refine lv_iload_n S.1 S.2.1 dMod_copyFrom_35 rfl (lv_at hl 3 rfl) ?_
        refine lv_iadd S.1 S.2.1 dMod_copyFrom_36 ?_
        obtain ⟨z37, hw⟩ := hw
        refine zr_ald S hK hP (by decide) (mF_15 _) 0 rfl z37 dMod_copyFrom_37 ?_
        obtain ⟨z38, hw⟩ := hw
        refine zr_ast S hK hJ hP hS (by decide) mF_9 0 rfl z38 dMod_copyFrom_38 (fun h38 H locs e38 hP hS => ?_)
        have hw := hw h38 e38
        refine lv_aload_n S.1 S.2.1 dMod_copyFrom_39 rfl (lv_at hl 0 rfl) ?_
        refine zr_get S hK hP (by decide) (mF_0 _) fMod_arg q842 rfl dMod_copyFrom_40 ?_
        refine lv_iconst (v := 2) S.1 S.2.1 dMod_copyFrom_43 (by decide) ?_
        refine lv_iload_n S.1 S.2.1 dMod_copyFrom_44 rfl (lv_at hl 2 rfl) ?_
        refine lv_imul S.1 S.2.1 dMod_copyFrom_45 ?_
        refine lv_iload_n S.1 S.2.1 dMod_copyFrom_46 rfl (lv_at hl 3 rfl) ?_
        refine lv_iadd S.1 S.2.1 dMod_copyFrom_47 ?_
        refine lv_aload_n S.1 S.2.1 dMod_copyFrom_48 rfl (lv_at hl 0 rfl) ?_
        refine zr_get S hK hP (by decide) (mF_0 _) fMod_args q849 rfl dMod_copyFrom_49 ?_
        refine lv_iconst (v := 2) S.1 S.2.1 dMod_copyFrom_52 (by decide) ?_
        refine lv_iload_n S.1 S.2.1 dMod_copyFrom_53 rfl (lv_at hl 1 rfl) ?_
        refine lv_imul S.1 S.2.1 dMod_copyFrom_54 ?_
        refine lv_iload_n S.1 S.2.1 dMod_copyFrom_55 rfl (lv_at hl 3 rfl) ?_
        refine lv_iadd S.1 S.2.1 dMod_copyFrom_56 ?_
        obtain ⟨z57, hw⟩ := hw
        refine zr_ald S hK hP (by decide) (mF_16 _) 0 rfl z57 dMod_copyFrom_57 ?_
        obtain ⟨z58, hw⟩ := hw
        refine zr_ast S hK hJ hP hS (by decide) mF_10 0 rfl z58 dMod_copyFrom_58 (fun h58 H locs e58 hP hS => ?_)
        have hw := hw h58 e58
        refine lv_iinc (v := (v3 + 1)) (lv' := [(3, .int (v3 + 1)), (0, .ref (ad 0)), (1, .int v1), (2, .int v2)]) (k := 3) S.1 S.2.1 dMod_copyFrom_59 hl rfl rfl (by decide) rfl (fun ls hl => ?_)
        refine lv_goto S.1 S.2.1 dMod_copyFrom_62 rfl ?_
        exact ih14 _ _ _ _ _ _ _ hw (lv_sub hl [1, 2, 3, 0] rfl) hP hS
  unfold wpMod_copyFrom at hw
  refine lv_aload_n S.1 S.2.1 dMod_copyFrom_0 rfl (lv_at hl 0 rfl) ?_
  refine zr_get S hK hP (by decide) (mF_0 _) fMod_op q840 rfl dMod_copyFrom_1 ?_
  refine lv_iload_n S.1 S.2.1 dMod_copyFrom_4 rfl (lv_at hl 2 rfl) ?_
  refine lv_aload_n S.1 S.2.1 dMod_copyFrom_5 rfl (lv_at hl 0 rfl) ?_
  refine zr_get S hK hP (by decide) (mF_0 _) fMod_ops q847 rfl dMod_copyFrom_6 ?_
  refine lv_iload_n S.1 S.2.1 dMod_copyFrom_9 rfl (lv_at hl 1 rfl) ?_
  obtain ⟨z10, hw⟩ := hw
  refine zr_ald S hK hP (by decide) (mF_14 _) 0 rfl z10 dMod_copyFrom_10 ?_
  obtain ⟨z11, hw⟩ := hw
  refine zr_ast S hK hJ hP hS (by decide) mF_8 0 rfl z11 dMod_copyFrom_11 (fun h11 H locs e11 hP hS => ?_)
  have hw := hw h11 e11
  refine lv_iconst (v := 0) S.1 S.2.1 dMod_copyFrom_12 (by decide) ?_
  refine lv_istore_n (lv' := [(3, .int 0), (0, .ref (ad 0)), (1, .int x1), (2, .int x2)]) S.1 S.2.1 dMod_copyFrom_13 rfl hl (by decide) rfl (fun ls hl => ?_)
  obtain ⟨fu, hw⟩ := hw
  exact J14 fu _ _ _ _ _ _ _ hw (lv_sub hl [1, 2, 3, 0] rfl) hP hS
/-! Mod.load -/
theorem dMod_load_0 : decode bMod_load 0 = .ok (.aload_n 0, 1) := by decide +kernel
theorem dMod_load_1 : decode bMod_load 1 = .ok (.aload_n 0, 1) := by decide +kernel
theorem dMod_load_2 : decode bMod_load 2 = .ok (.getfield 50, 3) := by decide +kernel
theorem dMod_load_5 : decode bMod_load 5 = .ok (.iload_n 1, 1) := by decide +kernel
theorem dMod_load_6 : decode bMod_load 6 = .ok (.iaload, 1) := by decide +kernel
theorem dMod_load_7 : decode bMod_load 7 = .ok (.putfield 156, 3) := by decide +kernel
theorem dMod_load_10 : decode bMod_load 10 = .ok (.iconst 0, 1) := by decide +kernel
theorem dMod_load_11 : decode bMod_load 11 = .ok (.istore_n 2, 1) := by decide +kernel
theorem dMod_load_12 : decode bMod_load 12 = .ok (.iload_n 2, 1) := by decide +kernel
theorem dMod_load_13 : decode bMod_load 13 = .ok (.aload_n 0, 1) := by decide +kernel
theorem dMod_load_14 : decode bMod_load 14 = .ok (.getfield 156, 3) := by decide +kernel
theorem dMod_load_17 : decode bMod_load 17 = .ok (.if_icmp .ge 20, 3) := by decide +kernel
theorem dMod_load_20 : decode bMod_load 20 = .ok (.aload_n 0, 1) := by decide +kernel
theorem dMod_load_21 : decode bMod_load 21 = .ok (.bipush 10, 2) := by decide +kernel
theorem dMod_load_23 : decode bMod_load 23 = .ok (.iload_n 1, 1) := by decide +kernel
theorem dMod_load_24 : decode bMod_load 24 = .ok (.imul, 1) := by decide +kernel
theorem dMod_load_25 : decode bMod_load 25 = .ok (.iload_n 2, 1) := by decide +kernel
theorem dMod_load_26 : decode bMod_load 26 = .ok (.iadd, 1) := by decide +kernel
theorem dMod_load_27 : decode bMod_load 27 = .ok (.iload_n 2, 1) := by decide +kernel
theorem dMod_load_28 : decode bMod_load 28 = .ok (.invokevirtual 184, 3) := by decide +kernel
theorem dMod_load_31 : decode bMod_load 31 = .ok (.iinc 2 1, 3) := by decide +kernel
theorem dMod_load_34 : decode bMod_load 34 = .ok (.goto (-22), 3) := by decide +kernel
theorem dMod_load_37 : decode bMod_load 37 = .ok (.return_, 1) := by decide +kernel
def stMod_load_12 (post : zM → Prop) (L12 : (Int32 × Int32 × zM) → Prop) : (Int32 × Int32 × zM) → Prop := fun s => match s with
  | (v1, v2, h) => ((((h 0 11) ≤ v2) → post h) ∧ (¬ ((h 0 11) ≤ v2) → wpMod_copyFrom ((10 * v1) + v2) v2 h (fun h28 => L12 (v1, (v2 + 1), h28))))
def wpMod_load (x1 : Int32) (h : zM) (post : zM → Prop) : Prop := (vp_in x1 41 ∧ ∀ h7 : zM, h7 = zu h 0 11 (h 13 (Int32.toNatClampNeg x1)) → zL (stMod_load_12 post) (x1, 0, h7))
abbrev rmMod_load : Room := { frames := 1, cells := 0, slots := 0, locals := 23 }
set_option maxHeartbeats 4000000 in
set_option maxRecDepth 100000 in
theorem cMod_load (l : Launch) (D : va_G) (cI cC cE : ClassId) (ad : Nat → Nat) (A : Nat → Prop) (hJ : zJ A 28 ad) (x1 : Int32) (h : zM) (post : zM → Prop) (hw : wpMod_load x1 h post) : Met l yMod_load (.code yMod_load bMod_load 3 none :: zt) rmMod_load (va_Pc [.ref (ad 0), .int x1] (zPre D (zty cI cC cE) 28 ad (mF ad cI) A h)) (va_Qv post (zPst D (zty cI cC cE) 28 ad (mF ad cI)) A) 0 0 A := by
  refine Met.ofW (cc := bMod_load) (maxL := 3) (ret := none) (by decide) rfl ?_
  intro p e s m args below meth c s₁ B hml hv
  obtain ⟨rfl, hP, hK, hT, hN⟩ := hv
  have hr := B.returns
  have hlk := B.notSynchronized
  have S : zS p m c bMod_load 3 s _ "CallExplorerModel" := ⟨B.exec, B.bytes, hml, findClass_of_methodNamed B.named, fun w hw => atoms_spec (ws := .code yMod_load bMod_load 3 none :: zt) B.pre w (List.mem_cons_of_mem _ hw)⟩
  have hS : va_S A s.heap s.heap [] := va_S.rf
  have hl := lv_entry ([.ref (ad 0), .int x1]) (n := 3) (Nat.le_of_ble_eq_true rfl)
  rw [lg_entry_eq]
  generalize (lg_sl ([.ref (ad 0), .int x1]) ++ List.replicate (3 - (lg_sl ([.ref (ad 0), .int x1])).length) Slot.unset).toArray = ls at hl ⊢
  have hl : lv_has ls 3 [(0, .ref (ad 0)), (1, .int x1)] := hl
  show W p l e rmMod_load s m ([.ref (ad 0), .int x1] : List Value).toArray below meth c s.heap [] 0 0 (zQv post D (zty cI cC cE) 28 ad (mF ad cI) A below ([.ref (ad 0), .int x1] : List Value).toArray s) _
  have J12 : ∀ (fu : Nat) (v1 : Int32) (v2 : Int32) (h : zM) (H : Heap) (locs : List Loc) (ls : Array Slot), zl (stMod_load_12 post) fu (v1, v2, h) → lv_has ls 3 [(0, .ref (ad 0)), (1, .int v1), (2, .int v2)] → va_P D zcl (zW 28 ad (mF ad cI) h) H → va_S A s.heap H locs → W p l e rmMod_load s m ([.ref (ad 0), .int x1] : List Value).toArray below meth c H locs 0 0 (zQv post D (zty cI cC cE) 28 ad (mF ad cI) A below ([.ref (ad 0), .int x1] : List Value).toArray s) (F0 m 12 ls []) := by
    intro fu12
    induction fu12 with
    | zero =>
      intro v1 v2 h H locs ls hw
      exact (zl_0 hw).elim
    | succ fu12 ih12 =>
      intro v1 v2 h H locs ls hw hl hP hS
      have hw := zl_s hw
      generalize zl (stMod_load_12 post) fu12 = L12 at hw ih12
      unfold stMod_load_12 at hw
      dsimp only at hw
      refine lv_iload_n S.1 S.2.1 dMod_load_12 rfl (lv_at hl 2 rfl) ?_
      refine lv_aload_n S.1 S.2.1 dMod_load_13 rfl (lv_at hl 0 rfl) ?_
      refine zr_get S hK hP (by decide) (mF_0 _) fMod_size q839 rfl dMod_load_14 ?_
      refine lv_icmp_ge S.1 S.2.1 dMod_load_17 rfl (fun hc => ?_) (fun hc => ?_)
      · have hw := hw.1 hc
        exact zr_vret S hr hlk hK hP hS hw dMod_load_37
      · have hw := hw.2 hc
        refine lv_aload_n S.1 S.2.1 dMod_load_20 rfl (lv_at hl 0 rfl) ?_
        refine lv_bipush (v := 10) S.1 S.2.1 dMod_load_21 (by decide) ?_
        refine lv_iload_n S.1 S.2.1 dMod_load_23 rfl (lv_at hl 1 rfl) ?_
        refine lv_imul S.1 S.2.1 dMod_load_24 ?_
        refine lv_iload_n S.1 S.2.1 dMod_load_25 rfl (lv_at hl 2 rfl) ?_
        refine lv_iadd S.1 S.2.1 dMod_load_26 ?_
        refine lv_iload_n S.1 S.2.1 dMod_load_27 rfl (lv_at hl 2 rfl) ?_
        refine zr_v (zr_V (As := [.int ((10 * v1) + v2), .int v2]) (rest := []) S hK hT hN hP hS (by decide) (mF_0 _) rfl (cMod_copyFrom l D cI cC cE ad A hJ _ _ _ _ hw) caMod_184 ⟨Nat.le_of_ble_eq_true rfl, Nat.le_of_ble_eq_true rfl⟩ ⟨rfl, rfl⟩ rfl hl.1 rfl (Nat.le_of_ble_eq_true rfl) dMod_load_28) hS (fun h28 H locs hw hP hS => ?_)
        refine lv_iinc (v := (v2 + 1)) (lv' := [(2, .int (v2 + 1)), (0, .ref (ad 0)), (1, .int v1)]) (k := 2) S.1 S.2.1 dMod_load_31 hl rfl rfl (by decide) rfl (fun ls hl => ?_)
        refine lv_goto S.1 S.2.1 dMod_load_34 rfl ?_
        exact ih12 _ _ _ _ _ _ hw (lv_sub hl [1, 2, 0] rfl) hP hS
  unfold wpMod_load at hw
  refine lv_aload_n S.1 S.2.1 dMod_load_0 rfl (lv_at hl 0 rfl) ?_
  refine lv_aload_n S.1 S.2.1 dMod_load_1 rfl (lv_at hl 0 rfl) ?_
  refine zr_get S hK hP (by decide) (mF_0 _) fMod_sizes q846 rfl dMod_load_2 ?_
  refine lv_iload_n S.1 S.2.1 dMod_load_5 rfl (lv_at hl 1 rfl) ?_
  obtain ⟨z6, hw⟩ := hw
  refine zr_ald S hK hP (by decide) (mF_13 _) 0 rfl z6 dMod_load_6 ?_
  refine zr_put S hK hJ hP hS (by decide) (mF_0 _) fMod_size q839 rfl rfl (Nat.le_of_ble_eq_true rfl) (mF_0 _) dMod_load_7 (fun h7 H locs e7 hP hS => ?_)
  have hw := hw h7 e7
  refine lv_iconst (v := 0) S.1 S.2.1 dMod_load_10 (by decide) ?_
  refine lv_istore_n (lv' := [(2, .int 0), (0, .ref (ad 0)), (1, .int x1)]) S.1 S.2.1 dMod_load_11 rfl hl (by decide) rfl (fun ls hl => ?_)
  obtain ⟨fu, hw⟩ := hw
  exact J12 fu _ _ _ _ _ _ hw (lv_sub hl [1, 2, 0] rfl) hP hS
/-! Mod.store -/
theorem dMod_store_0 : decode bMod_store 0 = .ok (.aload_n 0, 1) := by decide +kernel
theorem dMod_store_1 : decode bMod_store 1 = .ok (.getfield 50, 3) := by decide +kernel
theorem dMod_store_4 : decode bMod_store 4 = .ok (.iload_n 1, 1) := by decide +kernel
theorem dMod_store_5 : decode bMod_store 5 = .ok (.aload_n 0, 1) := by decide +kernel
theorem dMod_store_6 : decode bMod_store 6 = .ok (.getfield 156, 3) := by decide +kernel
theorem dMod_store_9 : decode bMod_store 9 = .ok (.iastore, 1) := by decide +kernel
theorem dMod_store_10 : decode bMod_store 10 = .ok (.iconst 0, 1) := by decide +kernel
theorem dMod_store_11 : decode bMod_store 11 = .ok (.istore_n 2, 1) := by decide +kernel
theorem dMod_store_12 : decode bMod_store 12 = .ok (.iload_n 2, 1) := by decide +kernel
theorem dMod_store_13 : decode bMod_store 13 = .ok (.aload_n 0, 1) := by decide +kernel
theorem dMod_store_14 : decode bMod_store 14 = .ok (.getfield 156, 3) := by decide +kernel
theorem dMod_store_17 : decode bMod_store 17 = .ok (.if_icmp .ge 87, 3) := by decide +kernel
theorem dMod_store_20 : decode bMod_store 20 = .ok (.bipush 10, 2) := by decide +kernel
theorem dMod_store_22 : decode bMod_store 22 = .ok (.iload_n 1, 1) := by decide +kernel
theorem dMod_store_23 : decode bMod_store 23 = .ok (.imul, 1) := by decide +kernel
theorem dMod_store_24 : decode bMod_store 24 = .ok (.iload_n 2, 1) := by decide +kernel
theorem dMod_store_25 : decode bMod_store 25 = .ok (.iadd, 1) := by decide +kernel
theorem dMod_store_26 : decode bMod_store 26 = .ok (.istore_n 3, 1) := by decide +kernel
theorem dMod_store_27 : decode bMod_store 27 = .ok (.aload_n 0, 1) := by decide +kernel
theorem dMod_store_28 : decode bMod_store 28 = .ok (.getfield 53, 3) := by decide +kernel
theorem dMod_store_31 : decode bMod_store 31 = .ok (.iload_n 3, 1) := by decide +kernel
theorem dMod_store_32 : decode bMod_store 32 = .ok (.aload_n 0, 1) := by decide +kernel
theorem dMod_store_33 : decode bMod_store 33 = .ok (.getfield 35, 3) := by decide +kernel
theorem dMod_store_36 : decode bMod_store 36 = .ok (.iload_n 2, 1) := by decide +kernel
theorem dMod_store_37 : decode bMod_store 37 = .ok (.iaload, 1) := by decide +kernel
theorem dMod_store_38 : decode bMod_store 38 = .ok (.iastore, 1) := by decide +kernel
theorem dMod_store_39 : decode bMod_store 39 = .ok (.iconst 0, 1) := by decide +kernel
theorem dMod_store_40 : decode bMod_store 40 = .ok (.istore 4, 2) := by decide +kernel
theorem dMod_store_42 : decode bMod_store 42 = .ok (.iload 4, 2) := by decide +kernel
theorem dMod_store_44 : decode bMod_store 44 = .ok (.iconst 2, 1) := by decide +kernel
theorem dMod_store_45 : decode bMod_store 45 = .ok (.if_icmp .ge 53, 3) := by decide +kernel
theorem dMod_store_48 : decode bMod_store 48 = .ok (.aload_n 0, 1) := by decide +kernel
theorem dMod_store_49 : decode bMod_store 49 = .ok (.getfield 56, 3) := by decide +kernel
theorem dMod_store_52 : decode bMod_store 52 = .ok (.iconst 2, 1) := by decide +kernel
theorem dMod_store_53 : decode bMod_store 53 = .ok (.iload_n 3, 1) := by decide +kernel
theorem dMod_store_54 : decode bMod_store 54 = .ok (.imul, 1) := by decide +kernel
theorem dMod_store_55 : decode bMod_store 55 = .ok (.iload 4, 2) := by decide +kernel
theorem dMod_store_57 : decode bMod_store 57 = .ok (.iadd, 1) := by decide +kernel
theorem dMod_store_58 : decode bMod_store 58 = .ok (.aload_n 0, 1) := by decide +kernel
theorem dMod_store_59 : decode bMod_store 59 = .ok (.getfield 38, 3) := by decide +kernel
theorem dMod_store_62 : decode bMod_store 62 = .ok (.iconst 2, 1) := by decide +kernel
theorem dMod_store_63 : decode bMod_store 63 = .ok (.iload_n 2, 1) := by decide +kernel
theorem dMod_store_64 : decode bMod_store 64 = .ok (.imul, 1) := by decide +kernel
theorem dMod_store_65 : decode bMod_store 65 = .ok (.iload 4, 2) := by decide +kernel
theorem dMod_store_67 : decode bMod_store 67 = .ok (.iadd, 1) := by decide +kernel
theorem dMod_store_68 : decode bMod_store 68 = .ok (.iaload, 1) := by decide +kernel
theorem dMod_store_69 : decode bMod_store 69 = .ok (.iastore, 1) := by decide +kernel
theorem dMod_store_70 : decode bMod_store 70 = .ok (.aload_n 0, 1) := by decide +kernel
theorem dMod_store_71 : decode bMod_store 71 = .ok (.getfield 59, 3) := by decide +kernel
theorem dMod_store_74 : decode bMod_store 74 = .ok (.iconst 2, 1) := by decide +kernel
theorem dMod_store_75 : decode bMod_store 75 = .ok (.iload_n 3, 1) := by decide +kernel
theorem dMod_store_76 : decode bMod_store 76 = .ok (.imul, 1) := by decide +kernel
theorem dMod_store_77 : decode bMod_store 77 = .ok (.iload 4, 2) := by decide +kernel
theorem dMod_store_79 : decode bMod_store 79 = .ok (.iadd, 1) := by decide +kernel
theorem dMod_store_80 : decode bMod_store 80 = .ok (.aload_n 0, 1) := by decide +kernel
theorem dMod_store_81 : decode bMod_store 81 = .ok (.getfield 41, 3) := by decide +kernel
theorem dMod_store_84 : decode bMod_store 84 = .ok (.iconst 2, 1) := by decide +kernel
theorem dMod_store_85 : decode bMod_store 85 = .ok (.iload_n 2, 1) := by decide +kernel
theorem dMod_store_86 : decode bMod_store 86 = .ok (.imul, 1) := by decide +kernel
theorem dMod_store_87 : decode bMod_store 87 = .ok (.iload 4, 2) := by decide +kernel
theorem dMod_store_89 : decode bMod_store 89 = .ok (.iadd, 1) := by decide +kernel
theorem dMod_store_90 : decode bMod_store 90 = .ok (.iaload, 1) := by decide +kernel
theorem dMod_store_91 : decode bMod_store 91 = .ok (.iastore, 1) := by decide +kernel
theorem dMod_store_92 : decode bMod_store 92 = .ok (.iinc 4 1, 3) := by decide +kernel
theorem dMod_store_95 : decode bMod_store 95 = .ok (.goto (-53), 3) := by decide +kernel
theorem dMod_store_98 : decode bMod_store 98 = .ok (.iinc 2 1, 3) := by decide +kernel
theorem dMod_store_101 : decode bMod_store 101 = .ok (.goto (-89), 3) := by decide +kernel
theorem dMod_store_104 : decode bMod_store 104 = .ok (.return_, 1) := by decide +kernel
def stMod_store_42 (post : zM → Prop) (L12 : (Int32 × Int32 × zM) → Prop) (L42 : (Int32 × Int32 × Int32 × Int32 × zM) → Prop) : (Int32 × Int32 × Int32 × Int32 × zM) → Prop := fun s => match s with
  | (v1, v2, v3, v4, h) => (((2 ≤ v4) → L12 (v1, (v2 + 1), h)) ∧ (¬ (2 ≤ v4) → (vp_in ((2 * v2) + v4) 40 ∧ (vp_in ((2 * v3) + v4) 820 ∧ ∀ h69 : zM, h69 = zu h 15 (Int32.toNatClampNeg ((2 * v3) + v4)) (h 9 (Int32.toNatClampNeg ((2 * v2) + v4))) → (vp_in ((2 * v2) + v4) 40 ∧ (vp_in ((2 * v3) + v4) 820 ∧ ∀ h91 : zM, h91 = zu h69 16 (Int32.toNatClampNeg ((2 * v3) + v4)) (h69 10 (Int32.toNatClampNeg ((2 * v2) + v4))) → L42 (v1, v2, v3, (v4 + 1), h91)))))))
def stMod_store_12 (post : zM → Prop) (L12 : (Int32 × Int32 × zM) → Prop) : (Int32 × Int32 × zM) → Prop := fun s => match s with
  | (v1, v2, h) => ((((h 0 11) ≤ v2) → post h) ∧ (¬ ((h 0 11) ≤ v2) → ∀ y26 : Int32, y26 = ((10 * v1) + v2) → (vp_in v2 20 ∧ (vp_in y26 410 ∧ ∀ h38 : zM, h38 = zu h 14 (Int32.toNatClampNeg y26) (h 8 (Int32.toNatClampNeg v2)) → zL (stMod_store_42 post L12) (v1, v2, y26, 0, h38)))))
def wpMod_store (x1 : Int32) (h : zM) (post : zM → Prop) : Prop := (vp_in x1 41 ∧ ∀ h9 : zM, h9 = zu h 13 (Int32.toNatClampNeg x1) (h 0 11) → zL (stMod_store_12 post) (x1, 0, h9))
abbrev rmMod_store : Room := { frames := 0, cells := 0, slots := 0, locals := 0 }
set_option maxHeartbeats 4000000 in
set_option maxRecDepth 100000 in
theorem cMod_store (l : Launch) (D : va_G) (cI cC cE : ClassId) (ad : Nat → Nat) (A : Nat → Prop) (hJ : zJ A 28 ad) (x1 : Int32) (h : zM) (post : zM → Prop) (hw : wpMod_store x1 h post) : Met l yMod_store (.code yMod_store bMod_store 5 none :: zt) rmMod_store (va_Pc [.ref (ad 0), .int x1] (zPre D (zty cI cC cE) 28 ad (mF ad cI) A h)) (va_Qv post (zPst D (zty cI cC cE) 28 ad (mF ad cI)) A) 0 0 A := by
  refine Met.ofW (cc := bMod_store) (maxL := 5) (ret := none) (by decide) rfl ?_
  intro p e s m args below meth c s₁ B hml hv
  obtain ⟨rfl, hP, hK, hT, hN⟩ := hv
  have hr := B.returns
  have hlk := B.notSynchronized
  have S : zS p m c bMod_store 5 s _ "CallExplorerModel" := ⟨B.exec, B.bytes, hml, findClass_of_methodNamed B.named, fun w hw => atoms_spec (ws := .code yMod_store bMod_store 5 none :: zt) B.pre w (List.mem_cons_of_mem _ hw)⟩
  have hS : va_S A s.heap s.heap [] := va_S.rf
  have hl := lv_entry ([.ref (ad 0), .int x1]) (n := 5) (Nat.le_of_ble_eq_true rfl)
  rw [lg_entry_eq]
  generalize (lg_sl ([.ref (ad 0), .int x1]) ++ List.replicate (5 - (lg_sl ([.ref (ad 0), .int x1])).length) Slot.unset).toArray = ls at hl ⊢
  have hl : lv_has ls 5 [(0, .ref (ad 0)), (1, .int x1)] := hl
  show W p l e rmMod_store s m ([.ref (ad 0), .int x1] : List Value).toArray below meth c s.heap [] 0 0 (zQv post D (zty cI cC cE) 28 ad (mF ad cI) A below ([.ref (ad 0), .int x1] : List Value).toArray s) _
  have J12 : ∀ (fu : Nat) (v1 : Int32) (v2 : Int32) (h : zM) (H : Heap) (locs : List Loc) (ls : Array Slot), zl (stMod_store_12 post) fu (v1, v2, h) → lv_has ls 5 [(0, .ref (ad 0)), (1, .int v1), (2, .int v2)] → va_P D zcl (zW 28 ad (mF ad cI) h) H → va_S A s.heap H locs → W p l e rmMod_store s m ([.ref (ad 0), .int x1] : List Value).toArray below meth c H locs 0 0 (zQv post D (zty cI cC cE) 28 ad (mF ad cI) A below ([.ref (ad 0), .int x1] : List Value).toArray s) (F0 m 12 ls []) := by
    intro fu12
    induction fu12 with
    | zero =>
      intro v1 v2 h H locs ls hw
      exact (zl_0 hw).elim
    | succ fu12 ih12 =>
      intro v1 v2 h H locs ls hw hl hP hS
      have hw := zl_s hw
      generalize zl (stMod_store_12 post) fu12 = L12 at hw ih12
      have J42 : ∀ (fu : Nat) (v1 : Int32) (v2 : Int32) (v3 : Int32) (v4 : Int32) (h : zM) (H : Heap) (locs : List Loc) (ls : Array Slot), zl (stMod_store_42 post L12) fu (v1, v2, v3, v4, h) → lv_has ls 5 [(0, .ref (ad 0)), (1, .int v1), (2, .int v2), (3, .int v3), (4, .int v4)] → va_P D zcl (zW 28 ad (mF ad cI) h) H → va_S A s.heap H locs → W p l e rmMod_store s m ([.ref (ad 0), .int x1] : List Value).toArray below meth c H locs 0 0 (zQv post D (zty cI cC cE) 28 ad (mF ad cI) A below ([.ref (ad 0), .int x1] : List Value).toArray s) (F0 m 42 ls []) := by
        intro fu42
        induction fu42 with
        | zero =>
          intro v1 v2 v3 v4 h H locs ls hw
          exact (zl_0 hw).elim
        | succ fu42 ih42 =>
          intro v1 v2 v3 v4 h H locs ls hw hl hP hS
          have hw := zl_s hw
          generalize zl (stMod_store_42 post L12) fu42 = L42 at hw ih42
          unfold stMod_store_42 at hw
          dsimp only at hw
          refine lv_iload S.1 S.2.1 dMod_store_42 (lv_at hl 4 rfl) ?_
          refine lv_iconst (v := 2) S.1 S.2.1 dMod_store_44 (by decide) ?_
          refine lv_icmp_ge S.1 S.2.1 dMod_store_45 rfl (fun hc => ?_) (fun hc => ?_)
          · have hw := hw.1 hc
            refine lv_iinc (v := (v2 + 1)) (lv' := [(2, .int (v2 + 1)), (0, .ref (ad 0)), (1, .int v1), (3, .int v3), (4, .int v4)]) (k := 2) S.1 S.2.1 dMod_store_98 hl rfl rfl (by decide) rfl (fun ls hl => ?_)
            refine lv_goto S.1 S.2.1 dMod_store_101 rfl ?_
            exact ih12 _ _ _ _ _ _ hw (lv_sub hl [1, 2, 0] rfl) hP hS
          · have hw := hw.2 hc
            refine lv_aload_n S.1 S.2.1 dMod_store_48 rfl (lv_at hl 0 rfl) ?_
            refine zr_get S hK hP (by decide) (mF_0 _) fMod_hows q848 rfl dMod_store_49 ?_
            refine lv_iconst (v := 2) S.1 S.2.1 dMod_store_52 (by decide) ?_
            refine lv_iload_n S.1 S.2.1 dMod_store_53 rfl (lv_at hl 3 rfl) ?_
            refine lv_imul S.1 S.2.1 dMod_store_54 ?_
            refine lv_iload S.1 S.2.1 dMod_store_55 (lv_at hl 4 rfl) ?_
            refine lv_iadd S.1 S.2.1 dMod_store_57 ?_
            refine lv_aload_n S.1 S.2.1 dMod_store_58 rfl (lv_at hl 0 rfl) ?_
            refine zr_get S hK hP (by decide) (mF_0 _) fMod_how q841 rfl dMod_store_59 ?_
            refine lv_iconst (v := 2) S.1 S.2.1 dMod_store_62 (by decide) ?_
            refine lv_iload_n S.1 S.2.1 dMod_store_63 rfl (lv_at hl 2 rfl) ?_
            refine lv_imul S.1 S.2.1 dMod_store_64 ?_
            refine lv_iload S.1 S.2.1 dMod_store_65 (lv_at hl 4 rfl) ?_
            refine lv_iadd S.1 S.2.1 dMod_store_67 ?_
            obtain ⟨z68, hw⟩ := hw
            refine zr_ald S hK hP (by decide) (mF_9 _) 0 rfl z68 dMod_store_68 ?_
            obtain ⟨z69, hw⟩ := hw
            refine zr_ast S hK hJ hP hS (by decide) mF_15 0 rfl z69 dMod_store_69 (fun h69 H locs e69 hP hS => ?_)
            have hw := hw h69 e69
            refine lv_aload_n S.1 S.2.1 dMod_store_70 rfl (lv_at hl 0 rfl) ?_
            refine zr_get S hK hP (by decide) (mF_0 _) fMod_args q849 rfl dMod_store_71 ?_
            refine lv_iconst (v := 2) S.1 S.2.1 dMod_store_74 (by decide) ?_
            refine lv_iload_n S.1 S.2.1 dMod_store_75 rfl (lv_at hl 3 rfl) ?_
            refine lv_imul S.1 S.2.1 dMod_store_76 ?_
            refine lv_iload S.1 S.2.1 dMod_store_77 (lv_at hl 4 rfl) ?_
            refine lv_iadd S.1 S.2.1 dMod_store_79 ?_
            refine lv_aload_n S.1 S.2.1 dMod_store_80 rfl (lv_at hl 0 rfl) ?_
            refine zr_get S hK hP (by decide) (mF_0 _) fMod_arg q842 rfl dMod_store_81 ?_
            refine lv_iconst (v := 2) S.1 S.2.1 dMod_store_84 (by decide) ?_
            refine lv_iload_n S.1 S.2.1 dMod_store_85 rfl (lv_at hl 2 rfl) ?_
            refine lv_imul S.1 S.2.1 dMod_store_86 ?_
            refine lv_iload S.1 S.2.1 dMod_store_87 (lv_at hl 4 rfl) ?_
            refine lv_iadd S.1 S.2.1 dMod_store_89 ?_
            obtain ⟨z90, hw⟩ := hw
            refine zr_ald S hK hP (by decide) (mF_10 _) 0 rfl z90 dMod_store_90 ?_
            obtain ⟨z91, hw⟩ := hw
            refine zr_ast S hK hJ hP hS (by decide) mF_16 0 rfl z91 dMod_store_91 (fun h91 H locs e91 hP hS => ?_)
            have hw := hw h91 e91
            refine lv_iinc (v := (v4 + 1)) (lv' := [(4, .int (v4 + 1)), (0, .ref (ad 0)), (1, .int v1), (2, .int v2), (3, .int v3)]) (k := 4) S.1 S.2.1 dMod_store_92 hl rfl rfl (by decide) rfl (fun ls hl => ?_)
            refine lv_goto S.1 S.2.1 dMod_store_95 rfl ?_
            exact ih42 _ _ _ _ _ _ _ _ hw (lv_sub hl [1, 2, 3, 4, 0] rfl) hP hS
      unfold stMod_store_12 at hw
      dsimp only at hw
      refine lv_iload_n S.1 S.2.1 dMod_store_12 rfl (lv_at hl 2 rfl) ?_
      refine lv_aload_n S.1 S.2.1 dMod_store_13 rfl (lv_at hl 0 rfl) ?_
      refine zr_get S hK hP (by decide) (mF_0 _) fMod_size q839 rfl dMod_store_14 ?_
      refine lv_icmp_ge S.1 S.2.1 dMod_store_17 rfl (fun hc => ?_) (fun hc => ?_)
      · have hw := hw.1 hc
        exact zr_vret S hr hlk hK hP hS hw dMod_store_104
      · have hw := hw.2 hc
        refine lv_bipush (v := 10) S.1 S.2.1 dMod_store_20 (by decide) ?_
        refine lv_iload_n S.1 S.2.1 dMod_store_22 rfl (lv_at hl 1 rfl) ?_
        refine lv_imul S.1 S.2.1 dMod_store_23 ?_
        refine lv_iload_n S.1 S.2.1 dMod_store_24 rfl (lv_at hl 2 rfl) ?_
        refine lv_iadd S.1 S.2.1 dMod_store_25 ?_
        refine lv_topi (fun y26 e26 => ?_)
        have hw := hw y26 e26
        refine lv_istore_n (lv' := [(3, .int y26), (0, .ref (ad 0)), (1, .int v1), (2, .int v2)]) S.1 S.2.1 dMod_store_26 rfl hl (by decide) rfl (fun ls hl => ?_)
        refine lv_aload_n S.1 S.2.1 dMod_store_27 rfl (lv_at hl 1 rfl) ?_
        refine zr_get S hK hP (by decide) (mF_0 _) fMod_ops q847 rfl dMod_store_28 ?_
        refine lv_iload_n S.1 S.2.1 dMod_store_31 rfl (lv_at hl 0 rfl) ?_
        refine lv_aload_n S.1 S.2.1 dMod_store_32 rfl (lv_at hl 1 rfl) ?_
        refine zr_get S hK hP (by decide) (mF_0 _) fMod_op q840 rfl dMod_store_33 ?_
        refine lv_iload_n S.1 S.2.1 dMod_store_36 rfl (lv_at hl 3 rfl) ?_
        obtain ⟨z37, hw⟩ := hw
        refine zr_ald S hK hP (by decide) (mF_8 _) 0 rfl z37 dMod_store_37 ?_
        obtain ⟨z38, hw⟩ := hw
        refine zr_ast S hK hJ hP hS (by decide) mF_14 0 rfl z38 dMod_store_38 (fun h38 H locs e38 hP hS => ?_)
        have hw := hw h38 e38
        refine lv_iconst (v := 0) S.1 S.2.1 dMod_store_39 (by decide) ?_
        refine lv_istore (lv' := [(4, .int 0), (3, .int y26), (0, .ref (ad 0)), (1, .int v1), (2, .int v2)]) S.1 S.2.1 dMod_store_40 hl (by decide) rfl (fun ls hl => ?_)
        obtain ⟨fu, hw⟩ := hw
        exact J42 fu _ _ _ _ _ _ _ _ hw (lv_sub hl [2, 3, 4, 1, 0] rfl) hP hS
  unfold wpMod_store at hw
  refine lv_aload_n S.1 S.2.1 dMod_store_0 rfl (lv_at hl 0 rfl) ?_
  refine zr_get S hK hP (by decide) (mF_0 _) fMod_sizes q846 rfl dMod_store_1 ?_
  refine lv_iload_n S.1 S.2.1 dMod_store_4 rfl (lv_at hl 1 rfl) ?_
  refine lv_aload_n S.1 S.2.1 dMod_store_5 rfl (lv_at hl 0 rfl) ?_
  refine zr_get S hK hP (by decide) (mF_0 _) fMod_size q839 rfl dMod_store_6 ?_
  obtain ⟨z9, hw⟩ := hw
  refine zr_ast S hK hJ hP hS (by decide) mF_13 0 rfl z9 dMod_store_9 (fun h9 H locs e9 hP hS => ?_)
  have hw := hw h9 e9
  refine lv_iconst (v := 0) S.1 S.2.1 dMod_store_10 (by decide) ?_
  refine lv_istore_n (lv' := [(2, .int 0), (0, .ref (ad 0)), (1, .int x1)]) S.1 S.2.1 dMod_store_11 rfl hl (by decide) rfl (fun ls hl => ?_)
  obtain ⟨fu, hw⟩ := hw
  exact J12 fu _ _ _ _ _ _ hw (lv_sub hl [1, 2, 0] rfl) hP hS
/-! Mod.typeOf -/
theorem dMod_typeOf_0 : decode bMod_typeOf 0 = .ok (.aload_n 0, 1) := by decide +kernel
theorem dMod_typeOf_1 : decode bMod_typeOf 1 = .ok (.aload_n 0, 1) := by decide +kernel
theorem dMod_typeOf_2 : decode bMod_typeOf 2 = .ok (.getfield 53, 3) := by decide +kernel
theorem dMod_typeOf_5 : decode bMod_typeOf 5 = .ok (.bipush 10, 2) := by decide +kernel
theorem dMod_typeOf_7 : decode bMod_typeOf 7 = .ok (.iload_n 1, 1) := by decide +kernel
theorem dMod_typeOf_8 : decode bMod_typeOf 8 = .ok (.imul, 1) := by decide +kernel
theorem dMod_typeOf_9 : decode bMod_typeOf 9 = .ok (.aload_n 0, 1) := by decide +kernel
theorem dMod_typeOf_10 : decode bMod_typeOf 10 = .ok (.getfield 50, 3) := by decide +kernel
theorem dMod_typeOf_13 : decode bMod_typeOf 13 = .ok (.iload_n 1, 1) := by decide +kernel
theorem dMod_typeOf_14 : decode bMod_typeOf 14 = .ok (.iaload, 1) := by decide +kernel
theorem dMod_typeOf_15 : decode bMod_typeOf 15 = .ok (.iadd, 1) := by decide +kernel
theorem dMod_typeOf_16 : decode bMod_typeOf 16 = .ok (.iconst 1, 1) := by decide +kernel
theorem dMod_typeOf_17 : decode bMod_typeOf 17 = .ok (.isub, 1) := by decide +kernel
theorem dMod_typeOf_18 : decode bMod_typeOf 18 = .ok (.iaload, 1) := by decide +kernel
theorem dMod_typeOf_19 : decode bMod_typeOf 19 = .ok (.invokevirtual 181, 3) := by decide +kernel
theorem dMod_typeOf_22 : decode bMod_typeOf 22 = .ok (.ireturn, 1) := by decide +kernel
def wpMod_typeOf (x1 : Int32) (h : zM) (post : Int32 → zM → Prop) : Prop := (vp_in x1 41 ∧ (vp_in (((10 * x1) + (h 13 (Int32.toNatClampNeg x1))) - 1) 410 ∧ wpMod_gives (h 14 (Int32.toNatClampNeg (((10 * x1) + (h 13 (Int32.toNatClampNeg x1))) - 1))) h (fun r19 h19 => post r19 h19)))
abbrev rmMod_typeOf : Room := { frames := 1, cells := 0, slots := 0, locals := 22 }
set_option maxHeartbeats 4000000 in
set_option maxRecDepth 100000 in
theorem cMod_typeOf (l : Launch) (D : va_G) (cI cC cE : ClassId) (ad : Nat → Nat) (A : Nat → Prop) (hJ : zJ A 28 ad) (x1 : Int32) (h : zM) (post : Int32 → zM → Prop) (hw : wpMod_typeOf x1 h post) : Met l yMod_typeOf (.code yMod_typeOf bMod_typeOf 2 (some .int) :: zt) rmMod_typeOf (va_Pc [.ref (ad 0), .int x1] (zPre D (zty cI cC cE) 28 ad (mF ad cI) A h)) (va_Qi post (zPst D (zty cI cC cE) 28 ad (mF ad cI)) A) 0 0 A := by
  refine Met.ofW (cc := bMod_typeOf) (maxL := 2) (ret := (some .int)) (by decide) rfl ?_
  intro p e s m args below meth c s₁ B hml hv
  obtain ⟨rfl, hP, hK, hT, hN⟩ := hv
  have hr := B.returns
  have hlk := B.notSynchronized
  have S : zS p m c bMod_typeOf 2 s _ "CallExplorerModel" := ⟨B.exec, B.bytes, hml, findClass_of_methodNamed B.named, fun w hw => atoms_spec (ws := .code yMod_typeOf bMod_typeOf 2 (some .int) :: zt) B.pre w (List.mem_cons_of_mem _ hw)⟩
  have hS : va_S A s.heap s.heap [] := va_S.rf
  have hl := lv_entry ([.ref (ad 0), .int x1]) (n := 2) (Nat.le_of_ble_eq_true rfl)
  rw [lg_entry_eq]
  generalize (lg_sl ([.ref (ad 0), .int x1]) ++ List.replicate (2 - (lg_sl ([.ref (ad 0), .int x1])).length) Slot.unset).toArray = ls at hl ⊢
  have hl : lv_has ls 2 [(0, .ref (ad 0)), (1, .int x1)] := hl
  show W p l e rmMod_typeOf s m ([.ref (ad 0), .int x1] : List Value).toArray below meth c s.heap [] 0 0 (zQi post D (zty cI cC cE) 28 ad (mF ad cI) A below ([.ref (ad 0), .int x1] : List Value).toArray s) _
  unfold wpMod_typeOf at hw
  refine lv_aload_n S.1 S.2.1 dMod_typeOf_0 rfl (lv_at hl 0 rfl) ?_
  refine lv_aload_n S.1 S.2.1 dMod_typeOf_1 rfl (lv_at hl 0 rfl) ?_
  refine zr_get S hK hP (by decide) (mF_0 _) fMod_ops q847 rfl dMod_typeOf_2 ?_
  refine lv_bipush (v := 10) S.1 S.2.1 dMod_typeOf_5 (by decide) ?_
  refine lv_iload_n S.1 S.2.1 dMod_typeOf_7 rfl (lv_at hl 1 rfl) ?_
  refine lv_imul S.1 S.2.1 dMod_typeOf_8 ?_
  refine lv_aload_n S.1 S.2.1 dMod_typeOf_9 rfl (lv_at hl 0 rfl) ?_
  refine zr_get S hK hP (by decide) (mF_0 _) fMod_sizes q846 rfl dMod_typeOf_10 ?_
  refine lv_iload_n S.1 S.2.1 dMod_typeOf_13 rfl (lv_at hl 1 rfl) ?_
  obtain ⟨z14, hw⟩ := hw
  refine zr_ald S hK hP (by decide) (mF_13 _) 0 rfl z14 dMod_typeOf_14 ?_
  refine lv_iadd S.1 S.2.1 dMod_typeOf_15 ?_
  refine lv_iconst (v := 1) S.1 S.2.1 dMod_typeOf_16 (by decide) ?_
  refine lv_isub S.1 S.2.1 dMod_typeOf_17 ?_
  obtain ⟨z18, hw⟩ := hw
  refine zr_ald S hK hP (by decide) (mF_14 _) 0 rfl z18 dMod_typeOf_18 ?_
  refine zr_i (zr_V (As := [.int (h 14 (Int32.toNatClampNeg (((10 * x1) + (h 13 (Int32.toNatClampNeg x1))) - 1)))]) (rest := []) S hK hT hN hP hS (by decide) (mF_0 _) rfl (cMod_gives l D cI cC cE ad A hJ _ _ _ hw) caMod_181 ⟨Nat.le_of_ble_eq_true rfl, Nat.le_of_ble_eq_true rfl⟩ ⟨rfl, rfl⟩ rfl hl.1 rfl (Nat.le_of_ble_eq_true rfl) dMod_typeOf_19) hS (fun r19 h19 H locs hw hP hS => ?_)
  exact zr_iret S hr hlk hK hP hS rfl hw dMod_typeOf_22
/-! Mod.seen -/
theorem dMod_seen_0 : decode bMod_seen 0 = .ok (.aload_n 0, 1) := by decide +kernel
theorem dMod_seen_1 : decode bMod_seen 1 = .ok (.aload_n 0, 1) := by decide +kernel
theorem dMod_seen_2 : decode bMod_seen 2 = .ok (.getfield 178, 3) := by decide +kernel
theorem dMod_seen_5 : decode bMod_seen 5 = .ok (.putfield 188, 3) := by decide +kernel
theorem dMod_seen_8 : decode bMod_seen 8 = .ok (.iconst 0, 1) := by decide +kernel
theorem dMod_seen_9 : decode bMod_seen 9 = .ok (.istore_n 1, 1) := by decide +kernel
theorem dMod_seen_10 : decode bMod_seen 10 = .ok (.iload_n 1, 1) := by decide +kernel
theorem dMod_seen_11 : decode bMod_seen 11 = .ok (.aload_n 0, 1) := by decide +kernel
theorem dMod_seen_12 : decode bMod_seen 12 = .ok (.getfield 178, 3) := by decide +kernel
theorem dMod_seen_15 : decode bMod_seen 15 = .ok (.if_icmp .ge 21, 3) := by decide +kernel
theorem dMod_seen_18 : decode bMod_seen 18 = .ok (.aload_n 0, 1) := by decide +kernel
theorem dMod_seen_19 : decode bMod_seen 19 = .ok (.getfield 86, 3) := by decide +kernel
theorem dMod_seen_22 : decode bMod_seen 22 = .ok (.iload_n 1, 1) := by decide +kernel
theorem dMod_seen_23 : decode bMod_seen 23 = .ok (.aload_n 0, 1) := by decide +kernel
theorem dMod_seen_24 : decode bMod_seen 24 = .ok (.getfield 83, 3) := by decide +kernel
theorem dMod_seen_27 : decode bMod_seen 27 = .ok (.iload_n 1, 1) := by decide +kernel
theorem dMod_seen_28 : decode bMod_seen 28 = .ok (.iaload, 1) := by decide +kernel
theorem dMod_seen_29 : decode bMod_seen 29 = .ok (.iastore, 1) := by decide +kernel
theorem dMod_seen_30 : decode bMod_seen 30 = .ok (.iinc 1 1, 3) := by decide +kernel
theorem dMod_seen_33 : decode bMod_seen 33 = .ok (.goto (-23), 3) := by decide +kernel
theorem dMod_seen_36 : decode bMod_seen 36 = .ok (.iconst 0, 1) := by decide +kernel
theorem dMod_seen_37 : decode bMod_seen 37 = .ok (.istore_n 1, 1) := by decide +kernel
theorem dMod_seen_38 : decode bMod_seen 38 = .ok (.iconst 0, 1) := by decide +kernel
theorem dMod_seen_39 : decode bMod_seen 39 = .ok (.istore_n 2, 1) := by decide +kernel
theorem dMod_seen_40 : decode bMod_seen 40 = .ok (.iload_n 2, 1) := by decide +kernel
theorem dMod_seen_41 : decode bMod_seen 41 = .ok (.aload_n 0, 1) := by decide +kernel
theorem dMod_seen_42 : decode bMod_seen 42 = .ok (.getfield 191, 3) := by decide +kernel
theorem dMod_seen_45 : decode bMod_seen 45 = .ok (.if_icmp .ge 89, 3) := by decide +kernel
theorem dMod_seen_48 : decode bMod_seen 48 = .ok (.iload_n 1, 1) := by decide +kernel
theorem dMod_seen_49 : decode bMod_seen 49 = .ok (.ifCond .ne 85, 3) := by decide +kernel
theorem dMod_seen_52 : decode bMod_seen 52 = .ok (.aload_n 0, 1) := by decide +kernel
theorem dMod_seen_53 : decode bMod_seen 53 = .ok (.getfield 62, 3) := by decide +kernel
theorem dMod_seen_56 : decode bMod_seen 56 = .ok (.iload_n 2, 1) := by decide +kernel
theorem dMod_seen_57 : decode bMod_seen 57 = .ok (.iaload, 1) := by decide +kernel
theorem dMod_seen_58 : decode bMod_seen 58 = .ok (.ifCond .ne 70, 3) := by decide +kernel
theorem dMod_seen_61 : decode bMod_seen 61 = .ok (.aload_n 0, 1) := by decide +kernel
theorem dMod_seen_62 : decode bMod_seen 62 = .ok (.iload_n 2, 1) := by decide +kernel
theorem dMod_seen_63 : decode bMod_seen 63 = .ok (.invokevirtual 194, 3) := by decide +kernel
theorem dMod_seen_66 : decode bMod_seen 66 = .ok (.aload_n 0, 1) := by decide +kernel
theorem dMod_seen_67 : decode bMod_seen 67 = .ok (.invokevirtual 198, 3) := by decide +kernel
theorem dMod_seen_70 : decode bMod_seen 70 = .ok (.aload_n 0, 1) := by decide +kernel
theorem dMod_seen_71 : decode bMod_seen 71 = .ok (.getfield 178, 3) := by decide +kernel
theorem dMod_seen_74 : decode bMod_seen 74 = .ok (.aload_n 0, 1) := by decide +kernel
theorem dMod_seen_75 : decode bMod_seen 75 = .ok (.getfield 188, 3) := by decide +kernel
theorem dMod_seen_78 : decode bMod_seen 78 = .ok (.if_icmp .ne 7, 3) := by decide +kernel
theorem dMod_seen_81 : decode bMod_seen 81 = .ok (.iconst 1, 1) := by decide +kernel
theorem dMod_seen_82 : decode bMod_seen 82 = .ok (.goto 4, 3) := by decide +kernel
theorem dMod_seen_85 : decode bMod_seen 85 = .ok (.iconst 0, 1) := by decide +kernel
theorem dMod_seen_86 : decode bMod_seen 86 = .ok (.istore_n 1, 1) := by decide +kernel
theorem dMod_seen_87 : decode bMod_seen 87 = .ok (.iconst 0, 1) := by decide +kernel
theorem dMod_seen_88 : decode bMod_seen 88 = .ok (.istore_n 3, 1) := by decide +kernel
theorem dMod_seen_89 : decode bMod_seen 89 = .ok (.iload_n 3, 1) := by decide +kernel
theorem dMod_seen_90 : decode bMod_seen 90 = .ok (.aload_n 0, 1) := by decide +kernel
theorem dMod_seen_91 : decode bMod_seen 91 = .ok (.getfield 188, 3) := by decide +kernel
theorem dMod_seen_94 : decode bMod_seen 94 = .ok (.if_icmp .ge 34, 3) := by decide +kernel
theorem dMod_seen_97 : decode bMod_seen 97 = .ok (.iload_n 1, 1) := by decide +kernel
theorem dMod_seen_98 : decode bMod_seen 98 = .ok (.ifCond .eq 30, 3) := by decide +kernel
theorem dMod_seen_101 : decode bMod_seen 101 = .ok (.aload_n 0, 1) := by decide +kernel
theorem dMod_seen_102 : decode bMod_seen 102 = .ok (.getfield 83, 3) := by decide +kernel
theorem dMod_seen_105 : decode bMod_seen 105 = .ok (.iload_n 3, 1) := by decide +kernel
theorem dMod_seen_106 : decode bMod_seen 106 = .ok (.iaload, 1) := by decide +kernel
theorem dMod_seen_107 : decode bMod_seen 107 = .ok (.aload_n 0, 1) := by decide +kernel
theorem dMod_seen_108 : decode bMod_seen 108 = .ok (.getfield 86, 3) := by decide +kernel
theorem dMod_seen_111 : decode bMod_seen 111 = .ok (.iload_n 3, 1) := by decide +kernel
theorem dMod_seen_112 : decode bMod_seen 112 = .ok (.iaload, 1) := by decide +kernel
theorem dMod_seen_113 : decode bMod_seen 113 = .ok (.if_icmp .ne 7, 3) := by decide +kernel
theorem dMod_seen_116 : decode bMod_seen 116 = .ok (.iconst 1, 1) := by decide +kernel
theorem dMod_seen_117 : decode bMod_seen 117 = .ok (.goto 4, 3) := by decide +kernel
theorem dMod_seen_120 : decode bMod_seen 120 = .ok (.iconst 0, 1) := by decide +kernel
theorem dMod_seen_121 : decode bMod_seen 121 = .ok (.istore_n 1, 1) := by decide +kernel
theorem dMod_seen_122 : decode bMod_seen 122 = .ok (.iinc 3 1, 3) := by decide +kernel
theorem dMod_seen_125 : decode bMod_seen 125 = .ok (.goto (-36), 3) := by decide +kernel
theorem dMod_seen_128 : decode bMod_seen 128 = .ok (.iinc 2 1, 3) := by decide +kernel
theorem dMod_seen_131 : decode bMod_seen 131 = .ok (.goto (-91), 3) := by decide +kernel
theorem dMod_seen_134 : decode bMod_seen 134 = .ok (.iload_n 1, 1) := by decide +kernel
theorem dMod_seen_135 : decode bMod_seen 135 = .ok (.ireturn, 1) := by decide +kernel
def wbMod_seen_128 (post : Int32 → zM → Prop) (L40 : (Int32 × Int32 × zM) → Prop) (v1 : Int32) (v2 : Int32) (h : zM) : Prop := L40 (v1, (v2 + 1), h)
def wbMod_seen_121 (post : Int32 → zM → Prop) (L40 : (Int32 × Int32 × zM) → Prop) (L89 : (Int32 × Int32 × Int32 × zM) → Prop) (v2 : Int32) (v3 : Int32) (k0 : Int32) (h : zM) : Prop := L89 (k0, v2, (v3 + 1), h)
def stMod_seen_89 (post : Int32 → zM → Prop) (L40 : (Int32 × Int32 × zM) → Prop) (L89 : (Int32 × Int32 × Int32 × zM) → Prop) : (Int32 × Int32 × Int32 × zM) → Prop := fun s => match s with
  | (v1, v2, v3, h) => ((((h 0 35) ≤ v3) → wbMod_seen_128 post L40 v1 v2 h) ∧ (¬ ((h 0 35) ≤ v3) → ((v1 = 0 → wbMod_seen_128 post L40 v1 v2 h) ∧ (¬ v1 = 0 → (vp_in v3 21 ∧ (vp_in v3 21 ∧ ((¬ (h 24 (Int32.toNatClampNeg v3)) = (h 25 (Int32.toNatClampNeg v3)) → wbMod_seen_121 post L40 L89 v2 v3 0 h) ∧ ((h 24 (Int32.toNatClampNeg v3)) = (h 25 (Int32.toNatClampNeg v3)) → wbMod_seen_121 post L40 L89 v2 v3 1 h))))))))
def wbMod_seen_86 (post : Int32 → zM → Prop) (L40 : (Int32 × Int32 × zM) → Prop) (v2 : Int32) (k0 : Int32) (h : zM) : Prop := zL (stMod_seen_89 post L40) (k0, v2, 0, h)
def stMod_seen_40 (post : Int32 → zM → Prop) (L40 : (Int32 × Int32 × zM) → Prop) : (Int32 × Int32 × zM) → Prop := fun s => match s with
  | (v1, v2, h) => ((((h 0 17) ≤ v2) → ((v1 = 0 ∨ v1 = 1) ∧ post v1 h)) ∧ (¬ ((h 0 17) ≤ v2) → ((¬ v1 = 0 → ((v1 = 0 ∨ v1 = 1) ∧ post v1 h)) ∧ (v1 = 0 → (vp_in v2 41 ∧ ((¬ (h 17 (Int32.toNatClampNeg v2)) = 0 → wbMod_seen_128 post L40 v1 v2 h) ∧ ((h 17 (Int32.toNatClampNeg v2)) = 0 → wpMod_load v2 h (fun h63 => wpMod_run h63 (fun h67 => ((¬ (h67 0 33) = (h67 0 35) → wbMod_seen_86 post L40 v2 0 h67) ∧ ((h67 0 33) = (h67 0 35) → wbMod_seen_86 post L40 v2 1 h67)))))))))))
def stMod_seen_10 (post : Int32 → zM → Prop) (L10 : (Int32 × zM) → Prop) : (Int32 × zM) → Prop := fun s => match s with
  | (v1, h) => ((((h 0 33) ≤ v1) → zL (stMod_seen_40 post) (0, 0, h)) ∧ (¬ ((h 0 33) ≤ v1) → (vp_in v1 21 ∧ (vp_in v1 21 ∧ ∀ h29 : zM, h29 = zu h 25 (Int32.toNatClampNeg v1) (h 24 (Int32.toNatClampNeg v1)) → L10 ((v1 + 1), h29)))))
def wpMod_seen (h : zM) (post : Int32 → zM → Prop) : Prop := ∀ h5 : zM, h5 = zu h 0 35 (h 0 33) → zL (stMod_seen_10 post) (0, h5)
abbrev rmMod_seen : Room := { frames := 4, cells := 0, slots := 0, locals := 95 }
set_option maxHeartbeats 4000000 in
set_option maxRecDepth 100000 in
theorem cMod_seen (l : Launch) (D : va_G) (cI cC cE : ClassId) (ad : Nat → Nat) (A : Nat → Prop) (hJ : zJ A 28 ad) (h : zM) (post : Int32 → zM → Prop) (hw : wpMod_seen h post) : Met l yMod_seen (.code yMod_seen bMod_seen 4 (some .boolean) :: zt) rmMod_seen (va_Pc [.ref (ad 0)] (zPre D (zty cI cC cE) 28 ad (mF ad cI) A h)) (va_Qi post (zPst D (zty cI cC cE) 28 ad (mF ad cI)) A) 0 0 A := by
  refine Met.ofW (cc := bMod_seen) (maxL := 4) (ret := (some .boolean)) (by decide) rfl ?_
  intro p e s m args below meth c s₁ B hml hv
  obtain ⟨rfl, hP, hK, hT, hN⟩ := hv
  have hr := B.returns
  have hlk := B.notSynchronized
  have S : zS p m c bMod_seen 4 s _ "CallExplorerModel" := ⟨B.exec, B.bytes, hml, findClass_of_methodNamed B.named, fun w hw => atoms_spec (ws := .code yMod_seen bMod_seen 4 (some .boolean) :: zt) B.pre w (List.mem_cons_of_mem _ hw)⟩
  have hS : va_S A s.heap s.heap [] := va_S.rf
  have hl := lv_entry ([.ref (ad 0)]) (n := 4) (Nat.le_of_ble_eq_true rfl)
  rw [lg_entry_eq]
  generalize (lg_sl ([.ref (ad 0)]) ++ List.replicate (4 - (lg_sl ([.ref (ad 0)])).length) Slot.unset).toArray = ls at hl ⊢
  have hl : lv_has ls 4 [(0, .ref (ad 0))] := hl
  show W p l e rmMod_seen s m ([.ref (ad 0)] : List Value).toArray below meth c s.heap [] 0 0 (zQi post D (zty cI cC cE) 28 ad (mF ad cI) A below ([.ref (ad 0)] : List Value).toArray s) _
  have J40 : ∀ (fu : Nat) (v1 : Int32) (v2 : Int32) (h : zM) (H : Heap) (locs : List Loc) (ls : Array Slot), zl (stMod_seen_40 post) fu (v1, v2, h) → lv_has ls 4 [(0, .ref (ad 0)), (1, .int v1), (2, .int v2)] → va_P D zcl (zW 28 ad (mF ad cI) h) H → va_S A s.heap H locs → W p l e rmMod_seen s m ([.ref (ad 0)] : List Value).toArray below meth c H locs 0 0 (zQi post D (zty cI cC cE) 28 ad (mF ad cI) A below ([.ref (ad 0)] : List Value).toArray s) (F0 m 40 ls []) := by
    intro fu40
    induction fu40 with
    | zero =>
      intro v1 v2 h H locs ls hw
      exact (zl_0 hw).elim
    | succ fu40 ih40 =>
      intro v1 v2 h H locs ls hw hl hP hS
      have hw := zl_s hw
      generalize zl (stMod_seen_40 post) fu40 = L40 at hw ih40
      have J128 : ∀ (v1 : Int32) (v2 : Int32) (h : zM) (H : Heap) (locs : List Loc) (ls : Array Slot), wbMod_seen_128 post L40 v1 v2 h → lv_has ls 4 [(0, .ref (ad 0)), (1, .int v1), (2, .int v2)] → va_P D zcl (zW 28 ad (mF ad cI) h) H → va_S A s.heap H locs → W p l e rmMod_seen s m ([.ref (ad 0)] : List Value).toArray below meth c H locs 0 0 (zQi post D (zty cI cC cE) 28 ad (mF ad cI) A below ([.ref (ad 0)] : List Value).toArray s) (F0 m 128 ls []) := by
        intro v1 v2 h H locs ls hw hl hP hS
        unfold wbMod_seen_128 at hw
        refine lv_iinc (v := (v2 + 1)) (lv' := [(2, .int (v2 + 1)), (0, .ref (ad 0)), (1, .int v1)]) (k := 2) S.1 S.2.1 dMod_seen_128 hl rfl rfl (by decide) rfl (fun ls hl => ?_)
        refine lv_goto S.1 S.2.1 dMod_seen_131 rfl ?_
        exact ih40 _ _ _ _ _ _ hw (lv_sub hl [1, 2, 0] rfl) hP hS
      have J89 : ∀ (fu : Nat) (v1 : Int32) (v2 : Int32) (v3 : Int32) (h : zM) (H : Heap) (locs : List Loc) (ls : Array Slot), zl (stMod_seen_89 post L40) fu (v1, v2, v3, h) → lv_has ls 4 [(0, .ref (ad 0)), (1, .int v1), (2, .int v2), (3, .int v3)] → va_P D zcl (zW 28 ad (mF ad cI) h) H → va_S A s.heap H locs → W p l e rmMod_seen s m ([.ref (ad 0)] : List Value).toArray below meth c H locs 0 0 (zQi post D (zty cI cC cE) 28 ad (mF ad cI) A below ([.ref (ad 0)] : List Value).toArray s) (F0 m 89 ls []) := by
        intro fu89
        induction fu89 with
        | zero =>
          intro v1 v2 v3 h H locs ls hw
          exact (zl_0 hw).elim
        | succ fu89 ih89 =>
          intro v1 v2 v3 h H locs ls hw hl hP hS
          have hw := zl_s hw
          generalize zl (stMod_seen_89 post L40) fu89 = L89 at hw ih89
          have J121 : ∀ (v2 : Int32) (v3 : Int32) (k0 : Int32) (h : zM) (H : Heap) (locs : List Loc) (ls : Array Slot), wbMod_seen_121 post L40 L89 v2 v3 k0 h → lv_has ls 4 [(0, .ref (ad 0)), (2, .int v2), (3, .int v3)] → va_P D zcl (zW 28 ad (mF ad cI) h) H → va_S A s.heap H locs → W p l e rmMod_seen s m ([.ref (ad 0)] : List Value).toArray below meth c H locs 0 0 (zQi post D (zty cI cC cE) 28 ad (mF ad cI) A below ([.ref (ad 0)] : List Value).toArray s) (F0 m 121 ls [.int k0]) := by
            intro v2 v3 k0 h H locs ls hw hl hP hS
            unfold wbMod_seen_121 at hw
            refine lv_istore_n (lv' := [(1, .int k0), (0, .ref (ad 0)), (2, .int v2), (3, .int v3)]) S.1 S.2.1 dMod_seen_121 rfl hl (by decide) rfl (fun ls hl => ?_)
            refine lv_iinc (v := (v3 + 1)) (lv' := [(3, .int (v3 + 1)), (1, .int k0), (0, .ref (ad 0)), (2, .int v2)]) (k := 3) S.1 S.2.1 dMod_seen_122 hl rfl rfl (by decide) rfl (fun ls hl => ?_)
            refine lv_goto S.1 S.2.1 dMod_seen_125 rfl ?_
            exact ih89 _ _ _ _ _ _ _ hw (lv_sub hl [2, 1, 3, 0] rfl) hP hS
          unfold stMod_seen_89 at hw
          dsimp only at hw
          refine lv_iload_n S.1 S.2.1 dMod_seen_89 rfl (lv_at hl 3 rfl) ?_
          refine lv_aload_n S.1 S.2.1 dMod_seen_90 rfl (lv_at hl 0 rfl) ?_
          refine zr_get S hK hP (by decide) (mF_0 _) fMod_wantedN q863 rfl dMod_seen_91 ?_
          refine lv_icmp_ge S.1 S.2.1 dMod_seen_94 rfl (fun hc => ?_) (fun hc => ?_)
          · have hw := hw.1 hc
            exact J128 _ _ _ _ _ _ hw (lv_sub hl [0, 1, 2] rfl) hP hS
          · have hw := hw.2 hc
            refine lv_iload_n S.1 S.2.1 dMod_seen_97 rfl (lv_at hl 1 rfl) ?_
            refine lv_if_eq S.1 S.2.1 dMod_seen_98 rfl (fun hc => ?_) (fun hc => ?_)
            · have hw := hw.1 hc
              exact J128 _ _ _ _ _ _ hw (lv_sub hl [0, 1, 2] rfl) hP hS
            · have hw := hw.2 hc
              refine lv_aload_n S.1 S.2.1 dMod_seen_101 rfl (lv_at hl 0 rfl) ?_
              refine zr_get S hK hP (by decide) (mF_0 _) fMod_shape q862 rfl dMod_seen_102 ?_
              refine lv_iload_n S.1 S.2.1 dMod_seen_105 rfl (lv_at hl 3 rfl) ?_
              obtain ⟨z106, hw⟩ := hw
              refine zr_ald S hK hP (by decide) (mF_24 _) 0 rfl z106 dMod_seen_106 ?_
              refine lv_aload_n S.1 S.2.1 dMod_seen_107 rfl (lv_at hl 0 rfl) ?_
              refine zr_get S hK hP (by decide) (mF_0 _) fMod_wanted q864 rfl dMod_seen_108 ?_
              refine lv_iload_n S.1 S.2.1 dMod_seen_111 rfl (lv_at hl 3 rfl) ?_
              obtain ⟨z112, hw⟩ := hw
              refine zr_ald S hK hP (by decide) (mF_25 _) 0 rfl z112 dMod_seen_112 ?_
              refine lv_icmp_ne S.1 S.2.1 dMod_seen_113 rfl (fun hc => ?_) (fun hc => ?_)
              · have hw := hw.1 hc
                refine lv_iconst (v := 0) S.1 S.2.1 dMod_seen_120 (by decide) ?_
                exact J121 _ _ _ _ _ _ _ hw (lv_sub hl [0, 2, 3] rfl) hP hS
              · have hw := hw.2 hc
                refine lv_iconst (v := 1) S.1 S.2.1 dMod_seen_116 (by decide) ?_
                refine lv_goto S.1 S.2.1 dMod_seen_117 rfl ?_
                exact J121 _ _ _ _ _ _ _ hw (lv_sub hl [0, 2, 3] rfl) hP hS
      have J86 : ∀ (v2 : Int32) (k0 : Int32) (h : zM) (H : Heap) (locs : List Loc) (ls : Array Slot), wbMod_seen_86 post L40 v2 k0 h → lv_has ls 4 [(0, .ref (ad 0)), (2, .int v2)] → va_P D zcl (zW 28 ad (mF ad cI) h) H → va_S A s.heap H locs → W p l e rmMod_seen s m ([.ref (ad 0)] : List Value).toArray below meth c H locs 0 0 (zQi post D (zty cI cC cE) 28 ad (mF ad cI) A below ([.ref (ad 0)] : List Value).toArray s) (F0 m 86 ls [.int k0]) := by
        intro v2 k0 h H locs ls hw hl hP hS
        unfold wbMod_seen_86 at hw
        refine lv_istore_n (lv' := [(1, .int k0), (0, .ref (ad 0)), (2, .int v2)]) S.1 S.2.1 dMod_seen_86 rfl hl (by decide) rfl (fun ls hl => ?_)
        refine lv_iconst (v := 0) S.1 S.2.1 dMod_seen_87 (by decide) ?_
        refine lv_istore_n (lv' := [(3, .int 0), (1, .int k0), (0, .ref (ad 0)), (2, .int v2)]) S.1 S.2.1 dMod_seen_88 rfl hl (by decide) rfl (fun ls hl => ?_)
        obtain ⟨fu, hw⟩ := hw
        exact J89 fu _ _ _ _ _ _ _ hw (lv_sub hl [2, 1, 3, 0] rfl) hP hS
      unfold stMod_seen_40 at hw
      dsimp only at hw
      refine lv_iload_n S.1 S.2.1 dMod_seen_40 rfl (lv_at hl 2 rfl) ?_
      refine lv_aload_n S.1 S.2.1 dMod_seen_41 rfl (lv_at hl 0 rfl) ?_
      refine zr_get S hK hP (by decide) (mF_0 _) fMod_entries q845 rfl dMod_seen_42 ?_
      refine lv_icmp_ge S.1 S.2.1 dMod_seen_45 rfl (fun hc => ?_) (fun hc => ?_)
      · have hw := hw.1 hc
        refine lv_iload_n S.1 S.2.1 dMod_seen_134 rfl (lv_at hl 1 rfl) ?_
        exact zr_iret S hr hlk hK hP hS (zbn hw.1) hw.2 dMod_seen_135
      · have hw := hw.2 hc
        refine lv_iload_n S.1 S.2.1 dMod_seen_48 rfl (lv_at hl 1 rfl) ?_
        refine lv_if_ne S.1 S.2.1 dMod_seen_49 rfl (fun hc => ?_) (fun hc => ?_)
        · have hw := hw.1 hc
          refine lv_iload_n S.1 S.2.1 dMod_seen_134 rfl (lv_at hl 1 rfl) ?_
          exact zr_iret S hr hlk hK hP hS (zbn hw.1) hw.2 dMod_seen_135
        · have hw := hw.2 hc
          refine lv_aload_n S.1 S.2.1 dMod_seen_52 rfl (lv_at hl 0 rfl) ?_
          refine zr_get S hK hP (by decide) (mF_0 _) fMod_outcome q850 rfl dMod_seen_53 ?_
          refine lv_iload_n S.1 S.2.1 dMod_seen_56 rfl (lv_at hl 2 rfl) ?_
          obtain ⟨z57, hw⟩ := hw
          refine zr_ald S hK hP (by decide) (mF_17 _) 0 rfl z57 dMod_seen_57 ?_
          refine lv_if_ne S.1 S.2.1 dMod_seen_58 rfl (fun hc => ?_) (fun hc => ?_)
          · have hw := hw.1 hc
            exact J128 _ _ _ _ _ _ hw (lv_sub hl [0, 1, 2] rfl) hP hS
          · have hw := hw.2 hc
            refine lv_aload_n S.1 S.2.1 dMod_seen_61 rfl (lv_at hl 0 rfl) ?_
            refine lv_iload_n S.1 S.2.1 dMod_seen_62 rfl (lv_at hl 2 rfl) ?_
            refine zr_v (zr_V (As := [.int v2]) (rest := []) S hK hT hN hP hS (by decide) (mF_0 _) rfl (cMod_load l D cI cC cE ad A hJ _ _ _ hw) caMod_194 ⟨Nat.le_of_ble_eq_true rfl, Nat.le_of_ble_eq_true rfl⟩ ⟨rfl, rfl⟩ rfl hl.1 rfl (Nat.le_of_ble_eq_true rfl) dMod_seen_63) hS (fun h63 H locs hw hP hS => ?_)
            refine lv_aload_n S.1 S.2.1 dMod_seen_66 rfl (lv_at hl 0 rfl) ?_
            refine zr_v (zr_V (As := []) (rest := []) S hK hT hN hP hS (by decide) (mF_0 _) rfl (cMod_run l D cI cC cE ad A hJ _ _ hw) caMod_198 ⟨Nat.le_of_ble_eq_true rfl, Nat.le_of_ble_eq_true rfl⟩ ⟨rfl, rfl⟩ rfl hl.1 rfl (Nat.le_of_ble_eq_true rfl) dMod_seen_67) hS (fun h67 H locs hw hP hS => ?_)
            refine lv_aload_n S.1 S.2.1 dMod_seen_70 rfl (lv_at hl 0 rfl) ?_
            refine zr_get S hK hP (by decide) (mF_0 _) fMod_shapeN q861 rfl dMod_seen_71 ?_
            refine lv_aload_n S.1 S.2.1 dMod_seen_74 rfl (lv_at hl 0 rfl) ?_
            refine zr_get S hK hP (by decide) (mF_0 _) fMod_wantedN q863 rfl dMod_seen_75 ?_
            refine lv_icmp_ne S.1 S.2.1 dMod_seen_78 rfl (fun hc => ?_) (fun hc => ?_)
            · have hw := hw.1 hc
              refine lv_iconst (v := 0) S.1 S.2.1 dMod_seen_85 (by decide) ?_
              exact J86 _ _ _ _ _ _ hw (lv_sub hl [0, 2] rfl) hP hS
            · have hw := hw.2 hc
              refine lv_iconst (v := 1) S.1 S.2.1 dMod_seen_81 (by decide) ?_
              refine lv_goto S.1 S.2.1 dMod_seen_82 rfl ?_
              exact J86 _ _ _ _ _ _ hw (lv_sub hl [0, 2] rfl) hP hS
  have J10 : ∀ (fu : Nat) (v1 : Int32) (h : zM) (H : Heap) (locs : List Loc) (ls : Array Slot), zl (stMod_seen_10 post) fu (v1, h) → lv_has ls 4 [(0, .ref (ad 0)), (1, .int v1)] → va_P D zcl (zW 28 ad (mF ad cI) h) H → va_S A s.heap H locs → W p l e rmMod_seen s m ([.ref (ad 0)] : List Value).toArray below meth c H locs 0 0 (zQi post D (zty cI cC cE) 28 ad (mF ad cI) A below ([.ref (ad 0)] : List Value).toArray s) (F0 m 10 ls []) := by
    intro fu10
    induction fu10 with
    | zero =>
      intro v1 h H locs ls hw
      exact (zl_0 hw).elim
    | succ fu10 ih10 =>
      intro v1 h H locs ls hw hl hP hS
      have hw := zl_s hw
      generalize zl (stMod_seen_10 post) fu10 = L10 at hw ih10
      unfold stMod_seen_10 at hw
      dsimp only at hw
      refine lv_iload_n S.1 S.2.1 dMod_seen_10 rfl (lv_at hl 1 rfl) ?_
      refine lv_aload_n S.1 S.2.1 dMod_seen_11 rfl (lv_at hl 0 rfl) ?_
      refine zr_get S hK hP (by decide) (mF_0 _) fMod_shapeN q861 rfl dMod_seen_12 ?_
      refine lv_icmp_ge S.1 S.2.1 dMod_seen_15 rfl (fun hc => ?_) (fun hc => ?_)
      · have hw := hw.1 hc
        refine lv_iconst (v := 0) S.1 S.2.1 dMod_seen_36 (by decide) ?_
        refine lv_istore_n (lv' := [(1, .int 0), (0, .ref (ad 0))]) S.1 S.2.1 dMod_seen_37 rfl hl (by decide) rfl (fun ls hl => ?_)
        refine lv_iconst (v := 0) S.1 S.2.1 dMod_seen_38 (by decide) ?_
        refine lv_istore_n (lv' := [(2, .int 0), (1, .int 0), (0, .ref (ad 0))]) S.1 S.2.1 dMod_seen_39 rfl hl (by decide) rfl (fun ls hl => ?_)
        obtain ⟨fu, hw⟩ := hw
        exact J40 fu _ _ _ _ _ _ hw (lv_sub hl [2, 1, 0] rfl) hP hS
      · have hw := hw.2 hc
        refine lv_aload_n S.1 S.2.1 dMod_seen_18 rfl (lv_at hl 0 rfl) ?_
        refine zr_get S hK hP (by decide) (mF_0 _) fMod_wanted q864 rfl dMod_seen_19 ?_
        refine lv_iload_n S.1 S.2.1 dMod_seen_22 rfl (lv_at hl 1 rfl) ?_
        refine lv_aload_n S.1 S.2.1 dMod_seen_23 rfl (lv_at hl 0 rfl) ?_
        refine zr_get S hK hP (by decide) (mF_0 _) fMod_shape q862 rfl dMod_seen_24 ?_
        refine lv_iload_n S.1 S.2.1 dMod_seen_27 rfl (lv_at hl 1 rfl) ?_
        obtain ⟨z28, hw⟩ := hw
        refine zr_ald S hK hP (by decide) (mF_24 _) 0 rfl z28 dMod_seen_28 ?_
        obtain ⟨z29, hw⟩ := hw
        refine zr_ast S hK hJ hP hS (by decide) mF_25 0 rfl z29 dMod_seen_29 (fun h29 H locs e29 hP hS => ?_)
        have hw := hw h29 e29
        refine lv_iinc (v := (v1 + 1)) (lv' := [(1, .int (v1 + 1)), (0, .ref (ad 0))]) (k := 1) S.1 S.2.1 dMod_seen_30 hl rfl rfl (by decide) rfl (fun ls hl => ?_)
        refine lv_goto S.1 S.2.1 dMod_seen_33 rfl ?_
        exact ih10 _ _ _ _ _ hw (lv_sub hl [1, 0] rfl) hP hS
  unfold wpMod_seen at hw
  refine lv_aload_n S.1 S.2.1 dMod_seen_0 rfl (lv_at hl 0 rfl) ?_
  refine lv_aload_n S.1 S.2.1 dMod_seen_1 rfl (lv_at hl 0 rfl) ?_
  refine zr_get S hK hP (by decide) (mF_0 _) fMod_shapeN q861 rfl dMod_seen_2 ?_
  refine zr_put S hK hJ hP hS (by decide) (mF_0 _) fMod_wantedN q863 rfl rfl (Nat.le_of_ble_eq_true rfl) (mF_0 _) dMod_seen_5 (fun h5 H locs e5 hP hS => ?_)
  have hw := hw h5 e5
  refine lv_iconst (v := 0) S.1 S.2.1 dMod_seen_8 (by decide) ?_
  refine lv_istore_n (lv' := [(1, .int 0), (0, .ref (ad 0))]) S.1 S.2.1 dMod_seen_9 rfl hl (by decide) rfl (fun ls hl => ?_)
  obtain ⟨fu, hw⟩ := hw
  exact J10 fu _ _ _ _ _ hw (lv_sub hl [1, 0] rfl) hP hS
/-! Mod.alike -/
theorem dMod_alike_0 : decode bMod_alike 0 = .ok (.aload_n 0, 1) := by decide +kernel
theorem dMod_alike_1 : decode bMod_alike 1 = .ok (.getfield 53, 3) := by decide +kernel
theorem dMod_alike_4 : decode bMod_alike 4 = .ok (.iload_n 1, 1) := by decide +kernel
theorem dMod_alike_5 : decode bMod_alike 5 = .ok (.iaload, 1) := by decide +kernel
theorem dMod_alike_6 : decode bMod_alike 6 = .ok (.aload_n 0, 1) := by decide +kernel
theorem dMod_alike_7 : decode bMod_alike 7 = .ok (.getfield 35, 3) := by decide +kernel
theorem dMod_alike_10 : decode bMod_alike 10 = .ok (.iload_n 2, 1) := by decide +kernel
theorem dMod_alike_11 : decode bMod_alike 11 = .ok (.iaload, 1) := by decide +kernel
theorem dMod_alike_12 : decode bMod_alike 12 = .ok (.if_icmp .ne 7, 3) := by decide +kernel
theorem dMod_alike_15 : decode bMod_alike 15 = .ok (.iconst 1, 1) := by decide +kernel
theorem dMod_alike_16 : decode bMod_alike 16 = .ok (.goto 4, 3) := by decide +kernel
theorem dMod_alike_19 : decode bMod_alike 19 = .ok (.iconst 0, 1) := by decide +kernel
theorem dMod_alike_20 : decode bMod_alike 20 = .ok (.istore_n 3, 1) := by decide +kernel
theorem dMod_alike_21 : decode bMod_alike 21 = .ok (.iconst 0, 1) := by decide +kernel
theorem dMod_alike_22 : decode bMod_alike 22 = .ok (.istore 4, 2) := by decide +kernel
theorem dMod_alike_24 : decode bMod_alike 24 = .ok (.iload 4, 2) := by decide +kernel
theorem dMod_alike_26 : decode bMod_alike 26 = .ok (.aload_n 0, 1) := by decide +kernel
theorem dMod_alike_27 : decode bMod_alike 27 = .ok (.getfield 19, 3) := by decide +kernel
theorem dMod_alike_30 : decode bMod_alike 30 = .ok (.aload_n 0, 1) := by decide +kernel
theorem dMod_alike_31 : decode bMod_alike 31 = .ok (.getfield 35, 3) := by decide +kernel
theorem dMod_alike_34 : decode bMod_alike 34 = .ok (.iload_n 2, 1) := by decide +kernel
theorem dMod_alike_35 : decode bMod_alike 35 = .ok (.iaload, 1) := by decide +kernel
theorem dMod_alike_36 : decode bMod_alike 36 = .ok (.iaload, 1) := by decide +kernel
theorem dMod_alike_37 : decode bMod_alike 37 = .ok (.invokestatic 122, 3) := by decide +kernel
theorem dMod_alike_40 : decode bMod_alike 40 = .ok (.if_icmp .ge 69, 3) := by decide +kernel
theorem dMod_alike_43 : decode bMod_alike 43 = .ok (.iload_n 3, 1) := by decide +kernel
theorem dMod_alike_44 : decode bMod_alike 44 = .ok (.ifCond .eq 65, 3) := by decide +kernel
theorem dMod_alike_47 : decode bMod_alike 47 = .ok (.aload_n 0, 1) := by decide +kernel
theorem dMod_alike_48 : decode bMod_alike 48 = .ok (.getfield 56, 3) := by decide +kernel
theorem dMod_alike_51 : decode bMod_alike 51 = .ok (.iconst 2, 1) := by decide +kernel
theorem dMod_alike_52 : decode bMod_alike 52 = .ok (.iload_n 1, 1) := by decide +kernel
theorem dMod_alike_53 : decode bMod_alike 53 = .ok (.imul, 1) := by decide +kernel
theorem dMod_alike_54 : decode bMod_alike 54 = .ok (.iload 4, 2) := by decide +kernel
theorem dMod_alike_56 : decode bMod_alike 56 = .ok (.iadd, 1) := by decide +kernel
theorem dMod_alike_57 : decode bMod_alike 57 = .ok (.iaload, 1) := by decide +kernel
theorem dMod_alike_58 : decode bMod_alike 58 = .ok (.aload_n 0, 1) := by decide +kernel
theorem dMod_alike_59 : decode bMod_alike 59 = .ok (.getfield 38, 3) := by decide +kernel
theorem dMod_alike_62 : decode bMod_alike 62 = .ok (.iconst 2, 1) := by decide +kernel
theorem dMod_alike_63 : decode bMod_alike 63 = .ok (.iload_n 2, 1) := by decide +kernel
theorem dMod_alike_64 : decode bMod_alike 64 = .ok (.imul, 1) := by decide +kernel
theorem dMod_alike_65 : decode bMod_alike 65 = .ok (.iload 4, 2) := by decide +kernel
theorem dMod_alike_67 : decode bMod_alike 67 = .ok (.iadd, 1) := by decide +kernel
theorem dMod_alike_68 : decode bMod_alike 68 = .ok (.iaload, 1) := by decide +kernel
theorem dMod_alike_69 : decode bMod_alike 69 = .ok (.if_icmp .ne 32, 3) := by decide +kernel
theorem dMod_alike_72 : decode bMod_alike 72 = .ok (.aload_n 0, 1) := by decide +kernel
theorem dMod_alike_73 : decode bMod_alike 73 = .ok (.getfield 59, 3) := by decide +kernel
theorem dMod_alike_76 : decode bMod_alike 76 = .ok (.iconst 2, 1) := by decide +kernel
theorem dMod_alike_77 : decode bMod_alike 77 = .ok (.iload_n 1, 1) := by decide +kernel
theorem dMod_alike_78 : decode bMod_alike 78 = .ok (.imul, 1) := by decide +kernel
theorem dMod_alike_79 : decode bMod_alike 79 = .ok (.iload 4, 2) := by decide +kernel
theorem dMod_alike_81 : decode bMod_alike 81 = .ok (.iadd, 1) := by decide +kernel
theorem dMod_alike_82 : decode bMod_alike 82 = .ok (.iaload, 1) := by decide +kernel
theorem dMod_alike_83 : decode bMod_alike 83 = .ok (.aload_n 0, 1) := by decide +kernel
theorem dMod_alike_84 : decode bMod_alike 84 = .ok (.getfield 41, 3) := by decide +kernel
theorem dMod_alike_87 : decode bMod_alike 87 = .ok (.iconst 2, 1) := by decide +kernel
theorem dMod_alike_88 : decode bMod_alike 88 = .ok (.iload_n 2, 1) := by decide +kernel
theorem dMod_alike_89 : decode bMod_alike 89 = .ok (.imul, 1) := by decide +kernel
theorem dMod_alike_90 : decode bMod_alike 90 = .ok (.iload 4, 2) := by decide +kernel
theorem dMod_alike_92 : decode bMod_alike 92 = .ok (.iadd, 1) := by decide +kernel
theorem dMod_alike_93 : decode bMod_alike 93 = .ok (.iaload, 1) := by decide +kernel
theorem dMod_alike_94 : decode bMod_alike 94 = .ok (.if_icmp .ne 7, 3) := by decide +kernel
theorem dMod_alike_97 : decode bMod_alike 97 = .ok (.iconst 1, 1) := by decide +kernel
theorem dMod_alike_98 : decode bMod_alike 98 = .ok (.goto 4, 3) := by decide +kernel
theorem dMod_alike_101 : decode bMod_alike 101 = .ok (.iconst 0, 1) := by decide +kernel
theorem dMod_alike_102 : decode bMod_alike 102 = .ok (.istore_n 3, 1) := by decide +kernel
theorem dMod_alike_103 : decode bMod_alike 103 = .ok (.iinc 4 1, 3) := by decide +kernel
theorem dMod_alike_106 : decode bMod_alike 106 = .ok (.goto (-82), 3) := by decide +kernel
theorem dMod_alike_109 : decode bMod_alike 109 = .ok (.iload_n 3, 1) := by decide +kernel
theorem dMod_alike_110 : decode bMod_alike 110 = .ok (.ireturn, 1) := by decide +kernel
def wbMod_alike_102 (post : Int32 → zM → Prop) (L24 : (Int32 × Int32 × Int32 × Int32 × zM) → Prop) (v1 : Int32) (v2 : Int32) (v4 : Int32) (k0 : Int32) (h : zM) : Prop := L24 (v1, v2, k0, (v4 + 1), h)
def wbMod_alike_101 (post : Int32 → zM → Prop) (L24 : (Int32 × Int32 × Int32 × Int32 × zM) → Prop) (v1 : Int32) (v2 : Int32) (v4 : Int32) (h : zM) : Prop := wbMod_alike_102 post L24 v1 v2 v4 0 h
def stMod_alike_24 (post : Int32 → zM → Prop) (L24 : (Int32 × Int32 × Int32 × Int32 × zM) → Prop) : (Int32 × Int32 × Int32 × Int32 × zM) → Prop := fun s => match s with
  | (v1, v2, v3, v4, h) => (vp_in v2 20 ∧ (vp_in (h 8 (Int32.toNatClampNeg v2)) 10 ∧ wpMod_arity (h 4 (Int32.toNatClampNeg (h 8 (Int32.toNatClampNeg v2)))) h (fun r37 h37 => (((r37 ≤ v4) → ((v3 = 0 ∨ v3 = 1) ∧ post v3 h37)) ∧ (¬ (r37 ≤ v4) → ((v3 = 0 → ((v3 = 0 ∨ v3 = 1) ∧ post v3 h37)) ∧ (¬ v3 = 0 → (vp_in ((2 * v1) + v4) 820 ∧ (vp_in ((2 * v2) + v4) 40 ∧ ((¬ (h37 15 (Int32.toNatClampNeg ((2 * v1) + v4))) = (h37 9 (Int32.toNatClampNeg ((2 * v2) + v4))) → wbMod_alike_101 post L24 v1 v2 v4 h37) ∧ ((h37 15 (Int32.toNatClampNeg ((2 * v1) + v4))) = (h37 9 (Int32.toNatClampNeg ((2 * v2) + v4))) → (vp_in ((2 * v1) + v4) 820 ∧ (vp_in ((2 * v2) + v4) 40 ∧ ((¬ (h37 16 (Int32.toNatClampNeg ((2 * v1) + v4))) = (h37 10 (Int32.toNatClampNeg ((2 * v2) + v4))) → wbMod_alike_101 post L24 v1 v2 v4 h37) ∧ ((h37 16 (Int32.toNatClampNeg ((2 * v1) + v4))) = (h37 10 (Int32.toNatClampNeg ((2 * v2) + v4))) → wbMod_alike_102 post L24 v1 v2 v4 1 h37)))))))))))))))
def wbMod_alike_20 (post : Int32 → zM → Prop) (v1 : Int32) (v2 : Int32) (k0 : Int32) (h : zM) : Prop := zL (stMod_alike_24 post) (v1, v2, k0, 0, h)
def wpMod_alike (x1 : Int32) (x2 : Int32) (h : zM) (post : Int32 → zM → Prop) : Prop := (vp_in x1 410 ∧ (vp_in x2 20 ∧ ((¬ (h 14 (Int32.toNatClampNeg x1)) = (h 8 (Int32.toNatClampNeg x2)) → wbMod_alike_20 post x1 x2 0 h) ∧ ((h 14 (Int32.toNatClampNeg x1)) = (h 8 (Int32.toNatClampNeg x2)) → wbMod_alike_20 post x1 x2 1 h))))
abbrev rmMod_alike : Room := { frames := 1, cells := 0, slots := 0, locals := 20 }
set_option maxHeartbeats 4000000 in
set_option maxRecDepth 100000 in
theorem cMod_alike (l : Launch) (D : va_G) (cI cC cE : ClassId) (ad : Nat → Nat) (A : Nat → Prop) (hJ : zJ A 28 ad) (x1 : Int32) (x2 : Int32) (h : zM) (post : Int32 → zM → Prop) (hw : wpMod_alike x1 x2 h post) : Met l yMod_alike (.code yMod_alike bMod_alike 5 (some .boolean) :: zt) rmMod_alike (va_Pc [.ref (ad 0), .int x1, .int x2] (zPre D (zty cI cC cE) 28 ad (mF ad cI) A h)) (va_Qi post (zPst D (zty cI cC cE) 28 ad (mF ad cI)) A) 0 0 A := by
  refine Met.ofW (cc := bMod_alike) (maxL := 5) (ret := (some .boolean)) (by decide) rfl ?_
  intro p e s m args below meth c s₁ B hml hv
  obtain ⟨rfl, hP, hK, hT, hN⟩ := hv
  have hr := B.returns
  have hlk := B.notSynchronized
  have S : zS p m c bMod_alike 5 s _ "CallExplorerModel" := ⟨B.exec, B.bytes, hml, findClass_of_methodNamed B.named, fun w hw => atoms_spec (ws := .code yMod_alike bMod_alike 5 (some .boolean) :: zt) B.pre w (List.mem_cons_of_mem _ hw)⟩
  have hS : va_S A s.heap s.heap [] := va_S.rf
  have hl := lv_entry ([.ref (ad 0), .int x1, .int x2]) (n := 5) (Nat.le_of_ble_eq_true rfl)
  rw [lg_entry_eq]
  generalize (lg_sl ([.ref (ad 0), .int x1, .int x2]) ++ List.replicate (5 - (lg_sl ([.ref (ad 0), .int x1, .int x2])).length) Slot.unset).toArray = ls at hl ⊢
  have hl : lv_has ls 5 [(0, .ref (ad 0)), (1, .int x1), (2, .int x2)] := hl
  show W p l e rmMod_alike s m ([.ref (ad 0), .int x1, .int x2] : List Value).toArray below meth c s.heap [] 0 0 (zQi post D (zty cI cC cE) 28 ad (mF ad cI) A below ([.ref (ad 0), .int x1, .int x2] : List Value).toArray s) _
  have J24 : ∀ (fu : Nat) (v1 : Int32) (v2 : Int32) (v3 : Int32) (v4 : Int32) (h : zM) (H : Heap) (locs : List Loc) (ls : Array Slot), zl (stMod_alike_24 post) fu (v1, v2, v3, v4, h) → lv_has ls 5 [(0, .ref (ad 0)), (1, .int v1), (2, .int v2), (3, .int v3), (4, .int v4)] → va_P D zcl (zW 28 ad (mF ad cI) h) H → va_S A s.heap H locs → W p l e rmMod_alike s m ([.ref (ad 0), .int x1, .int x2] : List Value).toArray below meth c H locs 0 0 (zQi post D (zty cI cC cE) 28 ad (mF ad cI) A below ([.ref (ad 0), .int x1, .int x2] : List Value).toArray s) (F0 m 24 ls []) := by
    intro fu24
    induction fu24 with
    | zero =>
      intro v1 v2 v3 v4 h H locs ls hw
      exact (zl_0 hw).elim
    | succ fu24 ih24 =>
      intro v1 v2 v3 v4 h H locs ls hw hl hP hS
      have hw := zl_s hw
      generalize zl (stMod_alike_24 post) fu24 = L24 at hw ih24
      have J102 : ∀ (v1 : Int32) (v2 : Int32) (v4 : Int32) (k0 : Int32) (h : zM) (H : Heap) (locs : List Loc) (ls : Array Slot), wbMod_alike_102 post L24 v1 v2 v4 k0 h → lv_has ls 5 [(0, .ref (ad 0)), (1, .int v1), (2, .int v2), (4, .int v4)] → va_P D zcl (zW 28 ad (mF ad cI) h) H → va_S A s.heap H locs → W p l e rmMod_alike s m ([.ref (ad 0), .int x1, .int x2] : List Value).toArray below meth c H locs 0 0 (zQi post D (zty cI cC cE) 28 ad (mF ad cI) A below ([.ref (ad 0), .int x1, .int x2] : List Value).toArray s) (F0 m 102 ls [.int k0]) := by
        intro v1 v2 v4 k0 h H locs ls hw hl hP hS
        unfold wbMod_alike_102 at hw
        refine lv_istore_n (lv' := [(3, .int k0), (0, .ref (ad 0)), (1, .int v1), (2, .int v2), (4, .int v4)]) S.1 S.2.1 dMod_alike_102 rfl hl (by decide) rfl (fun ls hl => ?_)
        refine lv_iinc (v := (v4 + 1)) (lv' := [(4, .int (v4 + 1)), (3, .int k0), (0, .ref (ad 0)), (1, .int v1), (2, .int v2)]) (k := 4) S.1 S.2.1 dMod_alike_103 hl rfl rfl (by decide) rfl (fun ls hl => ?_)
        refine lv_goto S.1 S.2.1 dMod_alike_106 rfl ?_
        exact ih24 _ _ _ _ _ _ _ _ hw (lv_sub hl [2, 3, 4, 1, 0] rfl) hP hS
      have J101 : ∀ (v1 : Int32) (v2 : Int32) (v4 : Int32) (h : zM) (H : Heap) (locs : List Loc) (ls : Array Slot), wbMod_alike_101 post L24 v1 v2 v4 h → lv_has ls 5 [(0, .ref (ad 0)), (1, .int v1), (2, .int v2), (4, .int v4)] → va_P D zcl (zW 28 ad (mF ad cI) h) H → va_S A s.heap H locs → W p l e rmMod_alike s m ([.ref (ad 0), .int x1, .int x2] : List Value).toArray below meth c H locs 0 0 (zQi post D (zty cI cC cE) 28 ad (mF ad cI) A below ([.ref (ad 0), .int x1, .int x2] : List Value).toArray s) (F0 m 101 ls []) := by
        intro v1 v2 v4 h H locs ls hw hl hP hS
        unfold wbMod_alike_101 at hw
        refine lv_iconst (v := 0) S.1 S.2.1 dMod_alike_101 (by decide) ?_
        exact J102 _ _ _ _ _ _ _ _ hw (lv_sub hl [0, 1, 2, 3] rfl) hP hS
      unfold stMod_alike_24 at hw
      dsimp only at hw
      refine lv_iload S.1 S.2.1 dMod_alike_24 (lv_at hl 4 rfl) ?_
      refine lv_aload_n S.1 S.2.1 dMod_alike_26 rfl (lv_at hl 0 rfl) ?_
      refine zr_get S hK hP (by decide) (mF_0 _) fMod_kind q834 rfl dMod_alike_27 ?_
      refine lv_aload_n S.1 S.2.1 dMod_alike_30 rfl (lv_at hl 0 rfl) ?_
      refine zr_get S hK hP (by decide) (mF_0 _) fMod_op q840 rfl dMod_alike_31 ?_
      refine lv_iload_n S.1 S.2.1 dMod_alike_34 rfl (lv_at hl 2 rfl) ?_
      obtain ⟨z35, hw⟩ := hw
      refine zr_ald S hK hP (by decide) (mF_8 _) 0 rfl z35 dMod_alike_35 ?_
      obtain ⟨z36, hw⟩ := hw
      refine zr_ald S hK hP (by decide) (mF_4 _) 0 rfl z36 dMod_alike_36 ?_
      refine zr_i (zr_T (As := [.int (h 4 (Int32.toNatClampNeg (h 8 (Int32.toNatClampNeg v2))))]) (rest := [.int v4]) S hK hT hN hP hS (cMod_arity l D cI cC cE ad A hJ _ _ _ hw) caMod_122 ⟨Nat.le_of_ble_eq_true rfl, Nat.le_of_ble_eq_true rfl⟩ ⟨rfl, rfl⟩ rfl hl.1 rfl (Nat.le_of_ble_eq_true rfl) dMod_alike_37) hS (fun r37 h37 H locs hw hP hS => ?_)
      refine lv_icmp_ge S.1 S.2.1 dMod_alike_40 rfl (fun hc => ?_) (fun hc => ?_)
      · have hw := hw.1 hc
        refine lv_iload_n S.1 S.2.1 dMod_alike_109 rfl (lv_at hl 3 rfl) ?_
        exact zr_iret S hr hlk hK hP hS (zbn hw.1) hw.2 dMod_alike_110
      · have hw := hw.2 hc
        refine lv_iload_n S.1 S.2.1 dMod_alike_43 rfl (lv_at hl 3 rfl) ?_
        refine lv_if_eq S.1 S.2.1 dMod_alike_44 rfl (fun hc => ?_) (fun hc => ?_)
        · have hw := hw.1 hc
          refine lv_iload_n S.1 S.2.1 dMod_alike_109 rfl (lv_at hl 3 rfl) ?_
          exact zr_iret S hr hlk hK hP hS (zbn hw.1) hw.2 dMod_alike_110
        · have hw := hw.2 hc
          refine lv_aload_n S.1 S.2.1 dMod_alike_47 rfl (lv_at hl 0 rfl) ?_
          refine zr_get S hK hP (by decide) (mF_0 _) fMod_hows q848 rfl dMod_alike_48 ?_
          refine lv_iconst (v := 2) S.1 S.2.1 dMod_alike_51 (by decide) ?_
          refine lv_iload_n S.1 S.2.1 dMod_alike_52 rfl (lv_at hl 1 rfl) ?_
          refine lv_imul S.1 S.2.1 dMod_alike_53 ?_
          refine lv_iload S.1 S.2.1 dMod_alike_54 (lv_at hl 4 rfl) ?_
          refine lv_iadd S.1 S.2.1 dMod_alike_56 ?_
          obtain ⟨z57, hw⟩ := hw
          refine zr_ald S hK hP (by decide) (mF_15 _) 0 rfl z57 dMod_alike_57 ?_
          refine lv_aload_n S.1 S.2.1 dMod_alike_58 rfl (lv_at hl 0 rfl) ?_
          refine zr_get S hK hP (by decide) (mF_0 _) fMod_how q841 rfl dMod_alike_59 ?_
          refine lv_iconst (v := 2) S.1 S.2.1 dMod_alike_62 (by decide) ?_
          refine lv_iload_n S.1 S.2.1 dMod_alike_63 rfl (lv_at hl 2 rfl) ?_
          refine lv_imul S.1 S.2.1 dMod_alike_64 ?_
          refine lv_iload S.1 S.2.1 dMod_alike_65 (lv_at hl 4 rfl) ?_
          refine lv_iadd S.1 S.2.1 dMod_alike_67 ?_
          obtain ⟨z68, hw⟩ := hw
          refine zr_ald S hK hP (by decide) (mF_9 _) 0 rfl z68 dMod_alike_68 ?_
          refine lv_icmp_ne S.1 S.2.1 dMod_alike_69 rfl (fun hc => ?_) (fun hc => ?_)
          · have hw := hw.1 hc
            exact J101 _ _ _ _ _ _ _ hw (lv_sub hl [0, 1, 2, 4] rfl) hP hS
          · have hw := hw.2 hc
            refine lv_aload_n S.1 S.2.1 dMod_alike_72 rfl (lv_at hl 0 rfl) ?_
            refine zr_get S hK hP (by decide) (mF_0 _) fMod_args q849 rfl dMod_alike_73 ?_
            refine lv_iconst (v := 2) S.1 S.2.1 dMod_alike_76 (by decide) ?_
            refine lv_iload_n S.1 S.2.1 dMod_alike_77 rfl (lv_at hl 1 rfl) ?_
            refine lv_imul S.1 S.2.1 dMod_alike_78 ?_
            refine lv_iload S.1 S.2.1 dMod_alike_79 (lv_at hl 4 rfl) ?_
            refine lv_iadd S.1 S.2.1 dMod_alike_81 ?_
            obtain ⟨z82, hw⟩ := hw
            refine zr_ald S hK hP (by decide) (mF_16 _) 0 rfl z82 dMod_alike_82 ?_
            refine lv_aload_n S.1 S.2.1 dMod_alike_83 rfl (lv_at hl 0 rfl) ?_
            refine zr_get S hK hP (by decide) (mF_0 _) fMod_arg q842 rfl dMod_alike_84 ?_
            refine lv_iconst (v := 2) S.1 S.2.1 dMod_alike_87 (by decide) ?_
            refine lv_iload_n S.1 S.2.1 dMod_alike_88 rfl (lv_at hl 2 rfl) ?_
            refine lv_imul S.1 S.2.1 dMod_alike_89 ?_
            refine lv_iload S.1 S.2.1 dMod_alike_90 (lv_at hl 4 rfl) ?_
            refine lv_iadd S.1 S.2.1 dMod_alike_92 ?_
            obtain ⟨z93, hw⟩ := hw
            refine zr_ald S hK hP (by decide) (mF_10 _) 0 rfl z93 dMod_alike_93 ?_
            refine lv_icmp_ne S.1 S.2.1 dMod_alike_94 rfl (fun hc => ?_) (fun hc => ?_)
            · have hw := hw.1 hc
              exact J101 _ _ _ _ _ _ _ hw (lv_sub hl [0, 1, 2, 4] rfl) hP hS
            · have hw := hw.2 hc
              refine lv_iconst (v := 1) S.1 S.2.1 dMod_alike_97 (by decide) ?_
              refine lv_goto S.1 S.2.1 dMod_alike_98 rfl ?_
              exact J102 _ _ _ _ _ _ _ _ hw (lv_sub hl [0, 1, 2, 4] rfl) hP hS
  have J20 : ∀ (v1 : Int32) (v2 : Int32) (k0 : Int32) (h : zM) (H : Heap) (locs : List Loc) (ls : Array Slot), wbMod_alike_20 post v1 v2 k0 h → lv_has ls 5 [(0, .ref (ad 0)), (1, .int v1), (2, .int v2)] → va_P D zcl (zW 28 ad (mF ad cI) h) H → va_S A s.heap H locs → W p l e rmMod_alike s m ([.ref (ad 0), .int x1, .int x2] : List Value).toArray below meth c H locs 0 0 (zQi post D (zty cI cC cE) 28 ad (mF ad cI) A below ([.ref (ad 0), .int x1, .int x2] : List Value).toArray s) (F0 m 20 ls [.int k0]) := by
    intro v1 v2 k0 h H locs ls hw hl hP hS
    unfold wbMod_alike_20 at hw
    refine lv_istore_n (lv' := [(3, .int k0), (0, .ref (ad 0)), (1, .int v1), (2, .int v2)]) S.1 S.2.1 dMod_alike_20 rfl hl (by decide) rfl (fun ls hl => ?_)
    refine lv_iconst (v := 0) S.1 S.2.1 dMod_alike_21 (by decide) ?_
    refine lv_istore (lv' := [(4, .int 0), (3, .int k0), (0, .ref (ad 0)), (1, .int v1), (2, .int v2)]) S.1 S.2.1 dMod_alike_22 hl (by decide) rfl (fun ls hl => ?_)
    obtain ⟨fu, hw⟩ := hw
    exact J24 fu _ _ _ _ _ _ _ _ hw (lv_sub hl [2, 3, 4, 1, 0] rfl) hP hS
  unfold wpMod_alike at hw
  refine lv_aload_n S.1 S.2.1 dMod_alike_0 rfl (lv_at hl 0 rfl) ?_
  refine zr_get S hK hP (by decide) (mF_0 _) fMod_ops q847 rfl dMod_alike_1 ?_
  refine lv_iload_n S.1 S.2.1 dMod_alike_4 rfl (lv_at hl 1 rfl) ?_
  obtain ⟨z5, hw⟩ := hw
  refine zr_ald S hK hP (by decide) (mF_14 _) 0 rfl z5 dMod_alike_5 ?_
  refine lv_aload_n S.1 S.2.1 dMod_alike_6 rfl (lv_at hl 0 rfl) ?_
  refine zr_get S hK hP (by decide) (mF_0 _) fMod_op q840 rfl dMod_alike_7 ?_
  refine lv_iload_n S.1 S.2.1 dMod_alike_10 rfl (lv_at hl 2 rfl) ?_
  obtain ⟨z11, hw⟩ := hw
  refine zr_ald S hK hP (by decide) (mF_8 _) 0 rfl z11 dMod_alike_11 ?_
  refine lv_icmp_ne S.1 S.2.1 dMod_alike_12 rfl (fun hc => ?_) (fun hc => ?_)
  · have hw := hw.1 hc
    refine lv_iconst (v := 0) S.1 S.2.1 dMod_alike_19 (by decide) ?_
    exact J20 _ _ _ _ _ _ _ hw (lv_sub hl [0, 1, 2] rfl) hP hS
  · have hw := hw.2 hc
    refine lv_iconst (v := 1) S.1 S.2.1 dMod_alike_15 (by decide) ?_
    refine lv_goto S.1 S.2.1 dMod_alike_16 rfl ?_
    exact J20 _ _ _ _ _ _ _ hw (lv_sub hl [0, 1, 2] rfl) hP hS
/-! Mod.known -/
theorem dMod_known_0 : decode bMod_known 0 = .ok (.iconst 0, 1) := by decide +kernel
theorem dMod_known_1 : decode bMod_known 1 = .ok (.istore_n 1, 1) := by decide +kernel
theorem dMod_known_2 : decode bMod_known 2 = .ok (.iconst 0, 1) := by decide +kernel
theorem dMod_known_3 : decode bMod_known 3 = .ok (.istore_n 2, 1) := by decide +kernel
theorem dMod_known_4 : decode bMod_known 4 = .ok (.iload_n 2, 1) := by decide +kernel
theorem dMod_known_5 : decode bMod_known 5 = .ok (.aload_n 0, 1) := by decide +kernel
theorem dMod_known_6 : decode bMod_known 6 = .ok (.getfield 191, 3) := by decide +kernel
theorem dMod_known_9 : decode bMod_known 9 = .ok (.if_icmp .ge 78, 3) := by decide +kernel
theorem dMod_known_12 : decode bMod_known 12 = .ok (.aload_n 0, 1) := by decide +kernel
theorem dMod_known_13 : decode bMod_known 13 = .ok (.getfield 50, 3) := by decide +kernel
theorem dMod_known_16 : decode bMod_known 16 = .ok (.iload_n 2, 1) := by decide +kernel
theorem dMod_known_17 : decode bMod_known 17 = .ok (.iaload, 1) := by decide +kernel
theorem dMod_known_18 : decode bMod_known 18 = .ok (.aload_n 0, 1) := by decide +kernel
theorem dMod_known_19 : decode bMod_known 19 = .ok (.getfield 156, 3) := by decide +kernel
theorem dMod_known_22 : decode bMod_known 22 = .ok (.if_icmp .ne 7, 3) := by decide +kernel
theorem dMod_known_25 : decode bMod_known 25 = .ok (.iconst 1, 1) := by decide +kernel
theorem dMod_known_26 : decode bMod_known 26 = .ok (.goto 4, 3) := by decide +kernel
theorem dMod_known_29 : decode bMod_known 29 = .ok (.iconst 0, 1) := by decide +kernel
theorem dMod_known_30 : decode bMod_known 30 = .ok (.istore_n 3, 1) := by decide +kernel
theorem dMod_known_31 : decode bMod_known 31 = .ok (.iconst 0, 1) := by decide +kernel
theorem dMod_known_32 : decode bMod_known 32 = .ok (.istore 4, 2) := by decide +kernel
theorem dMod_known_34 : decode bMod_known 34 = .ok (.iload 4, 2) := by decide +kernel
theorem dMod_known_36 : decode bMod_known 36 = .ok (.aload_n 0, 1) := by decide +kernel
theorem dMod_known_37 : decode bMod_known 37 = .ok (.getfield 156, 3) := by decide +kernel
theorem dMod_known_40 : decode bMod_known 40 = .ok (.if_icmp .ge 27, 3) := by decide +kernel
theorem dMod_known_43 : decode bMod_known 43 = .ok (.iload_n 3, 1) := by decide +kernel
theorem dMod_known_44 : decode bMod_known 44 = .ok (.ifCond .eq 23, 3) := by decide +kernel
theorem dMod_known_47 : decode bMod_known 47 = .ok (.aload_n 0, 1) := by decide +kernel
theorem dMod_known_48 : decode bMod_known 48 = .ok (.bipush 10, 2) := by decide +kernel
theorem dMod_known_50 : decode bMod_known 50 = .ok (.iload_n 2, 1) := by decide +kernel
theorem dMod_known_51 : decode bMod_known 51 = .ok (.imul, 1) := by decide +kernel
theorem dMod_known_52 : decode bMod_known 52 = .ok (.iload 4, 2) := by decide +kernel
theorem dMod_known_54 : decode bMod_known 54 = .ok (.iadd, 1) := by decide +kernel
theorem dMod_known_55 : decode bMod_known 55 = .ok (.iload 4, 2) := by decide +kernel
theorem dMod_known_57 : decode bMod_known 57 = .ok (.invokevirtual 201, 3) := by decide +kernel
theorem dMod_known_60 : decode bMod_known 60 = .ok (.istore_n 3, 1) := by decide +kernel
theorem dMod_known_61 : decode bMod_known 61 = .ok (.iinc 4 1, 3) := by decide +kernel
theorem dMod_known_64 : decode bMod_known 64 = .ok (.goto (-30), 3) := by decide +kernel
theorem dMod_known_67 : decode bMod_known 67 = .ok (.iload_n 1, 1) := by decide +kernel
theorem dMod_known_68 : decode bMod_known 68 = .ok (.ifCond .ne 7, 3) := by decide +kernel
theorem dMod_known_71 : decode bMod_known 71 = .ok (.iload_n 3, 1) := by decide +kernel
theorem dMod_known_72 : decode bMod_known 72 = .ok (.ifCond .eq 7, 3) := by decide +kernel
theorem dMod_known_75 : decode bMod_known 75 = .ok (.iconst 1, 1) := by decide +kernel
theorem dMod_known_76 : decode bMod_known 76 = .ok (.goto 4, 3) := by decide +kernel
theorem dMod_known_79 : decode bMod_known 79 = .ok (.iconst 0, 1) := by decide +kernel
theorem dMod_known_80 : decode bMod_known 80 = .ok (.istore_n 1, 1) := by decide +kernel
theorem dMod_known_81 : decode bMod_known 81 = .ok (.iinc 2 1, 3) := by decide +kernel
theorem dMod_known_84 : decode bMod_known 84 = .ok (.goto (-80), 3) := by decide +kernel
theorem dMod_known_87 : decode bMod_known 87 = .ok (.iload_n 1, 1) := by decide +kernel
theorem dMod_known_88 : decode bMod_known 88 = .ok (.ireturn, 1) := by decide +kernel
def wbMod_known_80 (post : Int32 → zM → Prop) (L4 : (Int32 × Int32 × zM) → Prop) (v2 : Int32) (k0 : Int32) (h : zM) : Prop := L4 (k0, (v2 + 1), h)
def wbMod_known_75 (post : Int32 → zM → Prop) (L4 : (Int32 × Int32 × zM) → Prop) (v2 : Int32) (h : zM) : Prop := wbMod_known_80 post L4 v2 1 h
def wbMod_known_67 (post : Int32 → zM → Prop) (L4 : (Int32 × Int32 × zM) → Prop) (v1 : Int32) (v2 : Int32) (v3 : Int32) (h : zM) : Prop := ((¬ v1 = 0 → wbMod_known_75 post L4 v2 h) ∧ (v1 = 0 → ((v3 = 0 → wbMod_known_80 post L4 v2 0 h) ∧ (¬ v3 = 0 → wbMod_known_75 post L4 v2 h))))
def stMod_known_34 (post : Int32 → zM → Prop) (L4 : (Int32 × Int32 × zM) → Prop) (L34 : (Int32 × Int32 × Int32 × Int32 × zM) → Prop) : (Int32 × Int32 × Int32 × Int32 × zM) → Prop := fun s => match s with
  | (v1, v2, v3, v4, h) => ((((h 0 11) ≤ v4) → wbMod_known_67 post L4 v1 v2 v3 h) ∧ (¬ ((h 0 11) ≤ v4) → ((v3 = 0 → wbMod_known_67 post L4 v1 v2 v3 h) ∧ (¬ v3 = 0 → wpMod_alike ((10 * v2) + v4) v4 h (fun r57 h57 => L34 (v1, v2, r57, (v4 + 1), h57))))))
def wbMod_known_30 (post : Int32 → zM → Prop) (L4 : (Int32 × Int32 × zM) → Prop) (v1 : Int32) (v2 : Int32) (k0 : Int32) (h : zM) : Prop := zL (stMod_known_34 post L4) (v1, v2, k0, 0, h)
def stMod_known_4 (post : Int32 → zM → Prop) (L4 : (Int32 × Int32 × zM) → Prop) : (Int32 × Int32 × zM) → Prop := fun s => match s with
  | (v1, v2, h) => ((((h 0 17) ≤ v2) → ((v1 = 0 ∨ v1 = 1) ∧ post v1 h)) ∧ (¬ ((h 0 17) ≤ v2) → (vp_in v2 41 ∧ ((¬ (h 13 (Int32.toNatClampNeg v2)) = (h 0 11) → wbMod_known_30 post L4 v1 v2 0 h) ∧ ((h 13 (Int32.toNatClampNeg v2)) = (h 0 11) → wbMod_known_30 post L4 v1 v2 1 h)))))
def wpMod_known (h : zM) (post : Int32 → zM → Prop) : Prop := zL (stMod_known_4 post) (0, 0, h)
abbrev rmMod_known : Room := { frames := 2, cells := 0, slots := 0, locals := 44 }
set_option maxHeartbeats 4000000 in
set_option maxRecDepth 100000 in
theorem cMod_known (l : Launch) (D : va_G) (cI cC cE : ClassId) (ad : Nat → Nat) (A : Nat → Prop) (hJ : zJ A 28 ad) (h : zM) (post : Int32 → zM → Prop) (hw : wpMod_known h post) : Met l yMod_known (.code yMod_known bMod_known 5 (some .boolean) :: zt) rmMod_known (va_Pc [.ref (ad 0)] (zPre D (zty cI cC cE) 28 ad (mF ad cI) A h)) (va_Qi post (zPst D (zty cI cC cE) 28 ad (mF ad cI)) A) 0 0 A := by
  refine Met.ofW (cc := bMod_known) (maxL := 5) (ret := (some .boolean)) (by decide) rfl ?_
  intro p e s m args below meth c s₁ B hml hv
  obtain ⟨rfl, hP, hK, hT, hN⟩ := hv
  have hr := B.returns
  have hlk := B.notSynchronized
  have S : zS p m c bMod_known 5 s _ "CallExplorerModel" := ⟨B.exec, B.bytes, hml, findClass_of_methodNamed B.named, fun w hw => atoms_spec (ws := .code yMod_known bMod_known 5 (some .boolean) :: zt) B.pre w (List.mem_cons_of_mem _ hw)⟩
  have hS : va_S A s.heap s.heap [] := va_S.rf
  have hl := lv_entry ([.ref (ad 0)]) (n := 5) (Nat.le_of_ble_eq_true rfl)
  rw [lg_entry_eq]
  generalize (lg_sl ([.ref (ad 0)]) ++ List.replicate (5 - (lg_sl ([.ref (ad 0)])).length) Slot.unset).toArray = ls at hl ⊢
  have hl : lv_has ls 5 [(0, .ref (ad 0))] := hl
  show W p l e rmMod_known s m ([.ref (ad 0)] : List Value).toArray below meth c s.heap [] 0 0 (zQi post D (zty cI cC cE) 28 ad (mF ad cI) A below ([.ref (ad 0)] : List Value).toArray s) _
  have J4 : ∀ (fu : Nat) (v1 : Int32) (v2 : Int32) (h : zM) (H : Heap) (locs : List Loc) (ls : Array Slot), zl (stMod_known_4 post) fu (v1, v2, h) → lv_has ls 5 [(0, .ref (ad 0)), (1, .int v1), (2, .int v2)] → va_P D zcl (zW 28 ad (mF ad cI) h) H → va_S A s.heap H locs → W p l e rmMod_known s m ([.ref (ad 0)] : List Value).toArray below meth c H locs 0 0 (zQi post D (zty cI cC cE) 28 ad (mF ad cI) A below ([.ref (ad 0)] : List Value).toArray s) (F0 m 4 ls []) := by
    intro fu4
    induction fu4 with
    | zero =>
      intro v1 v2 h H locs ls hw
      exact (zl_0 hw).elim
    | succ fu4 ih4 =>
      intro v1 v2 h H locs ls hw hl hP hS
      have hw := zl_s hw
      generalize zl (stMod_known_4 post) fu4 = L4 at hw ih4
      have J80 : ∀ (v2 : Int32) (k0 : Int32) (h : zM) (H : Heap) (locs : List Loc) (ls : Array Slot), wbMod_known_80 post L4 v2 k0 h → lv_has ls 5 [(0, .ref (ad 0)), (2, .int v2)] → va_P D zcl (zW 28 ad (mF ad cI) h) H → va_S A s.heap H locs → W p l e rmMod_known s m ([.ref (ad 0)] : List Value).toArray below meth c H locs 0 0 (zQi post D (zty cI cC cE) 28 ad (mF ad cI) A below ([.ref (ad 0)] : List Value).toArray s) (F0 m 80 ls [.int k0]) := by
        intro v2 k0 h H locs ls hw hl hP hS
        unfold wbMod_known_80 at hw
        refine lv_istore_n (lv' := [(1, .int k0), (0, .ref (ad 0)), (2, .int v2)]) S.1 S.2.1 dMod_known_80 rfl hl (by decide) rfl (fun ls hl => ?_)
        refine lv_iinc (v := (v2 + 1)) (lv' := [(2, .int (v2 + 1)), (1, .int k0), (0, .ref (ad 0))]) (k := 2) S.1 S.2.1 dMod_known_81 hl rfl rfl (by decide) rfl (fun ls hl => ?_)
        refine lv_goto S.1 S.2.1 dMod_known_84 rfl ?_
        exact ih4 _ _ _ _ _ _ hw (lv_sub hl [2, 1, 0] rfl) hP hS
      have J75 : ∀ (v2 : Int32) (h : zM) (H : Heap) (locs : List Loc) (ls : Array Slot), wbMod_known_75 post L4 v2 h → lv_has ls 5 [(0, .ref (ad 0)), (2, .int v2)] → va_P D zcl (zW 28 ad (mF ad cI) h) H → va_S A s.heap H locs → W p l e rmMod_known s m ([.ref (ad 0)] : List Value).toArray below meth c H locs 0 0 (zQi post D (zty cI cC cE) 28 ad (mF ad cI) A below ([.ref (ad 0)] : List Value).toArray s) (F0 m 75 ls []) := by
        intro v2 h H locs ls hw hl hP hS
        unfold wbMod_known_75 at hw
        refine lv_iconst (v := 1) S.1 S.2.1 dMod_known_75 (by decide) ?_
        refine lv_goto S.1 S.2.1 dMod_known_76 rfl ?_
        exact J80 _ _ _ _ _ _ hw (lv_sub hl [0, 1] rfl) hP hS
      have J67 : ∀ (v1 : Int32) (v2 : Int32) (v3 : Int32) (h : zM) (H : Heap) (locs : List Loc) (ls : Array Slot), wbMod_known_67 post L4 v1 v2 v3 h → lv_has ls 5 [(0, .ref (ad 0)), (1, .int v1), (2, .int v2), (3, .int v3)] → va_P D zcl (zW 28 ad (mF ad cI) h) H → va_S A s.heap H locs → W p l e rmMod_known s m ([.ref (ad 0)] : List Value).toArray below meth c H locs 0 0 (zQi post D (zty cI cC cE) 28 ad (mF ad cI) A below ([.ref (ad 0)] : List Value).toArray s) (F0 m 67 ls []) := by
        intro v1 v2 v3 h H locs ls hw hl hP hS
        unfold wbMod_known_67 at hw
        refine lv_iload_n S.1 S.2.1 dMod_known_67 rfl (lv_at hl 1 rfl) ?_
        refine lv_if_ne S.1 S.2.1 dMod_known_68 rfl (fun hc => ?_) (fun hc => ?_)
        · have hw := hw.1 hc
          exact J75 _ _ _ _ _ hw (lv_sub hl [0, 2] rfl) hP hS
        · have hw := hw.2 hc
          refine lv_iload_n S.1 S.2.1 dMod_known_71 rfl (lv_at hl 3 rfl) ?_
          refine lv_if_eq S.1 S.2.1 dMod_known_72 rfl (fun hc => ?_) (fun hc => ?_)
          · have hw := hw.1 hc
            refine lv_iconst (v := 0) S.1 S.2.1 dMod_known_79 (by decide) ?_
            exact J80 _ _ _ _ _ _ hw (lv_sub hl [0, 2] rfl) hP hS
          · have hw := hw.2 hc
            exact J75 _ _ _ _ _ hw (lv_sub hl [0, 2] rfl) hP hS
      have J34 : ∀ (fu : Nat) (v1 : Int32) (v2 : Int32) (v3 : Int32) (v4 : Int32) (h : zM) (H : Heap) (locs : List Loc) (ls : Array Slot), zl (stMod_known_34 post L4) fu (v1, v2, v3, v4, h) → lv_has ls 5 [(0, .ref (ad 0)), (1, .int v1), (2, .int v2), (3, .int v3), (4, .int v4)] → va_P D zcl (zW 28 ad (mF ad cI) h) H → va_S A s.heap H locs → W p l e rmMod_known s m ([.ref (ad 0)] : List Value).toArray below meth c H locs 0 0 (zQi post D (zty cI cC cE) 28 ad (mF ad cI) A below ([.ref (ad 0)] : List Value).toArray s) (F0 m 34 ls []) := by
        intro fu34
        induction fu34 with
        | zero =>
          intro v1 v2 v3 v4 h H locs ls hw
          exact (zl_0 hw).elim
        | succ fu34 ih34 =>
          intro v1 v2 v3 v4 h H locs ls hw hl hP hS
          have hw := zl_s hw
          generalize zl (stMod_known_34 post L4) fu34 = L34 at hw ih34
          unfold stMod_known_34 at hw
          dsimp only at hw
          refine lv_iload S.1 S.2.1 dMod_known_34 (lv_at hl 4 rfl) ?_
          refine lv_aload_n S.1 S.2.1 dMod_known_36 rfl (lv_at hl 0 rfl) ?_
          refine zr_get S hK hP (by decide) (mF_0 _) fMod_size q839 rfl dMod_known_37 ?_
          refine lv_icmp_ge S.1 S.2.1 dMod_known_40 rfl (fun hc => ?_) (fun hc => ?_)
          · have hw := hw.1 hc
            exact J67 _ _ _ _ _ _ _ hw (lv_sub hl [0, 1, 2, 3] rfl) hP hS
          · have hw := hw.2 hc
            refine lv_iload_n S.1 S.2.1 dMod_known_43 rfl (lv_at hl 3 rfl) ?_
            refine lv_if_eq S.1 S.2.1 dMod_known_44 rfl (fun hc => ?_) (fun hc => ?_)
            · have hw := hw.1 hc
              exact J67 _ _ _ _ _ _ _ hw (lv_sub hl [0, 1, 2, 3] rfl) hP hS
            · have hw := hw.2 hc
              refine lv_aload_n S.1 S.2.1 dMod_known_47 rfl (lv_at hl 0 rfl) ?_
              refine lv_bipush (v := 10) S.1 S.2.1 dMod_known_48 (by decide) ?_
              refine lv_iload_n S.1 S.2.1 dMod_known_50 rfl (lv_at hl 2 rfl) ?_
              refine lv_imul S.1 S.2.1 dMod_known_51 ?_
              refine lv_iload S.1 S.2.1 dMod_known_52 (lv_at hl 4 rfl) ?_
              refine lv_iadd S.1 S.2.1 dMod_known_54 ?_
              refine lv_iload S.1 S.2.1 dMod_known_55 (lv_at hl 4 rfl) ?_
              refine zr_i (zr_V (As := [.int ((10 * v2) + v4), .int v4]) (rest := []) S hK hT hN hP hS (by decide) (mF_0 _) rfl (cMod_alike l D cI cC cE ad A hJ _ _ _ _ hw) caMod_201 ⟨Nat.le_of_ble_eq_true rfl, Nat.le_of_ble_eq_true rfl⟩ ⟨rfl, rfl⟩ rfl hl.1 rfl (Nat.le_of_ble_eq_true rfl) dMod_known_57) hS (fun r57 h57 H locs hw hP hS => ?_)
              refine lv_istore_n (lv' := [(3, .int r57), (0, .ref (ad 0)), (1, .int v1), (2, .int v2), (4, .int v4)]) S.1 S.2.1 dMod_known_60 rfl hl (by decide) rfl (fun ls hl => ?_)
              refine lv_iinc (v := (v4 + 1)) (lv' := [(4, .int (v4 + 1)), (3, .int r57), (0, .ref (ad 0)), (1, .int v1), (2, .int v2)]) (k := 4) S.1 S.2.1 dMod_known_61 hl rfl rfl (by decide) rfl (fun ls hl => ?_)
              refine lv_goto S.1 S.2.1 dMod_known_64 rfl ?_
              exact ih34 _ _ _ _ _ _ _ _ hw (lv_sub hl [2, 3, 4, 1, 0] rfl) hP hS
      have J30 : ∀ (v1 : Int32) (v2 : Int32) (k0 : Int32) (h : zM) (H : Heap) (locs : List Loc) (ls : Array Slot), wbMod_known_30 post L4 v1 v2 k0 h → lv_has ls 5 [(0, .ref (ad 0)), (1, .int v1), (2, .int v2)] → va_P D zcl (zW 28 ad (mF ad cI) h) H → va_S A s.heap H locs → W p l e rmMod_known s m ([.ref (ad 0)] : List Value).toArray below meth c H locs 0 0 (zQi post D (zty cI cC cE) 28 ad (mF ad cI) A below ([.ref (ad 0)] : List Value).toArray s) (F0 m 30 ls [.int k0]) := by
        intro v1 v2 k0 h H locs ls hw hl hP hS
        unfold wbMod_known_30 at hw
        refine lv_istore_n (lv' := [(3, .int k0), (0, .ref (ad 0)), (1, .int v1), (2, .int v2)]) S.1 S.2.1 dMod_known_30 rfl hl (by decide) rfl (fun ls hl => ?_)
        refine lv_iconst (v := 0) S.1 S.2.1 dMod_known_31 (by decide) ?_
        refine lv_istore (lv' := [(4, .int 0), (3, .int k0), (0, .ref (ad 0)), (1, .int v1), (2, .int v2)]) S.1 S.2.1 dMod_known_32 hl (by decide) rfl (fun ls hl => ?_)
        obtain ⟨fu, hw⟩ := hw
        exact J34 fu _ _ _ _ _ _ _ _ hw (lv_sub hl [2, 3, 4, 1, 0] rfl) hP hS
      unfold stMod_known_4 at hw
      dsimp only at hw
      refine lv_iload_n S.1 S.2.1 dMod_known_4 rfl (lv_at hl 2 rfl) ?_
      refine lv_aload_n S.1 S.2.1 dMod_known_5 rfl (lv_at hl 0 rfl) ?_
      refine zr_get S hK hP (by decide) (mF_0 _) fMod_entries q845 rfl dMod_known_6 ?_
      refine lv_icmp_ge S.1 S.2.1 dMod_known_9 rfl (fun hc => ?_) (fun hc => ?_)
      · have hw := hw.1 hc
        refine lv_iload_n S.1 S.2.1 dMod_known_87 rfl (lv_at hl 1 rfl) ?_
        exact zr_iret S hr hlk hK hP hS (zbn hw.1) hw.2 dMod_known_88
      · have hw := hw.2 hc
        refine lv_aload_n S.1 S.2.1 dMod_known_12 rfl (lv_at hl 0 rfl) ?_
        refine zr_get S hK hP (by decide) (mF_0 _) fMod_sizes q846 rfl dMod_known_13 ?_
        refine lv_iload_n S.1 S.2.1 dMod_known_16 rfl (lv_at hl 2 rfl) ?_
        obtain ⟨z17, hw⟩ := hw
        refine zr_ald S hK hP (by decide) (mF_13 _) 0 rfl z17 dMod_known_17 ?_
        refine lv_aload_n S.1 S.2.1 dMod_known_18 rfl (lv_at hl 0 rfl) ?_
        refine zr_get S hK hP (by decide) (mF_0 _) fMod_size q839 rfl dMod_known_19 ?_
        refine lv_icmp_ne S.1 S.2.1 dMod_known_22 rfl (fun hc => ?_) (fun hc => ?_)
        · have hw := hw.1 hc
          refine lv_iconst (v := 0) S.1 S.2.1 dMod_known_29 (by decide) ?_
          exact J30 _ _ _ _ _ _ _ hw (lv_sub hl [0, 1, 2] rfl) hP hS
        · have hw := hw.2 hc
          refine lv_iconst (v := 1) S.1 S.2.1 dMod_known_25 (by decide) ?_
          refine lv_goto S.1 S.2.1 dMod_known_26 rfl ?_
          exact J30 _ _ _ _ _ _ _ hw (lv_sub hl [0, 1, 2] rfl) hP hS
  unfold wpMod_known at hw
  refine lv_iconst (v := 0) S.1 S.2.1 dMod_known_0 (by decide) ?_
  refine lv_istore_n (lv' := [(1, .int 0), (0, .ref (ad 0))]) S.1 S.2.1 dMod_known_1 rfl hl (by decide) rfl (fun ls hl => ?_)
  refine lv_iconst (v := 0) S.1 S.2.1 dMod_known_2 (by decide) ?_
  refine lv_istore_n (lv' := [(2, .int 0), (1, .int 0), (0, .ref (ad 0))]) S.1 S.2.1 dMod_known_3 rfl hl (by decide) rfl (fun ls hl => ?_)
  obtain ⟨fu, hw⟩ := hw
  exact J4 fu _ _ _ _ _ _ hw (lv_sub hl [2, 1, 0] rfl) hP hS
/-! Mod.random -/
theorem dMod_random_0 : decode bMod_random 0 = .ok (.aload_n 0, 1) := by decide +kernel
theorem dMod_random_1 : decode bMod_random 1 = .ok (.ldc 204, 2) := by decide +kernel
theorem dMod_random_3 : decode bMod_random 3 = .ok (.aload_n 0, 1) := by decide +kernel
theorem dMod_random_4 : decode bMod_random 4 = .ok (.getfield 95, 3) := by decide +kernel
theorem dMod_random_7 : decode bMod_random 7 = .ok (.imul, 1) := by decide +kernel
theorem dMod_random_8 : decode bMod_random 8 = .ok (.sipush 12345, 3) := by decide +kernel
theorem dMod_random_11 : decode bMod_random 11 = .ok (.iadd, 1) := by decide +kernel
theorem dMod_random_12 : decode bMod_random 12 = .ok (.putfield 95, 3) := by decide +kernel
theorem dMod_random_15 : decode bMod_random 15 = .ok (.aload_n 0, 1) := by decide +kernel
theorem dMod_random_16 : decode bMod_random 16 = .ok (.getfield 95, 3) := by decide +kernel
theorem dMod_random_19 : decode bMod_random 19 = .ok (.bipush 16, 2) := by decide +kernel
theorem dMod_random_21 : decode bMod_random 21 = .ok (.iushr, 1) := by decide +kernel
theorem dMod_random_22 : decode bMod_random 22 = .ok (.iload_n 1, 1) := by decide +kernel
theorem dMod_random_23 : decode bMod_random 23 = .ok (.irem, 1) := by decide +kernel
theorem dMod_random_24 : decode bMod_random 24 = .ok (.ireturn, 1) := by decide +kernel
def wpMod_random (x1 : Int32) (h : zM) (post : Int32 → zM → Prop) : Prop := ∀ h12 : zM, h12 = zu h 0 0 ((1103515245 * (h 0 0)) + 12345) → (¬ x1 = 0 ∧ post (((Int32.toUInt32 (h12 0 0) >>> (Int32.toUInt32 16 &&& Int32.toUInt32 31)).toInt32) - ((Int32.toUInt32 (h12 0 0) >>> (Int32.toUInt32 16 &&& Int32.toUInt32 31)).toInt32) / x1 * x1) h12)
abbrev rmMod_random : Room := { frames := 0, cells := 0, slots := 0, locals := 0 }
set_option maxHeartbeats 4000000 in
set_option maxRecDepth 100000 in
theorem cMod_random (l : Launch) (D : va_G) (cI cC cE : ClassId) (ad : Nat → Nat) (A : Nat → Prop) (hJ : zJ A 28 ad) (x1 : Int32) (h : zM) (post : Int32 → zM → Prop) (hw : wpMod_random x1 h post) : Met l yMod_random (.code yMod_random bMod_random 2 (some .int) :: zt) rmMod_random (va_Pc [.ref (ad 0), .int x1] (zPre D (zty cI cC cE) 28 ad (mF ad cI) A h)) (va_Qi post (zPst D (zty cI cC cE) 28 ad (mF ad cI)) A) 0 0 A := by
  refine Met.ofW (cc := bMod_random) (maxL := 2) (ret := (some .int)) (by decide) rfl ?_
  intro p e s m args below meth c s₁ B hml hv
  obtain ⟨rfl, hP, hK, hT, hN⟩ := hv
  have hr := B.returns
  have hlk := B.notSynchronized
  have S : zS p m c bMod_random 2 s _ "CallExplorerModel" := ⟨B.exec, B.bytes, hml, findClass_of_methodNamed B.named, fun w hw => atoms_spec (ws := .code yMod_random bMod_random 2 (some .int) :: zt) B.pre w (List.mem_cons_of_mem _ hw)⟩
  have hS : va_S A s.heap s.heap [] := va_S.rf
  have hl := lv_entry ([.ref (ad 0), .int x1]) (n := 2) (Nat.le_of_ble_eq_true rfl)
  rw [lg_entry_eq]
  generalize (lg_sl ([.ref (ad 0), .int x1]) ++ List.replicate (2 - (lg_sl ([.ref (ad 0), .int x1])).length) Slot.unset).toArray = ls at hl ⊢
  have hl : lv_has ls 2 [(0, .ref (ad 0)), (1, .int x1)] := hl
  show W p l e rmMod_random s m ([.ref (ad 0), .int x1] : List Value).toArray below meth c s.heap [] 0 0 (zQi post D (zty cI cC cE) 28 ad (mF ad cI) A below ([.ref (ad 0), .int x1] : List Value).toArray s) _
  unfold wpMod_random at hw
  refine lv_aload_n S.1 S.2.1 dMod_random_0 rfl (lv_at hl 0 rfl) ?_
  refine lv_ldc (v := 1103515245) S.1 S.2.1 S.2.2.2.1 (S.2.2.2.2 _ q985) dMod_random_1 ?_
  refine lv_aload_n S.1 S.2.1 dMod_random_3 rfl (lv_at hl 0 rfl) ?_
  refine zr_get S hK hP (by decide) (mF_0 _) fMod_state q828 rfl dMod_random_4 ?_
  refine lv_imul S.1 S.2.1 dMod_random_7 ?_
  refine lv_sipush (v := 12345) S.1 S.2.1 dMod_random_8 (by decide) ?_
  refine lv_iadd S.1 S.2.1 dMod_random_11 ?_
  refine zr_put S hK hJ hP hS (by decide) (mF_0 _) fMod_state q828 rfl rfl (Nat.le_of_ble_eq_true rfl) (mF_0 _) dMod_random_12 (fun h12 H locs e12 hP hS => ?_)
  have hw := hw h12 e12
  refine lv_aload_n S.1 S.2.1 dMod_random_15 rfl (lv_at hl 0 rfl) ?_
  refine zr_get S hK hP (by decide) (mF_0 _) fMod_state q828 rfl dMod_random_16 ?_
  refine lv_bipush (v := 16) S.1 S.2.1 dMod_random_19 (by decide) ?_
  refine lv_iushr S.1 S.2.1 dMod_random_21 rfl ?_
  refine lv_iload_n S.1 S.2.1 dMod_random_22 rfl (lv_at hl 1 rfl) ?_
  obtain ⟨z23, hw⟩ := hw
  refine lv_irem S.1 S.2.1 dMod_random_23 z23 ?_
  exact zr_iret S hr hlk hK hP hS rfl hw dMod_random_24
/-! Mod.offers -/
theorem dMod_offers_0 : decode bMod_offers 0 = .ok (.aload_n 0, 1) := by decide +kernel
theorem dMod_offers_1 : decode bMod_offers 1 = .ok (.getfield 62, 3) := by decide +kernel
theorem dMod_offers_4 : decode bMod_offers 4 = .ok (.iload_n 1, 1) := by decide +kernel
theorem dMod_offers_5 : decode bMod_offers 5 = .ok (.iaload, 1) := by decide +kernel
theorem dMod_offers_6 : decode bMod_offers 6 = .ok (.ifCond .ne 35, 3) := by decide +kernel
theorem dMod_offers_9 : decode bMod_offers 9 = .ok (.iload_n 2, 1) := by decide +kernel
theorem dMod_offers_10 : decode bMod_offers 10 = .ok (.ifCond .ne 14, 3) := by decide +kernel
theorem dMod_offers_13 : decode bMod_offers 13 = .ok (.aload_n 0, 1) := by decide +kernel
theorem dMod_offers_14 : decode bMod_offers 14 = .ok (.iload_n 1, 1) := by decide +kernel
theorem dMod_offers_15 : decode bMod_offers 15 = .ok (.invokevirtual 205, 3) := by decide +kernel
theorem dMod_offers_18 : decode bMod_offers 18 = .ok (.ifCond .ne 23, 3) := by decide +kernel
theorem dMod_offers_21 : decode bMod_offers 21 = .ok (.goto 16, 3) := by decide +kernel
theorem dMod_offers_24 : decode bMod_offers 24 = .ok (.aload_n 0, 1) := by decide +kernel
theorem dMod_offers_25 : decode bMod_offers 25 = .ok (.aload_n 0, 1) := by decide +kernel
theorem dMod_offers_26 : decode bMod_offers 26 = .ok (.iload_n 1, 1) := by decide +kernel
theorem dMod_offers_27 : decode bMod_offers 27 = .ok (.invokevirtual 205, 3) := by decide +kernel
theorem dMod_offers_30 : decode bMod_offers 30 = .ok (.iload_n 2, 1) := by decide +kernel
theorem dMod_offers_31 : decode bMod_offers 31 = .ok (.invokevirtual 138, 3) := by decide +kernel
theorem dMod_offers_34 : decode bMod_offers 34 = .ok (.ifCond .eq 7, 3) := by decide +kernel
theorem dMod_offers_37 : decode bMod_offers 37 = .ok (.iconst 1, 1) := by decide +kernel
theorem dMod_offers_38 : decode bMod_offers 38 = .ok (.goto 4, 3) := by decide +kernel
theorem dMod_offers_41 : decode bMod_offers 41 = .ok (.iconst 0, 1) := by decide +kernel
theorem dMod_offers_42 : decode bMod_offers 42 = .ok (.ireturn, 1) := by decide +kernel
def wpMod_offers (x1 : Int32) (x2 : Int32) (h : zM) (post : Int32 → zM → Prop) : Prop := (vp_in x1 41 ∧ ((¬ (h 17 (Int32.toNatClampNeg x1)) = 0 → post 0 h) ∧ ((h 17 (Int32.toNatClampNeg x1)) = 0 → ((¬ x2 = 0 → wpMod_typeOf x1 h (fun r27 h27 => wpMod_is r27 x2 h27 (fun r31 h31 => ((r31 = 0 → post 0 h31) ∧ (¬ r31 = 0 → post 1 h31))))) ∧ (x2 = 0 → wpMod_typeOf x1 h (fun r15 h15 => ((¬ r15 = 0 → post 0 h15) ∧ (r15 = 0 → post 1 h15))))))))
abbrev rmMod_offers : Room := { frames := 2, cells := 0, slots := 0, locals := 43 }
set_option maxHeartbeats 4000000 in
set_option maxRecDepth 100000 in
theorem cMod_offers (l : Launch) (D : va_G) (cI cC cE : ClassId) (ad : Nat → Nat) (A : Nat → Prop) (hJ : zJ A 28 ad) (x1 : Int32) (x2 : Int32) (h : zM) (post : Int32 → zM → Prop) (hw : wpMod_offers x1 x2 h post) : Met l yMod_offers (.code yMod_offers bMod_offers 3 (some .boolean) :: zt) rmMod_offers (va_Pc [.ref (ad 0), .int x1, .int x2] (zPre D (zty cI cC cE) 28 ad (mF ad cI) A h)) (va_Qi post (zPst D (zty cI cC cE) 28 ad (mF ad cI)) A) 0 0 A := by
  refine Met.ofW (cc := bMod_offers) (maxL := 3) (ret := (some .boolean)) (by decide) rfl ?_
  intro p e s m args below meth c s₁ B hml hv
  obtain ⟨rfl, hP, hK, hT, hN⟩ := hv
  have hr := B.returns
  have hlk := B.notSynchronized
  have S : zS p m c bMod_offers 3 s _ "CallExplorerModel" := ⟨B.exec, B.bytes, hml, findClass_of_methodNamed B.named, fun w hw => atoms_spec (ws := .code yMod_offers bMod_offers 3 (some .boolean) :: zt) B.pre w (List.mem_cons_of_mem _ hw)⟩
  have hS : va_S A s.heap s.heap [] := va_S.rf
  have hl := lv_entry ([.ref (ad 0), .int x1, .int x2]) (n := 3) (Nat.le_of_ble_eq_true rfl)
  rw [lg_entry_eq]
  generalize (lg_sl ([.ref (ad 0), .int x1, .int x2]) ++ List.replicate (3 - (lg_sl ([.ref (ad 0), .int x1, .int x2])).length) Slot.unset).toArray = ls at hl ⊢
  have hl : lv_has ls 3 [(0, .ref (ad 0)), (1, .int x1), (2, .int x2)] := hl
  show W p l e rmMod_offers s m ([.ref (ad 0), .int x1, .int x2] : List Value).toArray below meth c s.heap [] 0 0 (zQi post D (zty cI cC cE) 28 ad (mF ad cI) A below ([.ref (ad 0), .int x1, .int x2] : List Value).toArray s) _
  unfold wpMod_offers at hw
  refine lv_aload_n S.1 S.2.1 dMod_offers_0 rfl (lv_at hl 0 rfl) ?_
  refine zr_get S hK hP (by decide) (mF_0 _) fMod_outcome q850 rfl dMod_offers_1 ?_
  refine lv_iload_n S.1 S.2.1 dMod_offers_4 rfl (lv_at hl 1 rfl) ?_
  obtain ⟨z5, hw⟩ := hw
  refine zr_ald S hK hP (by decide) (mF_17 _) 0 rfl z5 dMod_offers_5 ?_
  refine lv_if_ne S.1 S.2.1 dMod_offers_6 rfl (fun hc => ?_) (fun hc => ?_)
  · have hw := hw.1 hc
    refine lv_iconst (v := 0) S.1 S.2.1 dMod_offers_41 (by decide) ?_
    exact zr_iret S hr hlk hK hP hS rfl hw dMod_offers_42
  · have hw := hw.2 hc
    refine lv_iload_n S.1 S.2.1 dMod_offers_9 rfl (lv_at hl 2 rfl) ?_
    refine lv_if_ne S.1 S.2.1 dMod_offers_10 rfl (fun hc => ?_) (fun hc => ?_)
    · have hw := hw.1 hc
      refine lv_aload_n S.1 S.2.1 dMod_offers_24 rfl (lv_at hl 0 rfl) ?_
      refine lv_aload_n S.1 S.2.1 dMod_offers_25 rfl (lv_at hl 0 rfl) ?_
      refine lv_iload_n S.1 S.2.1 dMod_offers_26 rfl (lv_at hl 1 rfl) ?_
      refine zr_i (zr_V (As := [.int x1]) (rest := [.ref (ad 0)]) S hK hT hN hP hS (by decide) (mF_0 _) rfl (cMod_typeOf l D cI cC cE ad A hJ _ _ _ hw) caMod_205 ⟨Nat.le_of_ble_eq_true rfl, Nat.le_of_ble_eq_true rfl⟩ ⟨rfl, rfl⟩ rfl hl.1 rfl (Nat.le_of_ble_eq_true rfl) dMod_offers_27) hS (fun r27 h27 H locs hw hP hS => ?_)
      refine lv_iload_n S.1 S.2.1 dMod_offers_30 rfl (lv_at hl 2 rfl) ?_
      refine zr_i (zr_V (As := [.int r27, .int x2]) (rest := []) S hK hT hN hP hS (by decide) (mF_0 _) rfl (cMod_is l D cI cC cE ad A hJ _ _ _ _ hw) caMod_138 ⟨Nat.le_of_ble_eq_true rfl, Nat.le_of_ble_eq_true rfl⟩ ⟨rfl, rfl⟩ rfl hl.1 rfl (Nat.le_of_ble_eq_true rfl) dMod_offers_31) hS (fun r31 h31 H locs hw hP hS => ?_)
      refine lv_if_eq S.1 S.2.1 dMod_offers_34 rfl (fun hc => ?_) (fun hc => ?_)
      · have hw := hw.1 hc
        refine lv_iconst (v := 0) S.1 S.2.1 dMod_offers_41 (by decide) ?_
        exact zr_iret S hr hlk hK hP hS rfl hw dMod_offers_42
      · have hw := hw.2 hc
        refine lv_iconst (v := 1) S.1 S.2.1 dMod_offers_37 (by decide) ?_
        refine lv_goto S.1 S.2.1 dMod_offers_38 rfl ?_
        exact zr_iret S hr hlk hK hP hS rfl hw dMod_offers_42
    · have hw := hw.2 hc
      refine lv_aload_n S.1 S.2.1 dMod_offers_13 rfl (lv_at hl 0 rfl) ?_
      refine lv_iload_n S.1 S.2.1 dMod_offers_14 rfl (lv_at hl 1 rfl) ?_
      refine zr_i (zr_V (As := [.int x1]) (rest := []) S hK hT hN hP hS (by decide) (mF_0 _) rfl (cMod_typeOf l D cI cC cE ad A hJ _ _ _ hw) caMod_205 ⟨Nat.le_of_ble_eq_true rfl, Nat.le_of_ble_eq_true rfl⟩ ⟨rfl, rfl⟩ rfl hl.1 rfl (Nat.le_of_ble_eq_true rfl) dMod_offers_15) hS (fun r15 h15 H locs hw hP hS => ?_)
      refine lv_if_ne S.1 S.2.1 dMod_offers_18 rfl (fun hc => ?_) (fun hc => ?_)
      · have hw := hw.1 hc
        refine lv_iconst (v := 0) S.1 S.2.1 dMod_offers_41 (by decide) ?_
        exact zr_iret S hr hlk hK hP hS rfl hw dMod_offers_42
      · have hw := hw.2 hc
        refine lv_goto S.1 S.2.1 dMod_offers_21 rfl ?_
        refine lv_iconst (v := 1) S.1 S.2.1 dMod_offers_37 (by decide) ?_
        refine lv_goto S.1 S.2.1 dMod_offers_38 rfl ?_
        exact zr_iret S hr hlk hK hP hS rfl hw dMod_offers_42
/-! Mod.offered -/
theorem dMod_offered_0 : decode bMod_offered 0 = .ok (.iconst 0, 1) := by decide +kernel
theorem dMod_offered_1 : decode bMod_offered 1 = .ok (.istore_n 2, 1) := by decide +kernel
theorem dMod_offered_2 : decode bMod_offered 2 = .ok (.iconst 0, 1) := by decide +kernel
theorem dMod_offered_3 : decode bMod_offered 3 = .ok (.istore_n 3, 1) := by decide +kernel
theorem dMod_offered_4 : decode bMod_offered 4 = .ok (.iload_n 3, 1) := by decide +kernel
theorem dMod_offered_5 : decode bMod_offered 5 = .ok (.aload_n 0, 1) := by decide +kernel
theorem dMod_offered_6 : decode bMod_offered 6 = .ok (.getfield 191, 3) := by decide +kernel
theorem dMod_offered_9 : decode bMod_offered 9 = .ok (.if_icmp .ge 26, 3) := by decide +kernel
theorem dMod_offered_12 : decode bMod_offered 12 = .ok (.iload_n 2, 1) := by decide +kernel
theorem dMod_offered_13 : decode bMod_offered 13 = .ok (.aload_n 0, 1) := by decide +kernel
theorem dMod_offered_14 : decode bMod_offered 14 = .ok (.iload_n 3, 1) := by decide +kernel
theorem dMod_offered_15 : decode bMod_offered 15 = .ok (.iload_n 1, 1) := by decide +kernel
theorem dMod_offered_16 : decode bMod_offered 16 = .ok (.invokevirtual 208, 3) := by decide +kernel
theorem dMod_offered_19 : decode bMod_offered 19 = .ok (.ifCond .eq 7, 3) := by decide +kernel
theorem dMod_offered_22 : decode bMod_offered 22 = .ok (.iconst 1, 1) := by decide +kernel
theorem dMod_offered_23 : decode bMod_offered 23 = .ok (.goto 4, 3) := by decide +kernel
theorem dMod_offered_26 : decode bMod_offered 26 = .ok (.iconst 0, 1) := by decide +kernel
theorem dMod_offered_27 : decode bMod_offered 27 = .ok (.iadd, 1) := by decide +kernel
theorem dMod_offered_28 : decode bMod_offered 28 = .ok (.istore_n 2, 1) := by decide +kernel
theorem dMod_offered_29 : decode bMod_offered 29 = .ok (.iinc 3 1, 3) := by decide +kernel
theorem dMod_offered_32 : decode bMod_offered 32 = .ok (.goto (-28), 3) := by decide +kernel
theorem dMod_offered_35 : decode bMod_offered 35 = .ok (.iload_n 2, 1) := by decide +kernel
theorem dMod_offered_36 : decode bMod_offered 36 = .ok (.ireturn, 1) := by decide +kernel
def wbMod_offered_27 (post : Int32 → zM → Prop) (L4 : (Int32 × Int32 × Int32 × zM) → Prop) (v1 : Int32) (v3 : Int32) (k0 : Int32) (k1 : Int32) (h : zM) : Prop := ∀ y28 : Int32, y28 = (k0 + k1) → L4 (v1, y28, (v3 + 1), h)
def stMod_offered_4 (post : Int32 → zM → Prop) (L4 : (Int32 × Int32 × Int32 × zM) → Prop) : (Int32 × Int32 × Int32 × zM) → Prop := fun s => match s with
  | (v1, v2, v3, h) => ((((h 0 17) ≤ v3) → post v2 h) ∧ (¬ ((h 0 17) ≤ v3) → wpMod_offers v3 v1 h (fun r16 h16 => ((r16 = 0 → wbMod_offered_27 post L4 v1 v3 v2 0 h16) ∧ (¬ r16 = 0 → wbMod_offered_27 post L4 v1 v3 v2 1 h16)))))
def wpMod_offered (x1 : Int32) (h : zM) (post : Int32 → zM → Prop) : Prop := zL (stMod_offered_4 post) (x1, 0, 0, h)
abbrev rmMod_offered : Room := { frames := 3, cells := 0, slots := 0, locals := 65 }
set_option maxHeartbeats 4000000 in
set_option maxRecDepth 100000 in
theorem cMod_offered (l : Launch) (D : va_G) (cI cC cE : ClassId) (ad : Nat → Nat) (A : Nat → Prop) (hJ : zJ A 28 ad) (x1 : Int32) (h : zM) (post : Int32 → zM → Prop) (hw : wpMod_offered x1 h post) : Met l yMod_offered (.code yMod_offered bMod_offered 4 (some .int) :: zt) rmMod_offered (va_Pc [.ref (ad 0), .int x1] (zPre D (zty cI cC cE) 28 ad (mF ad cI) A h)) (va_Qi post (zPst D (zty cI cC cE) 28 ad (mF ad cI)) A) 0 0 A := by
  refine Met.ofW (cc := bMod_offered) (maxL := 4) (ret := (some .int)) (by decide) rfl ?_
  intro p e s m args below meth c s₁ B hml hv
  obtain ⟨rfl, hP, hK, hT, hN⟩ := hv
  have hr := B.returns
  have hlk := B.notSynchronized
  have S : zS p m c bMod_offered 4 s _ "CallExplorerModel" := ⟨B.exec, B.bytes, hml, findClass_of_methodNamed B.named, fun w hw => atoms_spec (ws := .code yMod_offered bMod_offered 4 (some .int) :: zt) B.pre w (List.mem_cons_of_mem _ hw)⟩
  have hS : va_S A s.heap s.heap [] := va_S.rf
  have hl := lv_entry ([.ref (ad 0), .int x1]) (n := 4) (Nat.le_of_ble_eq_true rfl)
  rw [lg_entry_eq]
  generalize (lg_sl ([.ref (ad 0), .int x1]) ++ List.replicate (4 - (lg_sl ([.ref (ad 0), .int x1])).length) Slot.unset).toArray = ls at hl ⊢
  have hl : lv_has ls 4 [(0, .ref (ad 0)), (1, .int x1)] := hl
  show W p l e rmMod_offered s m ([.ref (ad 0), .int x1] : List Value).toArray below meth c s.heap [] 0 0 (zQi post D (zty cI cC cE) 28 ad (mF ad cI) A below ([.ref (ad 0), .int x1] : List Value).toArray s) _
  have J4 : ∀ (fu : Nat) (v1 : Int32) (v2 : Int32) (v3 : Int32) (h : zM) (H : Heap) (locs : List Loc) (ls : Array Slot), zl (stMod_offered_4 post) fu (v1, v2, v3, h) → lv_has ls 4 [(0, .ref (ad 0)), (1, .int v1), (2, .int v2), (3, .int v3)] → va_P D zcl (zW 28 ad (mF ad cI) h) H → va_S A s.heap H locs → W p l e rmMod_offered s m ([.ref (ad 0), .int x1] : List Value).toArray below meth c H locs 0 0 (zQi post D (zty cI cC cE) 28 ad (mF ad cI) A below ([.ref (ad 0), .int x1] : List Value).toArray s) (F0 m 4 ls []) := by
    intro fu4
    induction fu4 with
    | zero =>
      intro v1 v2 v3 h H locs ls hw
      exact (zl_0 hw).elim
    | succ fu4 ih4 =>
      intro v1 v2 v3 h H locs ls hw hl hP hS
      have hw := zl_s hw
      generalize zl (stMod_offered_4 post) fu4 = L4 at hw ih4
      have J27 : ∀ (v1 : Int32) (v3 : Int32) (k0 : Int32) (k1 : Int32) (h : zM) (H : Heap) (locs : List Loc) (ls : Array Slot), wbMod_offered_27 post L4 v1 v3 k0 k1 h → lv_has ls 4 [(0, .ref (ad 0)), (1, .int v1), (3, .int v3)] → va_P D zcl (zW 28 ad (mF ad cI) h) H → va_S A s.heap H locs → W p l e rmMod_offered s m ([.ref (ad 0), .int x1] : List Value).toArray below meth c H locs 0 0 (zQi post D (zty cI cC cE) 28 ad (mF ad cI) A below ([.ref (ad 0), .int x1] : List Value).toArray s) (F0 m 27 ls [.int k1, .int k0]) := by
        intro v1 v3 k0 k1 h H locs ls hw hl hP hS
        unfold wbMod_offered_27 at hw
        refine lv_iadd S.1 S.2.1 dMod_offered_27 ?_
        refine lv_topi (fun y28 e28 => ?_)
        have hw := hw y28 e28
        refine lv_istore_n (lv' := [(2, .int y28), (0, .ref (ad 0)), (1, .int v1), (3, .int v3)]) S.1 S.2.1 dMod_offered_28 rfl hl (by decide) rfl (fun ls hl => ?_)
        refine lv_iinc (v := (v3 + 1)) (lv' := [(3, .int (v3 + 1)), (2, .int y28), (0, .ref (ad 0)), (1, .int v1)]) (k := 3) S.1 S.2.1 dMod_offered_29 hl rfl rfl (by decide) rfl (fun ls hl => ?_)
        refine lv_goto S.1 S.2.1 dMod_offered_32 rfl ?_
        exact ih4 _ _ _ _ _ _ _ hw (lv_sub hl [2, 3, 1, 0] rfl) hP hS
      unfold stMod_offered_4 at hw
      dsimp only at hw
      refine lv_iload_n S.1 S.2.1 dMod_offered_4 rfl (lv_at hl 3 rfl) ?_
      refine lv_aload_n S.1 S.2.1 dMod_offered_5 rfl (lv_at hl 0 rfl) ?_
      refine zr_get S hK hP (by decide) (mF_0 _) fMod_entries q845 rfl dMod_offered_6 ?_
      refine lv_icmp_ge S.1 S.2.1 dMod_offered_9 rfl (fun hc => ?_) (fun hc => ?_)
      · have hw := hw.1 hc
        refine lv_iload_n S.1 S.2.1 dMod_offered_35 rfl (lv_at hl 2 rfl) ?_
        exact zr_iret S hr hlk hK hP hS rfl hw dMod_offered_36
      · have hw := hw.2 hc
        refine lv_iload_n S.1 S.2.1 dMod_offered_12 rfl (lv_at hl 2 rfl) ?_
        refine lv_aload_n S.1 S.2.1 dMod_offered_13 rfl (lv_at hl 0 rfl) ?_
        refine lv_iload_n S.1 S.2.1 dMod_offered_14 rfl (lv_at hl 3 rfl) ?_
        refine lv_iload_n S.1 S.2.1 dMod_offered_15 rfl (lv_at hl 1 rfl) ?_
        refine zr_i (zr_V (As := [.int v3, .int v1]) (rest := [.int v2]) S hK hT hN hP hS (by decide) (mF_0 _) rfl (cMod_offers l D cI cC cE ad A hJ _ _ _ _ hw) caMod_208 ⟨Nat.le_of_ble_eq_true rfl, Nat.le_of_ble_eq_true rfl⟩ ⟨rfl, rfl⟩ rfl hl.1 rfl (Nat.le_of_ble_eq_true rfl) dMod_offered_16) hS (fun r16 h16 H locs hw hP hS => ?_)
        refine lv_if_eq S.1 S.2.1 dMod_offered_19 rfl (fun hc => ?_) (fun hc => ?_)
        · have hw := hw.1 hc
          refine lv_iconst (v := 0) S.1 S.2.1 dMod_offered_26 (by decide) ?_
          exact J27 _ _ _ _ _ _ _ _ hw (lv_sub hl [0, 1, 3] rfl) hP hS
        · have hw := hw.2 hc
          refine lv_iconst (v := 1) S.1 S.2.1 dMod_offered_22 (by decide) ?_
          refine lv_goto S.1 S.2.1 dMod_offered_23 rfl ?_
          exact J27 _ _ _ _ _ _ _ _ hw (lv_sub hl [0, 1, 3] rfl) hP hS
  unfold wpMod_offered at hw
  refine lv_iconst (v := 0) S.1 S.2.1 dMod_offered_0 (by decide) ?_
  refine lv_istore_n (lv' := [(2, .int 0), (0, .ref (ad 0)), (1, .int x1)]) S.1 S.2.1 dMod_offered_1 rfl hl (by decide) rfl (fun ls hl => ?_)
  refine lv_iconst (v := 0) S.1 S.2.1 dMod_offered_2 (by decide) ?_
  refine lv_istore_n (lv' := [(3, .int 0), (2, .int 0), (0, .ref (ad 0)), (1, .int x1)]) S.1 S.2.1 dMod_offered_3 rfl hl (by decide) rfl (fun ls hl => ?_)
  obtain ⟨fu, hw⟩ := hw
  exact J4 fu _ _ _ _ _ _ _ hw (lv_sub hl [2, 3, 1, 0] rfl) hP hS
/-! Mod.take -/
theorem dMod_take_0 : decode bMod_take 0 = .ok (.iload_n 2, 1) := by decide +kernel
theorem dMod_take_1 : decode bMod_take 1 = .ok (.istore 4, 2) := by decide +kernel
theorem dMod_take_3 : decode bMod_take 3 = .ok (.iconst 0, 1) := by decide +kernel
theorem dMod_take_4 : decode bMod_take 4 = .ok (.istore 5, 2) := by decide +kernel
theorem dMod_take_6 : decode bMod_take 6 = .ok (.iload 5, 2) := by decide +kernel
theorem dMod_take_8 : decode bMod_take 8 = .ok (.aload_n 0, 1) := by decide +kernel
theorem dMod_take_9 : decode bMod_take 9 = .ok (.getfield 191, 3) := by decide +kernel
theorem dMod_take_12 : decode bMod_take 12 = .ok (.if_icmp .ge 44, 3) := by decide +kernel
theorem dMod_take_15 : decode bMod_take 15 = .ok (.aload_n 0, 1) := by decide +kernel
theorem dMod_take_16 : decode bMod_take 16 = .ok (.iload 5, 2) := by decide +kernel
theorem dMod_take_18 : decode bMod_take 18 = .ok (.iload_n 1, 1) := by decide +kernel
theorem dMod_take_19 : decode bMod_take 19 = .ok (.invokevirtual 208, 3) := by decide +kernel
theorem dMod_take_22 : decode bMod_take 22 = .ok (.ifCond .eq 8, 3) := by decide +kernel
theorem dMod_take_25 : decode bMod_take 25 = .ok (.iload 4, 2) := by decide +kernel
theorem dMod_take_27 : decode bMod_take 27 = .ok (.ifCond .eq 29, 3) := by decide +kernel
theorem dMod_take_30 : decode bMod_take 30 = .ok (.iload 4, 2) := by decide +kernel
theorem dMod_take_32 : decode bMod_take 32 = .ok (.aload_n 0, 1) := by decide +kernel
theorem dMod_take_33 : decode bMod_take 33 = .ok (.iload 5, 2) := by decide +kernel
theorem dMod_take_35 : decode bMod_take 35 = .ok (.iload_n 1, 1) := by decide +kernel
theorem dMod_take_36 : decode bMod_take 36 = .ok (.invokevirtual 208, 3) := by decide +kernel
theorem dMod_take_39 : decode bMod_take 39 = .ok (.ifCond .eq 7, 3) := by decide +kernel
theorem dMod_take_42 : decode bMod_take 42 = .ok (.iconst 1, 1) := by decide +kernel
theorem dMod_take_43 : decode bMod_take 43 = .ok (.goto 4, 3) := by decide +kernel
theorem dMod_take_46 : decode bMod_take 46 = .ok (.iconst 0, 1) := by decide +kernel
theorem dMod_take_47 : decode bMod_take 47 = .ok (.isub, 1) := by decide +kernel
theorem dMod_take_48 : decode bMod_take 48 = .ok (.istore 4, 2) := by decide +kernel
theorem dMod_take_50 : decode bMod_take 50 = .ok (.iinc 5 1, 3) := by decide +kernel
theorem dMod_take_53 : decode bMod_take 53 = .ok (.goto (-47), 3) := by decide +kernel
theorem dMod_take_56 : decode bMod_take 56 = .ok (.aload_n 0, 1) := by decide +kernel
theorem dMod_take_57 : decode bMod_take 57 = .ok (.getfield 156, 3) := by decide +kernel
theorem dMod_take_60 : decode bMod_take 60 = .ok (.istore 6, 2) := by decide +kernel
theorem dMod_take_62 : decode bMod_take 62 = .ok (.iconst 0, 1) := by decide +kernel
theorem dMod_take_63 : decode bMod_take 63 = .ok (.istore 7, 2) := by decide +kernel
theorem dMod_take_65 : decode bMod_take 65 = .ok (.iload 7, 2) := by decide +kernel
theorem dMod_take_67 : decode bMod_take 67 = .ok (.aload_n 0, 1) := by decide +kernel
theorem dMod_take_68 : decode bMod_take 68 = .ok (.getfield 50, 3) := by decide +kernel
theorem dMod_take_71 : decode bMod_take 71 = .ok (.iload 5, 2) := by decide +kernel
theorem dMod_take_73 : decode bMod_take 73 = .ok (.iaload, 1) := by decide +kernel
theorem dMod_take_74 : decode bMod_take 74 = .ok (.if_icmp .ge 88, 3) := by decide +kernel
theorem dMod_take_77 : decode bMod_take 77 = .ok (.aload_n 0, 1) := by decide +kernel
theorem dMod_take_78 : decode bMod_take 78 = .ok (.bipush 10, 2) := by decide +kernel
theorem dMod_take_80 : decode bMod_take 80 = .ok (.iload 5, 2) := by decide +kernel
theorem dMod_take_82 : decode bMod_take 82 = .ok (.imul, 1) := by decide +kernel
theorem dMod_take_83 : decode bMod_take 83 = .ok (.iload 7, 2) := by decide +kernel
theorem dMod_take_85 : decode bMod_take 85 = .ok (.iadd, 1) := by decide +kernel
theorem dMod_take_86 : decode bMod_take 86 = .ok (.aload_n 0, 1) := by decide +kernel
theorem dMod_take_87 : decode bMod_take 87 = .ok (.getfield 156, 3) := by decide +kernel
theorem dMod_take_90 : decode bMod_take 90 = .ok (.invokevirtual 184, 3) := by decide +kernel
theorem dMod_take_93 : decode bMod_take 93 = .ok (.iconst 2, 1) := by decide +kernel
theorem dMod_take_94 : decode bMod_take 94 = .ok (.aload_n 0, 1) := by decide +kernel
theorem dMod_take_95 : decode bMod_take 95 = .ok (.getfield 156, 3) := by decide +kernel
theorem dMod_take_98 : decode bMod_take 98 = .ok (.imul, 1) := by decide +kernel
theorem dMod_take_99 : decode bMod_take 99 = .ok (.istore 8, 2) := by decide +kernel
theorem dMod_take_101 : decode bMod_take 101 = .ok (.iload 8, 2) := by decide +kernel
theorem dMod_take_103 : decode bMod_take 103 = .ok (.iconst 2, 1) := by decide +kernel
theorem dMod_take_104 : decode bMod_take 104 = .ok (.aload_n 0, 1) := by decide +kernel
theorem dMod_take_105 : decode bMod_take 105 = .ok (.getfield 156, 3) := by decide +kernel
theorem dMod_take_108 : decode bMod_take 108 = .ok (.imul, 1) := by decide +kernel
theorem dMod_take_109 : decode bMod_take 109 = .ok (.iconst 2, 1) := by decide +kernel
theorem dMod_take_110 : decode bMod_take 110 = .ok (.iadd, 1) := by decide +kernel
theorem dMod_take_111 : decode bMod_take 111 = .ok (.if_icmp .ge 35, 3) := by decide +kernel
theorem dMod_take_114 : decode bMod_take 114 = .ok (.aload_n 0, 1) := by decide +kernel
theorem dMod_take_115 : decode bMod_take 115 = .ok (.getfield 41, 3) := by decide +kernel
theorem dMod_take_118 : decode bMod_take 118 = .ok (.iload 8, 2) := by decide +kernel
theorem dMod_take_120 : decode bMod_take 120 = .ok (.dup2, 1) := by decide +kernel
theorem dMod_take_121 : decode bMod_take 121 = .ok (.iaload, 1) := by decide +kernel
theorem dMod_take_122 : decode bMod_take 122 = .ok (.aload_n 0, 1) := by decide +kernel
theorem dMod_take_123 : decode bMod_take 123 = .ok (.getfield 38, 3) := by decide +kernel
theorem dMod_take_126 : decode bMod_take 126 = .ok (.iload 8, 2) := by decide +kernel
theorem dMod_take_128 : decode bMod_take 128 = .ok (.iaload, 1) := by decide +kernel
theorem dMod_take_129 : decode bMod_take 129 = .ok (.ifCond .ne 8, 3) := by decide +kernel
theorem dMod_take_132 : decode bMod_take 132 = .ok (.iload 6, 2) := by decide +kernel
theorem dMod_take_134 : decode bMod_take 134 = .ok (.goto 4, 3) := by decide +kernel
theorem dMod_take_137 : decode bMod_take 137 = .ok (.iconst 0, 1) := by decide +kernel
theorem dMod_take_138 : decode bMod_take 138 = .ok (.iadd, 1) := by decide +kernel
theorem dMod_take_139 : decode bMod_take 139 = .ok (.iastore, 1) := by decide +kernel
theorem dMod_take_140 : decode bMod_take 140 = .ok (.iinc 8 1, 3) := by decide +kernel
theorem dMod_take_143 : decode bMod_take 143 = .ok (.goto (-42), 3) := by decide +kernel
theorem dMod_take_146 : decode bMod_take 146 = .ok (.aload_n 0, 1) := by decide +kernel
theorem dMod_take_147 : decode bMod_take 147 = .ok (.dup, 1) := by decide +kernel
theorem dMod_take_148 : decode bMod_take 148 = .ok (.getfield 156, 3) := by decide +kernel
theorem dMod_take_151 : decode bMod_take 151 = .ok (.iconst 1, 1) := by decide +kernel
theorem dMod_take_152 : decode bMod_take 152 = .ok (.iadd, 1) := by decide +kernel
theorem dMod_take_153 : decode bMod_take 153 = .ok (.putfield 156, 3) := by decide +kernel
theorem dMod_take_156 : decode bMod_take 156 = .ok (.iinc 7 1, 3) := by decide +kernel
theorem dMod_take_159 : decode bMod_take 159 = .ok (.goto (-94), 3) := by decide +kernel
theorem dMod_take_162 : decode bMod_take 162 = .ok (.aload_n 0, 1) := by decide +kernel
theorem dMod_take_163 : decode bMod_take 163 = .ok (.getfield 44, 3) := by decide +kernel
theorem dMod_take_166 : decode bMod_take 166 = .ok (.iload_n 3, 1) := by decide +kernel
theorem dMod_take_167 : decode bMod_take 167 = .ok (.iconst 0, 1) := by decide +kernel
theorem dMod_take_168 : decode bMod_take 168 = .ok (.iastore, 1) := by decide +kernel
theorem dMod_take_169 : decode bMod_take 169 = .ok (.aload_n 0, 1) := by decide +kernel
theorem dMod_take_170 : decode bMod_take 170 = .ok (.getfield 47, 3) := by decide +kernel
theorem dMod_take_173 : decode bMod_take 173 = .ok (.iload_n 3, 1) := by decide +kernel
theorem dMod_take_174 : decode bMod_take 174 = .ok (.aload_n 0, 1) := by decide +kernel
theorem dMod_take_175 : decode bMod_take 175 = .ok (.getfield 156, 3) := by decide +kernel
theorem dMod_take_178 : decode bMod_take 178 = .ok (.iconst 1, 1) := by decide +kernel
theorem dMod_take_179 : decode bMod_take 179 = .ok (.isub, 1) := by decide +kernel
theorem dMod_take_180 : decode bMod_take 180 = .ok (.iastore, 1) := by decide +kernel
theorem dMod_take_181 : decode bMod_take 181 = .ok (.return_, 1) := by decide +kernel
def wbMod_take_138 (post : zM → Prop) (L65 : (Int32 × Int32 × Int32 × Int32 × zM) → Prop) (L101 : (Int32 × Int32 × Int32 × Int32 × Int32 × zM) → Prop) (v3 : Int32) (v5 : Int32) (v6 : Int32) (v7 : Int32) (v8 : Int32) (k1 : Int32) (k2 : Int32) (k3 : Int32) (h : zM) : Prop := (vp_in k1 40 ∧ ∀ h139 : zM, h139 = zu h 10 (Int32.toNatClampNeg k1) (k2 + k3) → L101 (v3, v5, v6, v7, (v8 + 1), h139))
def stMod_take_101 (post : zM → Prop) (L65 : (Int32 × Int32 × Int32 × Int32 × zM) → Prop) (L101 : (Int32 × Int32 × Int32 × Int32 × Int32 × zM) → Prop) : (Int32 × Int32 × Int32 × Int32 × Int32 × zM) → Prop := fun s => match s with
  | (v3, v5, v6, v7, v8, h) => (((((2 * (h 0 11)) + 2) ≤ v8) → ∀ h153 : zM, h153 = zu h 0 11 ((h 0 11) + 1) → L65 (v3, v5, v6, (v7 + 1), h153)) ∧ (¬ (((2 * (h 0 11)) + 2) ≤ v8) → (vp_in v8 40 ∧ (vp_in v8 40 ∧ ((¬ (h 9 (Int32.toNatClampNeg v8)) = 0 → wbMod_take_138 post L65 L101 v3 v5 v6 v7 v8 v8 (h 10 (Int32.toNatClampNeg v8)) 0 h) ∧ ((h 9 (Int32.toNatClampNeg v8)) = 0 → wbMod_take_138 post L65 L101 v3 v5 v6 v7 v8 v8 (h 10 (Int32.toNatClampNeg v8)) v6 h))))))
def stMod_take_65 (post : zM → Prop) (L65 : (Int32 × Int32 × Int32 × Int32 × zM) → Prop) : (Int32 × Int32 × Int32 × Int32 × zM) → Prop := fun s => match s with
  | (v3, v5, v6, v7, h) => (vp_in v5 41 ∧ ((((h 13 (Int32.toNatClampNeg v5)) ≤ v7) → (vp_in v3 2 ∧ ∀ h168 : zM, h168 = zu h 11 (Int32.toNatClampNeg v3) 0 → (vp_in v3 2 ∧ ∀ h180 : zM, h180 = zu h168 12 (Int32.toNatClampNeg v3) ((h168 0 11) - 1) → post h180))) ∧ (¬ ((h 13 (Int32.toNatClampNeg v5)) ≤ v7) → wpMod_copyFrom ((10 * v5) + v7) (h 0 11) h (fun h90 => ∀ y99 : Int32, y99 = (2 * (h90 0 11)) → zL (stMod_take_101 post L65) (v3, v5, v6, v7, y99, h90)))))
def wbMod_take_56 (post : zM → Prop) (v3 : Int32) (v5 : Int32) (h : zM) : Prop := ∀ y60 : Int32, y60 = (h 0 11) → zL (stMod_take_65 post) (v3, v5, y60, 0, h)
def wbMod_take_47 (post : zM → Prop) (L6 : (Int32 × Int32 × Int32 × Int32 × zM) → Prop) (v1 : Int32) (v3 : Int32) (v5 : Int32) (k0 : Int32) (k1 : Int32) (h : zM) : Prop := ∀ y48 : Int32, y48 = (k0 - k1) → L6 (v1, v3, y48, (v5 + 1), h)
def wbMod_take_30 (post : zM → Prop) (L6 : (Int32 × Int32 × Int32 × Int32 × zM) → Prop) (v1 : Int32) (v3 : Int32) (v4 : Int32) (v5 : Int32) (h : zM) : Prop := wpMod_offers v5 v1 h (fun r36 h36 => ((r36 = 0 → wbMod_take_47 post L6 v1 v3 v5 v4 0 h36) ∧ (¬ r36 = 0 → wbMod_take_47 post L6 v1 v3 v5 v4 1 h36)))
def stMod_take_6 (post : zM → Prop) (L6 : (Int32 × Int32 × Int32 × Int32 × zM) → Prop) : (Int32 × Int32 × Int32 × Int32 × zM) → Prop := fun s => match s with
  | (v1, v3, v4, v5, h) => ((((h 0 17) ≤ v5) → wbMod_take_56 post v3 v5 h) ∧ (¬ ((h 0 17) ≤ v5) → wpMod_offers v5 v1 h (fun r19 h19 => ((r19 = 0 → wbMod_take_30 post L6 v1 v3 v4 v5 h19) ∧ (¬ r19 = 0 → ((v4 = 0 → wbMod_take_56 post v3 v5 h19) ∧ (¬ v4 = 0 → wbMod_take_30 post L6 v1 v3 v4 v5 h19)))))))
def wpMod_take (x1 : Int32) (x2 : Int32) (x3 : Int32) (h : zM) (post : zM → Prop) : Prop := zL (stMod_take_6 post) (x1, x3, x2, 0, h)
abbrev rmMod_take : Room := { frames := 3, cells := 0, slots := 0, locals := 65 }
set_option maxHeartbeats 4000000 in
set_option maxRecDepth 100000 in
theorem cMod_take (l : Launch) (D : va_G) (cI cC cE : ClassId) (ad : Nat → Nat) (A : Nat → Prop) (hJ : zJ A 28 ad) (x1 : Int32) (x2 : Int32) (x3 : Int32) (h : zM) (post : zM → Prop) (hw : wpMod_take x1 x2 x3 h post) : Met l yMod_take (.code yMod_take bMod_take 9 none :: zt) rmMod_take (va_Pc [.ref (ad 0), .int x1, .int x2, .int x3] (zPre D (zty cI cC cE) 28 ad (mF ad cI) A h)) (va_Qv post (zPst D (zty cI cC cE) 28 ad (mF ad cI)) A) 0 0 A := by
  refine Met.ofW (cc := bMod_take) (maxL := 9) (ret := none) (by decide) rfl ?_
  intro p e s m args below meth c s₁ B hml hv
  obtain ⟨rfl, hP, hK, hT, hN⟩ := hv
  have hr := B.returns
  have hlk := B.notSynchronized
  have S : zS p m c bMod_take 9 s _ "CallExplorerModel" := ⟨B.exec, B.bytes, hml, findClass_of_methodNamed B.named, fun w hw => atoms_spec (ws := .code yMod_take bMod_take 9 none :: zt) B.pre w (List.mem_cons_of_mem _ hw)⟩
  have hS : va_S A s.heap s.heap [] := va_S.rf
  have hl := lv_entry ([.ref (ad 0), .int x1, .int x2, .int x3]) (n := 9) (Nat.le_of_ble_eq_true rfl)
  rw [lg_entry_eq]
  generalize (lg_sl ([.ref (ad 0), .int x1, .int x2, .int x3]) ++ List.replicate (9 - (lg_sl ([.ref (ad 0), .int x1, .int x2, .int x3])).length) Slot.unset).toArray = ls at hl ⊢
  have hl : lv_has ls 9 [(0, .ref (ad 0)), (1, .int x1), (2, .int x2), (3, .int x3)] := hl
  show W p l e rmMod_take s m ([.ref (ad 0), .int x1, .int x2, .int x3] : List Value).toArray below meth c s.heap [] 0 0 (zQv post D (zty cI cC cE) 28 ad (mF ad cI) A below ([.ref (ad 0), .int x1, .int x2, .int x3] : List Value).toArray s) _
  have J65 : ∀ (fu : Nat) (v3 : Int32) (v5 : Int32) (v6 : Int32) (v7 : Int32) (h : zM) (H : Heap) (locs : List Loc) (ls : Array Slot), zl (stMod_take_65 post) fu (v3, v5, v6, v7, h) → lv_has ls 9 [(0, .ref (ad 0)), (3, .int v3), (5, .int v5), (6, .int v6), (7, .int v7)] → va_P D zcl (zW 28 ad (mF ad cI) h) H → va_S A s.heap H locs → W p l e rmMod_take s m ([.ref (ad 0), .int x1, .int x2, .int x3] : List Value).toArray below meth c H locs 0 0 (zQv post D (zty cI cC cE) 28 ad (mF ad cI) A below ([.ref (ad 0), .int x1, .int x2, .int x3] : List Value).toArray s) (F0 m 65 ls []) := by
    intro fu65
    induction fu65 with
    | zero =>
      intro v3 v5 v6 v7 h H locs ls hw
      exact (zl_0 hw).elim
    | succ fu65 ih65 =>
      intro v3 v5 v6 v7 h H locs ls hw hl hP hS
      have hw := zl_s hw
      generalize zl (stMod_take_65 post) fu65 = L65 at hw ih65
      have J101 : ∀ (fu : Nat) (v3 : Int32) (v5 : Int32) (v6 : Int32) (v7 : Int32) (v8 : Int32) (h : zM) (H : Heap) (locs : List Loc) (ls : Array Slot), zl (stMod_take_101 post L65) fu (v3, v5, v6, v7, v8, h) → lv_has ls 9 [(0, .ref (ad 0)), (3, .int v3), (5, .int v5), (6, .int v6), (7, .int v7), (8, .int v8)] → va_P D zcl (zW 28 ad (mF ad cI) h) H → va_S A s.heap H locs → W p l e rmMod_take s m ([.ref (ad 0), .int x1, .int x2, .int x3] : List Value).toArray below meth c H locs 0 0 (zQv post D (zty cI cC cE) 28 ad (mF ad cI) A below ([.ref (ad 0), .int x1, .int x2, .int x3] : List Value).toArray s) (F0 m 101 ls []) := by
        intro fu101
        induction fu101 with
        | zero =>
          intro v3 v5 v6 v7 v8 h H locs ls hw
          exact (zl_0 hw).elim
        | succ fu101 ih101 =>
          intro v3 v5 v6 v7 v8 h H locs ls hw hl hP hS
          have hw := zl_s hw
          generalize zl (stMod_take_101 post L65) fu101 = L101 at hw ih101
          have J138 : ∀ (v3 : Int32) (v5 : Int32) (v6 : Int32) (v7 : Int32) (v8 : Int32) (k1 : Int32) (k2 : Int32) (k3 : Int32) (h : zM) (H : Heap) (locs : List Loc) (ls : Array Slot), wbMod_take_138 post L65 L101 v3 v5 v6 v7 v8 k1 k2 k3 h → lv_has ls 9 [(0, .ref (ad 0)), (3, .int v3), (5, .int v5), (6, .int v6), (7, .int v7), (8, .int v8)] → va_P D zcl (zW 28 ad (mF ad cI) h) H → va_S A s.heap H locs → W p l e rmMod_take s m ([.ref (ad 0), .int x1, .int x2, .int x3] : List Value).toArray below meth c H locs 0 0 (zQv post D (zty cI cC cE) 28 ad (mF ad cI) A below ([.ref (ad 0), .int x1, .int x2, .int x3] : List Value).toArray s) (F0 m 138 ls [.int k3, .int k2, .int k1, .ref (ad 10)]) := by
            intro v3 v5 v6 v7 v8 k1 k2 k3 h H locs ls hw hl hP hS
            unfold wbMod_take_138 at hw
            refine lv_iadd S.1 S.2.1 dMod_take_138 ?_
            obtain ⟨z139, hw⟩ := hw
            refine zr_ast S hK hJ hP hS (by decide) mF_10 0 rfl z139 dMod_take_139 (fun h139 H locs e139 hP hS => ?_)
            have hw := hw h139 e139
            refine lv_iinc (v := (v8 + 1)) (lv' := [(8, .int (v8 + 1)), (0, .ref (ad 0)), (3, .int v3), (5, .int v5), (6, .int v6), (7, .int v7)]) (k := 5) S.1 S.2.1 dMod_take_140 hl rfl rfl (by decide) rfl (fun ls hl => ?_)
            refine lv_goto S.1 S.2.1 dMod_take_143 rfl ?_
            exact ih101 _ _ _ _ _ _ _ _ _ hw (lv_sub hl [1, 2, 3, 4, 5, 0] rfl) hP hS
          unfold stMod_take_101 at hw
          dsimp only at hw
          refine lv_iload S.1 S.2.1 dMod_take_101 (lv_at hl 5 rfl) ?_
          refine lv_iconst (v := 2) S.1 S.2.1 dMod_take_103 (by decide) ?_
          refine lv_aload_n S.1 S.2.1 dMod_take_104 rfl (lv_at hl 0 rfl) ?_
          refine zr_get S hK hP (by decide) (mF_0 _) fMod_size q839 rfl dMod_take_105 ?_
          refine lv_imul S.1 S.2.1 dMod_take_108 ?_
          refine lv_iconst (v := 2) S.1 S.2.1 dMod_take_109 (by decide) ?_
          refine lv_iadd S.1 S.2.1 dMod_take_110 ?_
          refine lv_icmp_ge S.1 S.2.1 dMod_take_111 rfl (fun hc => ?_) (fun hc => ?_)
          · have hw := hw.1 hc
            refine lv_aload_n S.1 S.2.1 dMod_take_146 rfl (lv_at hl 0 rfl) ?_
            refine lv_dup S.1 S.2.1 dMod_take_147 rfl ?_
            refine zr_get S hK hP (by decide) (mF_0 _) fMod_size q839 rfl dMod_take_148 ?_
            refine lv_iconst (v := 1) S.1 S.2.1 dMod_take_151 (by decide) ?_
            refine lv_iadd S.1 S.2.1 dMod_take_152 ?_
            refine zr_put S hK hJ hP hS (by decide) (mF_0 _) fMod_size q839 rfl rfl (Nat.le_of_ble_eq_true rfl) (mF_0 _) dMod_take_153 (fun h153 H locs e153 hP hS => ?_)
            have hw := hw h153 e153
            refine lv_iinc (v := (v7 + 1)) (lv' := [(7, .int (v7 + 1)), (0, .ref (ad 0)), (3, .int v3), (5, .int v5), (6, .int v6), (8, .int v8)]) (k := 4) S.1 S.2.1 dMod_take_156 hl rfl rfl (by decide) rfl (fun ls hl => ?_)
            refine lv_goto S.1 S.2.1 dMod_take_159 rfl ?_
            exact ih65 _ _ _ _ _ _ _ _ hw (lv_sub hl [1, 2, 3, 4, 0] rfl) hP hS
          · have hw := hw.2 hc
            refine lv_aload_n S.1 S.2.1 dMod_take_114 rfl (lv_at hl 0 rfl) ?_
            refine zr_get S hK hP (by decide) (mF_0 _) fMod_arg q842 rfl dMod_take_115 ?_
            refine lv_iload S.1 S.2.1 dMod_take_118 (lv_at hl 5 rfl) ?_
            refine lv_dup2_11 S.1 S.2.1 dMod_take_120 rfl rfl ?_
            obtain ⟨z121, hw⟩ := hw
            refine zr_ald S hK hP (by decide) (mF_10 _) 0 rfl z121 dMod_take_121 ?_
            refine lv_aload_n S.1 S.2.1 dMod_take_122 rfl (lv_at hl 0 rfl) ?_
            refine zr_get S hK hP (by decide) (mF_0 _) fMod_how q841 rfl dMod_take_123 ?_
            refine lv_iload S.1 S.2.1 dMod_take_126 (lv_at hl 5 rfl) ?_
            obtain ⟨z128, hw⟩ := hw
            refine zr_ald S hK hP (by decide) (mF_9 _) 0 rfl z128 dMod_take_128 ?_
            refine lv_if_ne S.1 S.2.1 dMod_take_129 rfl (fun hc => ?_) (fun hc => ?_)
            · have hw := hw.1 hc
              refine lv_iconst (v := 0) S.1 S.2.1 dMod_take_137 (by decide) ?_
              exact J138 _ _ _ _ _ _ _ _ _ _ _ _ hw (lv_sub hl [0, 1, 2, 3, 4, 5] rfl) hP hS
            · have hw := hw.2 hc
              refine lv_iload S.1 S.2.1 dMod_take_132 (lv_at hl 3 rfl) ?_
              refine lv_goto S.1 S.2.1 dMod_take_134 rfl ?_
              exact J138 _ _ _ _ _ _ _ _ _ _ _ _ hw (lv_sub hl [0, 1, 2, 3, 4, 5] rfl) hP hS
      unfold stMod_take_65 at hw
      dsimp only at hw
      refine lv_iload S.1 S.2.1 dMod_take_65 (lv_at hl 4 rfl) ?_
      refine lv_aload_n S.1 S.2.1 dMod_take_67 rfl (lv_at hl 0 rfl) ?_
      refine zr_get S hK hP (by decide) (mF_0 _) fMod_sizes q846 rfl dMod_take_68 ?_
      refine lv_iload S.1 S.2.1 dMod_take_71 (lv_at hl 2 rfl) ?_
      obtain ⟨z73, hw⟩ := hw
      refine zr_ald S hK hP (by decide) (mF_13 _) 0 rfl z73 dMod_take_73 ?_
      refine lv_icmp_ge S.1 S.2.1 dMod_take_74 rfl (fun hc => ?_) (fun hc => ?_)
      · have hw := hw.1 hc
        refine lv_aload_n S.1 S.2.1 dMod_take_162 rfl (lv_at hl 0 rfl) ?_
        refine zr_get S hK hP (by decide) (mF_0 _) fMod_nowHow q843 rfl dMod_take_163 ?_
        refine lv_iload_n S.1 S.2.1 dMod_take_166 rfl (lv_at hl 1 rfl) ?_
        refine lv_iconst (v := 0) S.1 S.2.1 dMod_take_167 (by decide) ?_
        obtain ⟨z168, hw⟩ := hw
        refine zr_ast S hK hJ hP hS (by decide) mF_11 0 rfl z168 dMod_take_168 (fun h168 H locs e168 hP hS => ?_)
        have hw := hw h168 e168
        refine lv_aload_n S.1 S.2.1 dMod_take_169 rfl (lv_at hl 0 rfl) ?_
        refine zr_get S hK hP (by decide) (mF_0 _) fMod_nowArg q844 rfl dMod_take_170 ?_
        refine lv_iload_n S.1 S.2.1 dMod_take_173 rfl (lv_at hl 1 rfl) ?_
        refine lv_aload_n S.1 S.2.1 dMod_take_174 rfl (lv_at hl 0 rfl) ?_
        refine zr_get S hK hP (by decide) (mF_0 _) fMod_size q839 rfl dMod_take_175 ?_
        refine lv_iconst (v := 1) S.1 S.2.1 dMod_take_178 (by decide) ?_
        refine lv_isub S.1 S.2.1 dMod_take_179 ?_
        obtain ⟨z180, hw⟩ := hw
        refine zr_ast S hK hJ hP hS (by decide) mF_12 0 rfl z180 dMod_take_180 (fun h180 H locs e180 hP hS => ?_)
        have hw := hw h180 e180
        exact zr_vret S hr hlk hK hP hS hw dMod_take_181
      · have hw := hw.2 hc
        refine lv_aload_n S.1 S.2.1 dMod_take_77 rfl (lv_at hl 0 rfl) ?_
        refine lv_bipush (v := 10) S.1 S.2.1 dMod_take_78 (by decide) ?_
        refine lv_iload S.1 S.2.1 dMod_take_80 (lv_at hl 2 rfl) ?_
        refine lv_imul S.1 S.2.1 dMod_take_82 ?_
        refine lv_iload S.1 S.2.1 dMod_take_83 (lv_at hl 4 rfl) ?_
        refine lv_iadd S.1 S.2.1 dMod_take_85 ?_
        refine lv_aload_n S.1 S.2.1 dMod_take_86 rfl (lv_at hl 0 rfl) ?_
        refine zr_get S hK hP (by decide) (mF_0 _) fMod_size q839 rfl dMod_take_87 ?_
        refine zr_v (zr_V (As := [.int ((10 * v5) + v7), .int (h 0 11)]) (rest := []) S hK hT hN hP hS (by decide) (mF_0 _) rfl (cMod_copyFrom l D cI cC cE ad A hJ _ _ _ _ hw) caMod_184 ⟨Nat.le_of_ble_eq_true rfl, Nat.le_of_ble_eq_true rfl⟩ ⟨rfl, rfl⟩ rfl hl.1 rfl (Nat.le_of_ble_eq_true rfl) dMod_take_90) hS (fun h90 H locs hw hP hS => ?_)
        refine lv_iconst (v := 2) S.1 S.2.1 dMod_take_93 (by decide) ?_
        refine lv_aload_n S.1 S.2.1 dMod_take_94 rfl (lv_at hl 0 rfl) ?_
        refine zr_get S hK hP (by decide) (mF_0 _) fMod_size q839 rfl dMod_take_95 ?_
        refine lv_imul S.1 S.2.1 dMod_take_98 ?_
        refine lv_topi (fun y99 e99 => ?_)
        have hw := hw y99 e99
        refine lv_istore (lv' := [(8, .int y99), (0, .ref (ad 0)), (3, .int v3), (5, .int v5), (6, .int v6), (7, .int v7)]) S.1 S.2.1 dMod_take_99 hl (by decide) rfl (fun ls hl => ?_)
        obtain ⟨fu, hw⟩ := hw
        exact J101 fu _ _ _ _ _ _ _ _ _ hw (lv_sub hl [1, 2, 3, 4, 5, 0] rfl) hP hS
  have J56 : ∀ (v3 : Int32) (v5 : Int32) (h : zM) (H : Heap) (locs : List Loc) (ls : Array Slot), wbMod_take_56 post v3 v5 h → lv_has ls 9 [(0, .ref (ad 0)), (3, .int v3), (5, .int v5)] → va_P D zcl (zW 28 ad (mF ad cI) h) H → va_S A s.heap H locs → W p l e rmMod_take s m ([.ref (ad 0), .int x1, .int x2, .int x3] : List Value).toArray below meth c H locs 0 0 (zQv post D (zty cI cC cE) 28 ad (mF ad cI) A below ([.ref (ad 0), .int x1, .int x2, .int x3] : List Value).toArray s) (F0 m 56 ls []) := by
    intro v3 v5 h H locs ls hw hl hP hS
    unfold wbMod_take_56 at hw
    refine lv_aload_n S.1 S.2.1 dMod_take_56 rfl (lv_at hl 0 rfl) ?_
    refine zr_get S hK hP (by decide) (mF_0 _) fMod_size q839 rfl dMod_take_57 ?_
    refine lv_topi (fun y60 e60 => ?_)
    have hw := hw y60 e60
    refine lv_istore (lv' := [(6, .int y60), (0, .ref (ad 0)), (3, .int v3), (5, .int v5)]) S.1 S.2.1 dMod_take_60 hl (by decide) rfl (fun ls hl => ?_)
    refine lv_iconst (v := 0) S.1 S.2.1 dMod_take_62 (by decide) ?_
    refine lv_istore (lv' := [(7, .int 0), (6, .int y60), (0, .ref (ad 0)), (3, .int v3), (5, .int v5)]) S.1 S.2.1 dMod_take_63 hl (by decide) rfl (fun ls hl => ?_)
    obtain ⟨fu, hw⟩ := hw
    exact J65 fu _ _ _ _ _ _ _ _ hw (lv_sub hl [2, 3, 4, 1, 0] rfl) hP hS
  have J6 : ∀ (fu : Nat) (v1 : Int32) (v3 : Int32) (v4 : Int32) (v5 : Int32) (h : zM) (H : Heap) (locs : List Loc) (ls : Array Slot), zl (stMod_take_6 post) fu (v1, v3, v4, v5, h) → lv_has ls 9 [(0, .ref (ad 0)), (1, .int v1), (3, .int v3), (4, .int v4), (5, .int v5)] → va_P D zcl (zW 28 ad (mF ad cI) h) H → va_S A s.heap H locs → W p l e rmMod_take s m ([.ref (ad 0), .int x1, .int x2, .int x3] : List Value).toArray below meth c H locs 0 0 (zQv post D (zty cI cC cE) 28 ad (mF ad cI) A below ([.ref (ad 0), .int x1, .int x2, .int x3] : List Value).toArray s) (F0 m 6 ls []) := by
    intro fu6
    induction fu6 with
    | zero =>
      intro v1 v3 v4 v5 h H locs ls hw
      exact (zl_0 hw).elim
    | succ fu6 ih6 =>
      intro v1 v3 v4 v5 h H locs ls hw hl hP hS
      have hw := zl_s hw
      generalize zl (stMod_take_6 post) fu6 = L6 at hw ih6
      have J47 : ∀ (v1 : Int32) (v3 : Int32) (v5 : Int32) (k0 : Int32) (k1 : Int32) (h : zM) (H : Heap) (locs : List Loc) (ls : Array Slot), wbMod_take_47 post L6 v1 v3 v5 k0 k1 h → lv_has ls 9 [(0, .ref (ad 0)), (1, .int v1), (3, .int v3), (5, .int v5)] → va_P D zcl (zW 28 ad (mF ad cI) h) H → va_S A s.heap H locs → W p l e rmMod_take s m ([.ref (ad 0), .int x1, .int x2, .int x3] : List Value).toArray below meth c H locs 0 0 (zQv post D (zty cI cC cE) 28 ad (mF ad cI) A below ([.ref (ad 0), .int x1, .int x2, .int x3] : List Value).toArray s) (F0 m 47 ls [.int k1, .int k0]) := by
        intro v1 v3 v5 k0 k1 h H locs ls hw hl hP hS
        unfold wbMod_take_47 at hw
        refine lv_isub S.1 S.2.1 dMod_take_47 ?_
        refine lv_topi (fun y48 e48 => ?_)
        have hw := hw y48 e48
        refine lv_istore (lv' := [(4, .int y48), (0, .ref (ad 0)), (1, .int v1), (3, .int v3), (5, .int v5)]) S.1 S.2.1 dMod_take_48 hl (by decide) rfl (fun ls hl => ?_)
        refine lv_iinc (v := (v5 + 1)) (lv' := [(5, .int (v5 + 1)), (4, .int y48), (0, .ref (ad 0)), (1, .int v1), (3, .int v3)]) (k := 4) S.1 S.2.1 dMod_take_50 hl rfl rfl (by decide) rfl (fun ls hl => ?_)
        refine lv_goto S.1 S.2.1 dMod_take_53 rfl ?_
        exact ih6 _ _ _ _ _ _ _ _ hw (lv_sub hl [2, 3, 4, 1, 0] rfl) hP hS
      have J30 : ∀ (v1 : Int32) (v3 : Int32) (v4 : Int32) (v5 : Int32) (h : zM) (H : Heap) (locs : List Loc) (ls : Array Slot), wbMod_take_30 post L6 v1 v3 v4 v5 h → lv_has ls 9 [(0, .ref (ad 0)), (1, .int v1), (3, .int v3), (4, .int v4), (5, .int v5)] → va_P D zcl (zW 28 ad (mF ad cI) h) H → va_S A s.heap H locs → W p l e rmMod_take s m ([.ref (ad 0), .int x1, .int x2, .int x3] : List Value).toArray below meth c H locs 0 0 (zQv post D (zty cI cC cE) 28 ad (mF ad cI) A below ([.ref (ad 0), .int x1, .int x2, .int x3] : List Value).toArray s) (F0 m 30 ls []) := by
        intro v1 v3 v4 v5 h H locs ls hw hl hP hS
        unfold wbMod_take_30 at hw
        refine lv_iload S.1 S.2.1 dMod_take_30 (lv_at hl 3 rfl) ?_
        refine lv_aload_n S.1 S.2.1 dMod_take_32 rfl (lv_at hl 0 rfl) ?_
        refine lv_iload S.1 S.2.1 dMod_take_33 (lv_at hl 4 rfl) ?_
        refine lv_iload_n S.1 S.2.1 dMod_take_35 rfl (lv_at hl 1 rfl) ?_
        refine zr_i (zr_V (As := [.int v5, .int v1]) (rest := [.int v4]) S hK hT hN hP hS (by decide) (mF_0 _) rfl (cMod_offers l D cI cC cE ad A hJ _ _ _ _ hw) caMod_208 ⟨Nat.le_of_ble_eq_true rfl, Nat.le_of_ble_eq_true rfl⟩ ⟨rfl, rfl⟩ rfl hl.1 rfl (Nat.le_of_ble_eq_true rfl) dMod_take_36) hS (fun r36 h36 H locs hw hP hS => ?_)
        refine lv_if_eq S.1 S.2.1 dMod_take_39 rfl (fun hc => ?_) (fun hc => ?_)
        · have hw := hw.1 hc
          refine lv_iconst (v := 0) S.1 S.2.1 dMod_take_46 (by decide) ?_
          exact J47 _ _ _ _ _ _ _ _ _ hw (lv_sub hl [0, 1, 2, 4] rfl) hP hS
        · have hw := hw.2 hc
          refine lv_iconst (v := 1) S.1 S.2.1 dMod_take_42 (by decide) ?_
          refine lv_goto S.1 S.2.1 dMod_take_43 rfl ?_
          exact J47 _ _ _ _ _ _ _ _ _ hw (lv_sub hl [0, 1, 2, 4] rfl) hP hS
      unfold stMod_take_6 at hw
      dsimp only at hw
      refine lv_iload S.1 S.2.1 dMod_take_6 (lv_at hl 4 rfl) ?_
      refine lv_aload_n S.1 S.2.1 dMod_take_8 rfl (lv_at hl 0 rfl) ?_
      refine zr_get S hK hP (by decide) (mF_0 _) fMod_entries q845 rfl dMod_take_9 ?_
      refine lv_icmp_ge S.1 S.2.1 dMod_take_12 rfl (fun hc => ?_) (fun hc => ?_)
      · have hw := hw.1 hc
        exact J56 _ _ _ _ _ _ hw (lv_sub hl [0, 2, 4] rfl) hP hS
      · have hw := hw.2 hc
        refine lv_aload_n S.1 S.2.1 dMod_take_15 rfl (lv_at hl 0 rfl) ?_
        refine lv_iload S.1 S.2.1 dMod_take_16 (lv_at hl 4 rfl) ?_
        refine lv_iload_n S.1 S.2.1 dMod_take_18 rfl (lv_at hl 1 rfl) ?_
        refine zr_i (zr_V (As := [.int v5, .int v1]) (rest := []) S hK hT hN hP hS (by decide) (mF_0 _) rfl (cMod_offers l D cI cC cE ad A hJ _ _ _ _ hw) caMod_208 ⟨Nat.le_of_ble_eq_true rfl, Nat.le_of_ble_eq_true rfl⟩ ⟨rfl, rfl⟩ rfl hl.1 rfl (Nat.le_of_ble_eq_true rfl) dMod_take_19) hS (fun r19 h19 H locs hw hP hS => ?_)
        refine lv_if_eq S.1 S.2.1 dMod_take_22 rfl (fun hc => ?_) (fun hc => ?_)
        · have hw := hw.1 hc
          exact J30 _ _ _ _ _ _ _ _ hw (lv_sub hl [0, 1, 2, 3, 4] rfl) hP hS
        · have hw := hw.2 hc
          refine lv_iload S.1 S.2.1 dMod_take_25 (lv_at hl 3 rfl) ?_
          refine lv_if_eq S.1 S.2.1 dMod_take_27 rfl (fun hc => ?_) (fun hc => ?_)
          · have hw := hw.1 hc
            exact J56 _ _ _ _ _ _ hw (lv_sub hl [0, 2, 4] rfl) hP hS
          · have hw := hw.2 hc
            exact J30 _ _ _ _ _ _ _ _ hw (lv_sub hl [0, 1, 2, 3, 4] rfl) hP hS
  unfold wpMod_take at hw
  refine lv_iload_n S.1 S.2.1 dMod_take_0 rfl (lv_at hl 2 rfl) ?_
  refine lv_istore (lv' := [(4, .int x2), (0, .ref (ad 0)), (1, .int x1), (2, .int x2), (3, .int x3)]) S.1 S.2.1 dMod_take_1 hl (by decide) rfl (fun ls hl => ?_)
  refine lv_iconst (v := 0) S.1 S.2.1 dMod_take_3 (by decide) ?_
  refine lv_istore (lv' := [(5, .int 0), (4, .int x2), (0, .ref (ad 0)), (1, .int x1), (2, .int x2), (3, .int x3)]) S.1 S.2.1 dMod_take_4 hl (by decide) rfl (fun ls hl => ?_)
  obtain ⟨fu, hw⟩ := hw
  exact J6 fu _ _ _ _ _ _ _ _ hw (lv_sub hl [2, 3, 5, 1, 0] rfl) hP hS
/-! Mod.choose -/
theorem dMod_choose_0 : decode bMod_choose 0 = .ok (.aload_n 0, 1) := by decide +kernel
theorem dMod_choose_1 : decode bMod_choose 1 = .ok (.getfield 44, 3) := by decide +kernel
theorem dMod_choose_4 : decode bMod_choose 4 = .ok (.iload_n 1, 1) := by decide +kernel
theorem dMod_choose_5 : decode bMod_choose 5 = .ok (.iload_n 2, 1) := by decide +kernel
theorem dMod_choose_6 : decode bMod_choose 6 = .ok (.iastore, 1) := by decide +kernel
theorem dMod_choose_7 : decode bMod_choose 7 = .ok (.aload_n 0, 1) := by decide +kernel
theorem dMod_choose_8 : decode bMod_choose 8 = .ok (.getfield 47, 3) := by decide +kernel
theorem dMod_choose_11 : decode bMod_choose 11 = .ok (.iload_n 1, 1) := by decide +kernel
theorem dMod_choose_12 : decode bMod_choose 12 = .ok (.iload_n 3, 1) := by decide +kernel
theorem dMod_choose_13 : decode bMod_choose 13 = .ok (.iastore, 1) := by decide +kernel
theorem dMod_choose_14 : decode bMod_choose 14 = .ok (.return_, 1) := by decide +kernel
def wpMod_choose (x1 : Int32) (x2 : Int32) (x3 : Int32) (h : zM) (post : zM → Prop) : Prop := (vp_in x1 2 ∧ ∀ h6 : zM, h6 = zu h 11 (Int32.toNatClampNeg x1) x2 → (vp_in x1 2 ∧ ∀ h13 : zM, h13 = zu h6 12 (Int32.toNatClampNeg x1) x3 → post h13))
abbrev rmMod_choose : Room := { frames := 0, cells := 0, slots := 0, locals := 0 }
set_option maxHeartbeats 4000000 in
set_option maxRecDepth 100000 in
theorem cMod_choose (l : Launch) (D : va_G) (cI cC cE : ClassId) (ad : Nat → Nat) (A : Nat → Prop) (hJ : zJ A 28 ad) (x1 : Int32) (x2 : Int32) (x3 : Int32) (h : zM) (post : zM → Prop) (hw : wpMod_choose x1 x2 x3 h post) : Met l yMod_choose (.code yMod_choose bMod_choose 4 none :: zt) rmMod_choose (va_Pc [.ref (ad 0), .int x1, .int x2, .int x3] (zPre D (zty cI cC cE) 28 ad (mF ad cI) A h)) (va_Qv post (zPst D (zty cI cC cE) 28 ad (mF ad cI)) A) 0 0 A := by
  refine Met.ofW (cc := bMod_choose) (maxL := 4) (ret := none) (by decide) rfl ?_
  intro p e s m args below meth c s₁ B hml hv
  obtain ⟨rfl, hP, hK, hT, hN⟩ := hv
  have hr := B.returns
  have hlk := B.notSynchronized
  have S : zS p m c bMod_choose 4 s _ "CallExplorerModel" := ⟨B.exec, B.bytes, hml, findClass_of_methodNamed B.named, fun w hw => atoms_spec (ws := .code yMod_choose bMod_choose 4 none :: zt) B.pre w (List.mem_cons_of_mem _ hw)⟩
  have hS : va_S A s.heap s.heap [] := va_S.rf
  have hl := lv_entry ([.ref (ad 0), .int x1, .int x2, .int x3]) (n := 4) (Nat.le_of_ble_eq_true rfl)
  rw [lg_entry_eq]
  generalize (lg_sl ([.ref (ad 0), .int x1, .int x2, .int x3]) ++ List.replicate (4 - (lg_sl ([.ref (ad 0), .int x1, .int x2, .int x3])).length) Slot.unset).toArray = ls at hl ⊢
  have hl : lv_has ls 4 [(0, .ref (ad 0)), (1, .int x1), (2, .int x2), (3, .int x3)] := hl
  show W p l e rmMod_choose s m ([.ref (ad 0), .int x1, .int x2, .int x3] : List Value).toArray below meth c s.heap [] 0 0 (zQv post D (zty cI cC cE) 28 ad (mF ad cI) A below ([.ref (ad 0), .int x1, .int x2, .int x3] : List Value).toArray s) _
  unfold wpMod_choose at hw
  refine lv_aload_n S.1 S.2.1 dMod_choose_0 rfl (lv_at hl 0 rfl) ?_
  refine zr_get S hK hP (by decide) (mF_0 _) fMod_nowHow q843 rfl dMod_choose_1 ?_
  refine lv_iload_n S.1 S.2.1 dMod_choose_4 rfl (lv_at hl 1 rfl) ?_
  refine lv_iload_n S.1 S.2.1 dMod_choose_5 rfl (lv_at hl 2 rfl) ?_
  obtain ⟨z6, hw⟩ := hw
  refine zr_ast S hK hJ hP hS (by decide) mF_11 0 rfl z6 dMod_choose_6 (fun h6 H locs e6 hP hS => ?_)
  have hw := hw h6 e6
  refine lv_aload_n S.1 S.2.1 dMod_choose_7 rfl (lv_at hl 0 rfl) ?_
  refine zr_get S hK hP (by decide) (mF_0 _) fMod_nowArg q844 rfl dMod_choose_8 ?_
  refine lv_iload_n S.1 S.2.1 dMod_choose_11 rfl (lv_at hl 1 rfl) ?_
  refine lv_iload_n S.1 S.2.1 dMod_choose_12 rfl (lv_at hl 3 rfl) ?_
  obtain ⟨z13, hw⟩ := hw
  refine zr_ast S hK hJ hP hS (by decide) mF_12 0 rfl z13 dMod_choose_13 (fun h13 H locs e13 hP hS => ?_)
  have hw := hw h13 e13
  exact zr_vret S hr hlk hK hP hS hw dMod_choose_14
/-! Mod.chosen -/
theorem dMod_chosen_0 : decode bMod_chosen 0 = .ok (.aload_n 0, 1) := by decide +kernel
theorem dMod_chosen_1 : decode bMod_chosen 1 = .ok (.iload_n 1, 1) := by decide +kernel
theorem dMod_chosen_2 : decode bMod_chosen 2 = .ok (.invokevirtual 211, 3) := by decide +kernel
theorem dMod_chosen_5 : decode bMod_chosen 5 = .ok (.istore_n 3, 1) := by decide +kernel
theorem dMod_chosen_6 : decode bMod_chosen 6 = .ok (.iload_n 1, 1) := by decide +kernel
theorem dMod_chosen_7 : decode bMod_chosen 7 = .ok (.ifCond .ne 76, 3) := by decide +kernel
theorem dMod_chosen_10 : decode bMod_chosen 10 = .ok (.aload_n 0, 1) := by decide +kernel
theorem dMod_chosen_11 : decode bMod_chosen 11 = .ok (.iconst 3, 1) := by decide +kernel
theorem dMod_chosen_12 : decode bMod_chosen 12 = .ok (.invokevirtual 214, 3) := by decide +kernel
theorem dMod_chosen_15 : decode bMod_chosen 15 = .ok (.ifCond .ne 11, 3) := by decide +kernel
theorem dMod_chosen_18 : decode bMod_chosen 18 = .ok (.iload_n 3, 1) := by decide +kernel
theorem dMod_chosen_19 : decode bMod_chosen 19 = .ok (.ifCond .le 7, 3) := by decide +kernel
theorem dMod_chosen_22 : decode bMod_chosen 22 = .ok (.iconst 1, 1) := by decide +kernel
theorem dMod_chosen_23 : decode bMod_chosen 23 = .ok (.goto 4, 3) := by decide +kernel
theorem dMod_chosen_26 : decode bMod_chosen 26 = .ok (.iconst 0, 1) := by decide +kernel
theorem dMod_chosen_27 : decode bMod_chosen 27 = .ok (.istore 4, 2) := by decide +kernel
theorem dMod_chosen_29 : decode bMod_chosen 29 = .ok (.iload 4, 2) := by decide +kernel
theorem dMod_chosen_31 : decode bMod_chosen 31 = .ok (.ifCond .eq 17, 3) := by decide +kernel
theorem dMod_chosen_34 : decode bMod_chosen 34 = .ok (.aload_n 0, 1) := by decide +kernel
theorem dMod_chosen_35 : decode bMod_chosen 35 = .ok (.iconst 0, 1) := by decide +kernel
theorem dMod_chosen_36 : decode bMod_chosen 36 = .ok (.aload_n 0, 1) := by decide +kernel
theorem dMod_chosen_37 : decode bMod_chosen 37 = .ok (.iload_n 3, 1) := by decide +kernel
theorem dMod_chosen_38 : decode bMod_chosen 38 = .ok (.invokevirtual 214, 3) := by decide +kernel
theorem dMod_chosen_41 : decode bMod_chosen 41 = .ok (.iload_n 2, 1) := by decide +kernel
theorem dMod_chosen_42 : decode bMod_chosen 42 = .ok (.invokevirtual 217, 3) := by decide +kernel
theorem dMod_chosen_45 : decode bMod_chosen 45 = .ok (.goto 22, 3) := by decide +kernel
theorem dMod_chosen_48 : decode bMod_chosen 48 = .ok (.aload_n 0, 1) := by decide +kernel
theorem dMod_chosen_49 : decode bMod_chosen 49 = .ok (.iload_n 2, 1) := by decide +kernel
theorem dMod_chosen_50 : decode bMod_chosen 50 = .ok (.iconst 1, 1) := by decide +kernel
theorem dMod_chosen_51 : decode bMod_chosen 51 = .ok (.aload_n 0, 1) := by decide +kernel
theorem dMod_chosen_52 : decode bMod_chosen 52 = .ok (.getfield 32, 3) := by decide +kernel
theorem dMod_chosen_55 : decode bMod_chosen 55 = .ok (.aload_n 0, 1) := by decide +kernel
theorem dMod_chosen_56 : decode bMod_chosen 56 = .ok (.aload_n 0, 1) := by decide +kernel
theorem dMod_chosen_57 : decode bMod_chosen 57 = .ok (.getfield 28, 3) := by decide +kernel
theorem dMod_chosen_60 : decode bMod_chosen 60 = .ok (.invokevirtual 214, 3) := by decide +kernel
theorem dMod_chosen_63 : decode bMod_chosen 63 = .ok (.iaload, 1) := by decide +kernel
theorem dMod_chosen_64 : decode bMod_chosen 64 = .ok (.invokevirtual 221, 3) := by decide +kernel
theorem dMod_chosen_67 : decode bMod_chosen 67 = .ok (.aload_n 0, 1) := by decide +kernel
theorem dMod_chosen_68 : decode bMod_chosen 68 = .ok (.getfield 156, 3) := by decide +kernel
theorem dMod_chosen_71 : decode bMod_chosen 71 = .ok (.bipush 9, 2) := by decide +kernel
theorem dMod_chosen_73 : decode bMod_chosen 73 = .ok (.if_icmp .le 8, 3) := by decide +kernel
theorem dMod_chosen_76 : decode bMod_chosen 76 = .ok (.bipush (-3), 2) := by decide +kernel
theorem dMod_chosen_78 : decode bMod_chosen 78 = .ok (.goto 4, 3) := by decide +kernel
theorem dMod_chosen_81 : decode bMod_chosen 81 = .ok (.iconst 0, 1) := by decide +kernel
theorem dMod_chosen_82 : decode bMod_chosen 82 = .ok (.ireturn, 1) := by decide +kernel
theorem dMod_chosen_83 : decode bMod_chosen 83 = .ok (.aload_n 0, 1) := by decide +kernel
theorem dMod_chosen_84 : decode bMod_chosen 84 = .ok (.bipush 6, 2) := by decide +kernel
theorem dMod_chosen_86 : decode bMod_chosen 86 = .ok (.invokevirtual 214, 3) := by decide +kernel
theorem dMod_chosen_89 : decode bMod_chosen 89 = .ok (.ifCond .ne 12, 3) := by decide +kernel
theorem dMod_chosen_92 : decode bMod_chosen 92 = .ok (.aload_n 0, 1) := by decide +kernel
theorem dMod_chosen_93 : decode bMod_chosen 93 = .ok (.iload_n 2, 1) := by decide +kernel
theorem dMod_chosen_94 : decode bMod_chosen 94 = .ok (.iconst 2, 1) := by decide +kernel
theorem dMod_chosen_95 : decode bMod_chosen 95 = .ok (.iconst 0, 1) := by decide +kernel
theorem dMod_chosen_96 : decode bMod_chosen 96 = .ok (.invokevirtual 221, 3) := by decide +kernel
theorem dMod_chosen_99 : decode bMod_chosen 99 = .ok (.iconst 0, 1) := by decide +kernel
theorem dMod_chosen_100 : decode bMod_chosen 100 = .ok (.ireturn, 1) := by decide +kernel
theorem dMod_chosen_101 : decode bMod_chosen 101 = .ok (.aload_n 0, 1) := by decide +kernel
theorem dMod_chosen_102 : decode bMod_chosen 102 = .ok (.iconst 3, 1) := by decide +kernel
theorem dMod_chosen_103 : decode bMod_chosen 103 = .ok (.invokevirtual 214, 3) := by decide +kernel
theorem dMod_chosen_106 : decode bMod_chosen 106 = .ok (.ifCond .ne 21, 3) := by decide +kernel
theorem dMod_chosen_109 : decode bMod_chosen 109 = .ok (.iload_n 2, 1) := by decide +kernel
theorem dMod_chosen_110 : decode bMod_chosen 110 = .ok (.iconst 1, 1) := by decide +kernel
theorem dMod_chosen_111 : decode bMod_chosen 111 = .ok (.if_icmp .ne 16, 3) := by decide +kernel
theorem dMod_chosen_114 : decode bMod_chosen 114 = .ok (.aload_n 0, 1) := by decide +kernel
theorem dMod_chosen_115 : decode bMod_chosen 115 = .ok (.getfield 44, 3) := by decide +kernel
theorem dMod_chosen_118 : decode bMod_chosen 118 = .ok (.iconst 0, 1) := by decide +kernel
theorem dMod_chosen_119 : decode bMod_chosen 119 = .ok (.iaload, 1) := by decide +kernel
theorem dMod_chosen_120 : decode bMod_chosen 120 = .ok (.ifCond .ne 7, 3) := by decide +kernel
theorem dMod_chosen_123 : decode bMod_chosen 123 = .ok (.iconst 1, 1) := by decide +kernel
theorem dMod_chosen_124 : decode bMod_chosen 124 = .ok (.goto 4, 3) := by decide +kernel
theorem dMod_chosen_127 : decode bMod_chosen 127 = .ok (.iconst 0, 1) := by decide +kernel
theorem dMod_chosen_128 : decode bMod_chosen 128 = .ok (.istore 4, 2) := by decide +kernel
theorem dMod_chosen_130 : decode bMod_chosen 130 = .ok (.iload 4, 2) := by decide +kernel
theorem dMod_chosen_132 : decode bMod_chosen 132 = .ok (.ifCond .eq 40, 3) := by decide +kernel
theorem dMod_chosen_135 : decode bMod_chosen 135 = .ok (.aload_n 0, 1) := by decide +kernel
theorem dMod_chosen_136 : decode bMod_chosen 136 = .ok (.aload_n 0, 1) := by decide +kernel
theorem dMod_chosen_137 : decode bMod_chosen 137 = .ok (.aload_n 0, 1) := by decide +kernel
theorem dMod_chosen_138 : decode bMod_chosen 138 = .ok (.getfield 35, 3) := by decide +kernel
theorem dMod_chosen_141 : decode bMod_chosen 141 = .ok (.aload_n 0, 1) := by decide +kernel
theorem dMod_chosen_142 : decode bMod_chosen 142 = .ok (.getfield 47, 3) := by decide +kernel
theorem dMod_chosen_145 : decode bMod_chosen 145 = .ok (.iconst 0, 1) := by decide +kernel
theorem dMod_chosen_146 : decode bMod_chosen 146 = .ok (.iaload, 1) := by decide +kernel
theorem dMod_chosen_147 : decode bMod_chosen 147 = .ok (.iaload, 1) := by decide +kernel
theorem dMod_chosen_148 : decode bMod_chosen 148 = .ok (.invokevirtual 181, 3) := by decide +kernel
theorem dMod_chosen_151 : decode bMod_chosen 151 = .ok (.iload_n 1, 1) := by decide +kernel
theorem dMod_chosen_152 : decode bMod_chosen 152 = .ok (.invokevirtual 138, 3) := by decide +kernel
theorem dMod_chosen_155 : decode bMod_chosen 155 = .ok (.ifCond .eq 17, 3) := by decide +kernel
theorem dMod_chosen_158 : decode bMod_chosen 158 = .ok (.aload_n 0, 1) := by decide +kernel
theorem dMod_chosen_159 : decode bMod_chosen 159 = .ok (.iconst 1, 1) := by decide +kernel
theorem dMod_chosen_160 : decode bMod_chosen 160 = .ok (.iconst 0, 1) := by decide +kernel
theorem dMod_chosen_161 : decode bMod_chosen 161 = .ok (.aload_n 0, 1) := by decide +kernel
theorem dMod_chosen_162 : decode bMod_chosen 162 = .ok (.getfield 47, 3) := by decide +kernel
theorem dMod_chosen_165 : decode bMod_chosen 165 = .ok (.iconst 0, 1) := by decide +kernel
theorem dMod_chosen_166 : decode bMod_chosen 166 = .ok (.iaload, 1) := by decide +kernel
theorem dMod_chosen_167 : decode bMod_chosen 167 = .ok (.invokevirtual 221, 3) := by decide +kernel
theorem dMod_chosen_170 : decode bMod_chosen 170 = .ok (.iconst 0, 1) := by decide +kernel
theorem dMod_chosen_171 : decode bMod_chosen 171 = .ok (.ireturn, 1) := by decide +kernel
theorem dMod_chosen_172 : decode bMod_chosen 172 = .ok (.iload_n 3, 1) := by decide +kernel
theorem dMod_chosen_173 : decode bMod_chosen 173 = .ok (.ifCond .ne 6, 3) := by decide +kernel
theorem dMod_chosen_176 : decode bMod_chosen 176 = .ok (.bipush (-2), 2) := by decide +kernel
theorem dMod_chosen_178 : decode bMod_chosen 178 = .ok (.ireturn, 1) := by decide +kernel
theorem dMod_chosen_179 : decode bMod_chosen 179 = .ok (.aload_n 0, 1) := by decide +kernel
theorem dMod_chosen_180 : decode bMod_chosen 180 = .ok (.iload_n 1, 1) := by decide +kernel
theorem dMod_chosen_181 : decode bMod_chosen 181 = .ok (.aload_n 0, 1) := by decide +kernel
theorem dMod_chosen_182 : decode bMod_chosen 182 = .ok (.iload_n 3, 1) := by decide +kernel
theorem dMod_chosen_183 : decode bMod_chosen 183 = .ok (.invokevirtual 214, 3) := by decide +kernel
theorem dMod_chosen_186 : decode bMod_chosen 186 = .ok (.iload_n 2, 1) := by decide +kernel
theorem dMod_chosen_187 : decode bMod_chosen 187 = .ok (.invokevirtual 217, 3) := by decide +kernel
theorem dMod_chosen_190 : decode bMod_chosen 190 = .ok (.aload_n 0, 1) := by decide +kernel
theorem dMod_chosen_191 : decode bMod_chosen 191 = .ok (.getfield 156, 3) := by decide +kernel
theorem dMod_chosen_194 : decode bMod_chosen 194 = .ok (.bipush 9, 2) := by decide +kernel
theorem dMod_chosen_196 : decode bMod_chosen 196 = .ok (.if_icmp .le 8, 3) := by decide +kernel
theorem dMod_chosen_199 : decode bMod_chosen 199 = .ok (.bipush (-3), 2) := by decide +kernel
theorem dMod_chosen_201 : decode bMod_chosen 201 = .ok (.goto 4, 3) := by decide +kernel
theorem dMod_chosen_204 : decode bMod_chosen 204 = .ok (.iconst 0, 1) := by decide +kernel
theorem dMod_chosen_205 : decode bMod_chosen 205 = .ok (.ireturn, 1) := by decide +kernel
def wbMod_chosen_172 (post : Int32 → zM → Prop) (v1 : Int32) (v2 : Int32) (v3 : Int32) (h : zM) : Prop := ((¬ v3 = 0 → wpMod_random v3 h (fun r183 h183 => wpMod_take v1 r183 v2 h183 (fun h187 => ((((h187 0 11) ≤ 9) → post 0 h187) ∧ (¬ ((h187 0 11) ≤ 9) → post (-3) h187))))) ∧ (v3 = 0 → post (-2) h))
def wbMod_chosen_128 (post : Int32 → zM → Prop) (v1 : Int32) (v2 : Int32) (v3 : Int32) (k0 : Int32) (h : zM) : Prop := ((k0 = 0 → wbMod_chosen_172 post v1 v2 v3 h) ∧ (¬ k0 = 0 → (vp_in 0 2 ∧ (vp_in (h 12 (Int32.toNatClampNeg 0)) 20 ∧ wpMod_gives (h 8 (Int32.toNatClampNeg (h 12 (Int32.toNatClampNeg 0)))) h (fun r148 h148 => wpMod_is r148 v1 h148 (fun r152 h152 => ((r152 = 0 → wbMod_chosen_172 post v1 v2 v3 h152) ∧ (¬ r152 = 0 → (vp_in 0 2 ∧ wpMod_choose 1 0 (h152 12 (Int32.toNatClampNeg 0)) h152 (fun h167 => post 0 h167))))))))))
def wbMod_chosen_127 (post : Int32 → zM → Prop) (v1 : Int32) (v2 : Int32) (v3 : Int32) (h : zM) : Prop := wbMod_chosen_128 post v1 v2 v3 0 h
def wbMod_chosen_67 (post : Int32 → zM → Prop) (h : zM) : Prop := ((((h 0 11) ≤ 9) → post 0 h) ∧ (¬ ((h 0 11) ≤ 9) → post (-3) h))
def wbMod_chosen_27 (post : Int32 → zM → Prop) (v2 : Int32) (v3 : Int32) (k0 : Int32) (h : zM) : Prop := ((k0 = 0 → wpMod_random (h 0 9) h (fun r60 h60 => (vp_in r60 8 ∧ wpMod_choose v2 1 (h60 7 (Int32.toNatClampNeg r60)) h60 (fun h64 => wbMod_chosen_67 post h64)))) ∧ (¬ k0 = 0 → wpMod_random v3 h (fun r38 h38 => wpMod_take 0 r38 v2 h38 (fun h42 => wbMod_chosen_67 post h42))))
def wbMod_chosen_26 (post : Int32 → zM → Prop) (v2 : Int32) (v3 : Int32) (h : zM) : Prop := wbMod_chosen_27 post v2 v3 0 h
def wpMod_chosen (x1 : Int32) (x2 : Int32) (h : zM) (post : Int32 → zM → Prop) : Prop := wpMod_offered x1 h (fun r2 h2 => ((¬ x1 = 0 → wpMod_random 6 h2 (fun r86 h86 => ((¬ r86 = 0 → wpMod_random 3 h86 (fun r103 h103 => ((¬ r103 = 0 → wbMod_chosen_127 post x1 x2 r2 h103) ∧ (r103 = 0 → ((¬ x2 = 1 → wbMod_chosen_127 post x1 x2 r2 h103) ∧ (x2 = 1 → (vp_in 0 2 ∧ ((¬ (h103 11 (Int32.toNatClampNeg 0)) = 0 → wbMod_chosen_127 post x1 x2 r2 h103) ∧ ((h103 11 (Int32.toNatClampNeg 0)) = 0 → wbMod_chosen_128 post x1 x2 r2 1 h103))))))))) ∧ (r86 = 0 → wpMod_choose x2 2 0 h86 (fun h96 => post 0 h96))))) ∧ (x1 = 0 → wpMod_random 3 h2 (fun r12 h12 => ((¬ r12 = 0 → wbMod_chosen_26 post x2 r2 h12) ∧ (r12 = 0 → (((r2 ≤ 0) → wbMod_chosen_26 post x2 r2 h12) ∧ (¬ (r2 ≤ 0) → wbMod_chosen_27 post x2 r2 1 h12))))))))
abbrev rmMod_chosen : Room := { frames := 4, cells := 0, slots := 0, locals := 93 }
set_option maxHeartbeats 4000000 in
set_option maxRecDepth 100000 in
theorem cMod_chosen (l : Launch) (D : va_G) (cI cC cE : ClassId) (ad : Nat → Nat) (A : Nat → Prop) (hJ : zJ A 28 ad) (x1 : Int32) (x2 : Int32) (h : zM) (post : Int32 → zM → Prop) (hw : wpMod_chosen x1 x2 h post) : Met l yMod_chosen (.code yMod_chosen bMod_chosen 5 (some .int) :: zt) rmMod_chosen (va_Pc [.ref (ad 0), .int x1, .int x2] (zPre D (zty cI cC cE) 28 ad (mF ad cI) A h)) (va_Qi post (zPst D (zty cI cC cE) 28 ad (mF ad cI)) A) 0 0 A := by
  refine Met.ofW (cc := bMod_chosen) (maxL := 5) (ret := (some .int)) (by decide) rfl ?_
  intro p e s m args below meth c s₁ B hml hv
  obtain ⟨rfl, hP, hK, hT, hN⟩ := hv
  have hr := B.returns
  have hlk := B.notSynchronized
  have S : zS p m c bMod_chosen 5 s _ "CallExplorerModel" := ⟨B.exec, B.bytes, hml, findClass_of_methodNamed B.named, fun w hw => atoms_spec (ws := .code yMod_chosen bMod_chosen 5 (some .int) :: zt) B.pre w (List.mem_cons_of_mem _ hw)⟩
  have hS : va_S A s.heap s.heap [] := va_S.rf
  have hl := lv_entry ([.ref (ad 0), .int x1, .int x2]) (n := 5) (Nat.le_of_ble_eq_true rfl)
  rw [lg_entry_eq]
  generalize (lg_sl ([.ref (ad 0), .int x1, .int x2]) ++ List.replicate (5 - (lg_sl ([.ref (ad 0), .int x1, .int x2])).length) Slot.unset).toArray = ls at hl ⊢
  have hl : lv_has ls 5 [(0, .ref (ad 0)), (1, .int x1), (2, .int x2)] := hl
  show W p l e rmMod_chosen s m ([.ref (ad 0), .int x1, .int x2] : List Value).toArray below meth c s.heap [] 0 0 (zQi post D (zty cI cC cE) 28 ad (mF ad cI) A below ([.ref (ad 0), .int x1, .int x2] : List Value).toArray s) _
  have J172 : ∀ (v1 : Int32) (v2 : Int32) (v3 : Int32) (h : zM) (H : Heap) (locs : List Loc) (ls : Array Slot), wbMod_chosen_172 post v1 v2 v3 h → lv_has ls 5 [(0, .ref (ad 0)), (1, .int v1), (2, .int v2), (3, .int v3)] → va_P D zcl (zW 28 ad (mF ad cI) h) H → va_S A s.heap H locs → W p l e rmMod_chosen s m ([.ref (ad 0), .int x1, .int x2] : List Value).toArray below meth c H locs 0 0 (zQi post D (zty cI cC cE) 28 ad (mF ad cI) A below ([.ref (ad 0), .int x1, .int x2] : List Value).toArray s) (F0 m 172 ls []) := by
    intro v1 v2 v3 h H locs ls hw hl hP hS
    unfold wbMod_chosen_172 at hw
    refine lv_iload_n S.1 S.2.1 dMod_chosen_172 rfl (lv_at hl 3 rfl) ?_
    refine lv_if_ne S.1 S.2.1 dMod_chosen_173 rfl (fun hc => ?_) (fun hc => ?_)
    · have hw := hw.1 hc
      refine lv_aload_n S.1 S.2.1 dMod_chosen_179 rfl (lv_at hl 0 rfl) ?_
      refine lv_iload_n S.1 S.2.1 dMod_chosen_180 rfl (lv_at hl 1 rfl) ?_
      refine lv_aload_n S.1 S.2.1 dMod_chosen_181 rfl (lv_at hl 0 rfl) ?_
      refine lv_iload_n S.1 S.2.1 dMod_chosen_182 rfl (lv_at hl 3 rfl) ?_
      refine zr_i (zr_V (As := [.int v3]) (rest := [.int v1, .ref (ad 0)]) S hK hT hN hP hS (by decide) (mF_0 _) rfl (cMod_random l D cI cC cE ad A hJ _ _ _ hw) caMod_214 ⟨Nat.le_of_ble_eq_true rfl, Nat.le_of_ble_eq_true rfl⟩ ⟨rfl, rfl⟩ rfl hl.1 rfl (Nat.le_of_ble_eq_true rfl) dMod_chosen_183) hS (fun r183 h183 H locs hw hP hS => ?_)
      refine lv_iload_n S.1 S.2.1 dMod_chosen_186 rfl (lv_at hl 2 rfl) ?_
      refine zr_v (zr_V (As := [.int v1, .int r183, .int v2]) (rest := []) S hK hT hN hP hS (by decide) (mF_0 _) rfl (cMod_take l D cI cC cE ad A hJ _ _ _ _ _ hw) caMod_217 ⟨Nat.le_of_ble_eq_true rfl, Nat.le_of_ble_eq_true rfl⟩ ⟨rfl, rfl⟩ rfl hl.1 rfl (Nat.le_of_ble_eq_true rfl) dMod_chosen_187) hS (fun h187 H locs hw hP hS => ?_)
      refine lv_aload_n S.1 S.2.1 dMod_chosen_190 rfl (lv_at hl 0 rfl) ?_
      refine zr_get S hK hP (by decide) (mF_0 _) fMod_size q839 rfl dMod_chosen_191 ?_
      refine lv_bipush (v := 9) S.1 S.2.1 dMod_chosen_194 (by decide) ?_
      refine lv_icmp_le S.1 S.2.1 dMod_chosen_196 rfl (fun hc => ?_) (fun hc => ?_)
      · have hw := hw.1 hc
        refine lv_iconst (v := 0) S.1 S.2.1 dMod_chosen_204 (by decide) ?_
        exact zr_iret S hr hlk hK hP hS rfl hw dMod_chosen_205
      · have hw := hw.2 hc
        refine lv_bipush (v := (-3)) S.1 S.2.1 dMod_chosen_199 (by decide) ?_
        refine lv_goto S.1 S.2.1 dMod_chosen_201 rfl ?_
        exact zr_iret S hr hlk hK hP hS rfl hw dMod_chosen_205
    · have hw := hw.2 hc
      refine lv_bipush (v := (-2)) S.1 S.2.1 dMod_chosen_176 (by decide) ?_
      exact zr_iret S hr hlk hK hP hS rfl hw dMod_chosen_178
  have J128 : ∀ (v1 : Int32) (v2 : Int32) (v3 : Int32) (k0 : Int32) (h : zM) (H : Heap) (locs : List Loc) (ls : Array Slot), wbMod_chosen_128 post v1 v2 v3 k0 h → lv_has ls 5 [(0, .ref (ad 0)), (1, .int v1), (2, .int v2), (3, .int v3)] → va_P D zcl (zW 28 ad (mF ad cI) h) H → va_S A s.heap H locs → W p l e rmMod_chosen s m ([.ref (ad 0), .int x1, .int x2] : List Value).toArray below meth c H locs 0 0 (zQi post D (zty cI cC cE) 28 ad (mF ad cI) A below ([.ref (ad 0), .int x1, .int x2] : List Value).toArray s) (F0 m 128 ls [.int k0]) := by
    intro v1 v2 v3 k0 h H locs ls hw hl hP hS
    unfold wbMod_chosen_128 at hw
    refine lv_istore (lv' := [(4, .int k0), (0, .ref (ad 0)), (1, .int v1), (2, .int v2), (3, .int v3)]) S.1 S.2.1 dMod_chosen_128 hl (by decide) rfl (fun ls hl => ?_)
    refine lv_iload S.1 S.2.1 dMod_chosen_130 (lv_at hl 0 rfl) ?_
    refine lv_if_eq S.1 S.2.1 dMod_chosen_132 rfl (fun hc => ?_) (fun hc => ?_)
    · have hw := hw.1 hc
      exact J172 _ _ _ _ _ _ _ hw (lv_sub hl [1, 2, 3, 4] rfl) hP hS
    · have hw := hw.2 hc
      refine lv_aload_n S.1 S.2.1 dMod_chosen_135 rfl (lv_at hl 1 rfl) ?_
      refine lv_aload_n S.1 S.2.1 dMod_chosen_136 rfl (lv_at hl 1 rfl) ?_
      refine lv_aload_n S.1 S.2.1 dMod_chosen_137 rfl (lv_at hl 1 rfl) ?_
      refine zr_get S hK hP (by decide) (mF_0 _) fMod_op q840 rfl dMod_chosen_138 ?_
      refine lv_aload_n S.1 S.2.1 dMod_chosen_141 rfl (lv_at hl 1 rfl) ?_
      refine zr_get S hK hP (by decide) (mF_0 _) fMod_nowArg q844 rfl dMod_chosen_142 ?_
      refine lv_iconst (v := 0) S.1 S.2.1 dMod_chosen_145 (by decide) ?_
      obtain ⟨z146, hw⟩ := hw
      refine zr_ald S hK hP (by decide) (mF_12 _) 0 rfl z146 dMod_chosen_146 ?_
      obtain ⟨z147, hw⟩ := hw
      refine zr_ald S hK hP (by decide) (mF_8 _) 0 rfl z147 dMod_chosen_147 ?_
      refine zr_i (zr_V (As := [.int (h 8 (Int32.toNatClampNeg (h 12 (Int32.toNatClampNeg 0))))]) (rest := [.ref (ad 0)]) S hK hT hN hP hS (by decide) (mF_0 _) rfl (cMod_gives l D cI cC cE ad A hJ _ _ _ hw) caMod_181 ⟨Nat.le_of_ble_eq_true rfl, Nat.le_of_ble_eq_true rfl⟩ ⟨rfl, rfl⟩ rfl hl.1 rfl (Nat.le_of_ble_eq_true rfl) dMod_chosen_148) hS (fun r148 h148 H locs hw hP hS => ?_)
      refine lv_iload_n S.1 S.2.1 dMod_chosen_151 rfl (lv_at hl 2 rfl) ?_
      refine zr_i (zr_V (As := [.int r148, .int v1]) (rest := []) S hK hT hN hP hS (by decide) (mF_0 _) rfl (cMod_is l D cI cC cE ad A hJ _ _ _ _ hw) caMod_138 ⟨Nat.le_of_ble_eq_true rfl, Nat.le_of_ble_eq_true rfl⟩ ⟨rfl, rfl⟩ rfl hl.1 rfl (Nat.le_of_ble_eq_true rfl) dMod_chosen_152) hS (fun r152 h152 H locs hw hP hS => ?_)
      refine lv_if_eq S.1 S.2.1 dMod_chosen_155 rfl (fun hc => ?_) (fun hc => ?_)
      · have hw := hw.1 hc
        exact J172 _ _ _ _ _ _ _ hw (lv_sub hl [1, 2, 3, 4] rfl) hP hS
      · have hw := hw.2 hc
        refine lv_aload_n S.1 S.2.1 dMod_chosen_158 rfl (lv_at hl 1 rfl) ?_
        refine lv_iconst (v := 1) S.1 S.2.1 dMod_chosen_159 (by decide) ?_
        refine lv_iconst (v := 0) S.1 S.2.1 dMod_chosen_160 (by decide) ?_
        refine lv_aload_n S.1 S.2.1 dMod_chosen_161 rfl (lv_at hl 1 rfl) ?_
        refine zr_get S hK hP (by decide) (mF_0 _) fMod_nowArg q844 rfl dMod_chosen_162 ?_
        refine lv_iconst (v := 0) S.1 S.2.1 dMod_chosen_165 (by decide) ?_
        obtain ⟨z166, hw⟩ := hw
        refine zr_ald S hK hP (by decide) (mF_12 _) 0 rfl z166 dMod_chosen_166 ?_
        refine zr_v (zr_V (As := [.int 1, .int 0, .int (h152 12 (Int32.toNatClampNeg 0))]) (rest := []) S hK hT hN hP hS (by decide) (mF_0 _) rfl (cMod_choose l D cI cC cE ad A hJ _ _ _ _ _ hw) caMod_221 ⟨Nat.le_of_ble_eq_true rfl, Nat.le_of_ble_eq_true rfl⟩ ⟨rfl, rfl⟩ rfl hl.1 rfl (Nat.le_of_ble_eq_true rfl) dMod_chosen_167) hS (fun h167 H locs hw hP hS => ?_)
        refine lv_iconst (v := 0) S.1 S.2.1 dMod_chosen_170 (by decide) ?_
        exact zr_iret S hr hlk hK hP hS rfl hw dMod_chosen_171
  have J127 : ∀ (v1 : Int32) (v2 : Int32) (v3 : Int32) (h : zM) (H : Heap) (locs : List Loc) (ls : Array Slot), wbMod_chosen_127 post v1 v2 v3 h → lv_has ls 5 [(0, .ref (ad 0)), (1, .int v1), (2, .int v2), (3, .int v3)] → va_P D zcl (zW 28 ad (mF ad cI) h) H → va_S A s.heap H locs → W p l e rmMod_chosen s m ([.ref (ad 0), .int x1, .int x2] : List Value).toArray below meth c H locs 0 0 (zQi post D (zty cI cC cE) 28 ad (mF ad cI) A below ([.ref (ad 0), .int x1, .int x2] : List Value).toArray s) (F0 m 127 ls []) := by
    intro v1 v2 v3 h H locs ls hw hl hP hS
    unfold wbMod_chosen_127 at hw
    refine lv_iconst (v := 0) S.1 S.2.1 dMod_chosen_127 (by decide) ?_
    exact J128 _ _ _ _ _ _ _ _ hw (lv_sub hl [0, 1, 2, 3] rfl) hP hS
  have J67 : ∀ (h : zM) (H : Heap) (locs : List Loc) (ls : Array Slot), wbMod_chosen_67 post h → lv_has ls 5 [(0, .ref (ad 0))] → va_P D zcl (zW 28 ad (mF ad cI) h) H → va_S A s.heap H locs → W p l e rmMod_chosen s m ([.ref (ad 0), .int x1, .int x2] : List Value).toArray below meth c H locs 0 0 (zQi post D (zty cI cC cE) 28 ad (mF ad cI) A below ([.ref (ad 0), .int x1, .int x2] : List Value).toArray s) (F0 m 67 ls []) := by
    intro  h H locs ls hw hl hP hS
    unfold wbMod_chosen_67 at hw
    refine lv_aload_n S.1 S.2.1 dMod_chosen_67 rfl (lv_at hl 0 rfl) ?_
    refine zr_get S hK hP (by decide) (mF_0 _) fMod_size q839 rfl dMod_chosen_68 ?_
    refine lv_bipush (v := 9) S.1 S.2.1 dMod_chosen_71 (by decide) ?_
    refine lv_icmp_le S.1 S.2.1 dMod_chosen_73 rfl (fun hc => ?_) (fun hc => ?_)
    · have hw := hw.1 hc
      refine lv_iconst (v := 0) S.1 S.2.1 dMod_chosen_81 (by decide) ?_
      exact zr_iret S hr hlk hK hP hS rfl hw dMod_chosen_82
    · have hw := hw.2 hc
      refine lv_bipush (v := (-3)) S.1 S.2.1 dMod_chosen_76 (by decide) ?_
      refine lv_goto S.1 S.2.1 dMod_chosen_78 rfl ?_
      exact zr_iret S hr hlk hK hP hS rfl hw dMod_chosen_82
  have J27 : ∀ (v2 : Int32) (v3 : Int32) (k0 : Int32) (h : zM) (H : Heap) (locs : List Loc) (ls : Array Slot), wbMod_chosen_27 post v2 v3 k0 h → lv_has ls 5 [(0, .ref (ad 0)), (2, .int v2), (3, .int v3)] → va_P D zcl (zW 28 ad (mF ad cI) h) H → va_S A s.heap H locs → W p l e rmMod_chosen s m ([.ref (ad 0), .int x1, .int x2] : List Value).toArray below meth c H locs 0 0 (zQi post D (zty cI cC cE) 28 ad (mF ad cI) A below ([.ref (ad 0), .int x1, .int x2] : List Value).toArray s) (F0 m 27 ls [.int k0]) := by
    intro v2 v3 k0 h H locs ls hw hl hP hS
    unfold wbMod_chosen_27 at hw
    refine lv_istore (lv' := [(4, .int k0), (0, .ref (ad 0)), (2, .int v2), (3, .int v3)]) S.1 S.2.1 dMod_chosen_27 hl (by decide) rfl (fun ls hl => ?_)
    refine lv_iload S.1 S.2.1 dMod_chosen_29 (lv_at hl 0 rfl) ?_
    refine lv_if_eq S.1 S.2.1 dMod_chosen_31 rfl (fun hc => ?_) (fun hc => ?_)
    · have hw := hw.1 hc
      refine lv_aload_n S.1 S.2.1 dMod_chosen_48 rfl (lv_at hl 1 rfl) ?_
      refine lv_iload_n S.1 S.2.1 dMod_chosen_49 rfl (lv_at hl 2 rfl) ?_
      refine lv_iconst (v := 1) S.1 S.2.1 dMod_chosen_50 (by decide) ?_
      refine lv_aload_n S.1 S.2.1 dMod_chosen_51 rfl (lv_at hl 1 rfl) ?_
      refine zr_get S hK hP (by decide) (mF_0 _) fMod_literal q838 rfl dMod_chosen_52 ?_
      refine lv_aload_n S.1 S.2.1 dMod_chosen_55 rfl (lv_at hl 1 rfl) ?_
      refine lv_aload_n S.1 S.2.1 dMod_chosen_56 rfl (lv_at hl 1 rfl) ?_
      refine zr_get S hK hP (by decide) (mF_0 _) fMod_literals q837 rfl dMod_chosen_57 ?_
      refine zr_i (zr_V (As := [.int (h 0 9)]) (rest := [.ref (ad 7), .int 1, .int v2, .ref (ad 0)]) S hK hT hN hP hS (by decide) (mF_0 _) rfl (cMod_random l D cI cC cE ad A hJ _ _ _ hw) caMod_214 ⟨Nat.le_of_ble_eq_true rfl, Nat.le_of_ble_eq_true rfl⟩ ⟨rfl, rfl⟩ rfl hl.1 rfl (Nat.le_of_ble_eq_true rfl) dMod_chosen_60) hS (fun r60 h60 H locs hw hP hS => ?_)
      obtain ⟨z63, hw⟩ := hw
      refine zr_ald S hK hP (by decide) (mF_7 _) 0 rfl z63 dMod_chosen_63 ?_
      refine zr_v (zr_V (As := [.int v2, .int 1, .int (h60 7 (Int32.toNatClampNeg r60))]) (rest := []) S hK hT hN hP hS (by decide) (mF_0 _) rfl (cMod_choose l D cI cC cE ad A hJ _ _ _ _ _ hw) caMod_221 ⟨Nat.le_of_ble_eq_true rfl, Nat.le_of_ble_eq_true rfl⟩ ⟨rfl, rfl⟩ rfl hl.1 rfl (Nat.le_of_ble_eq_true rfl) dMod_chosen_64) hS (fun h64 H locs hw hP hS => ?_)
      exact J67  _ _ _ _ hw (lv_sub hl [1] rfl) hP hS
    · have hw := hw.2 hc
      refine lv_aload_n S.1 S.2.1 dMod_chosen_34 rfl (lv_at hl 1 rfl) ?_
      refine lv_iconst (v := 0) S.1 S.2.1 dMod_chosen_35 (by decide) ?_
      refine lv_aload_n S.1 S.2.1 dMod_chosen_36 rfl (lv_at hl 1 rfl) ?_
      refine lv_iload_n S.1 S.2.1 dMod_chosen_37 rfl (lv_at hl 3 rfl) ?_
      refine zr_i (zr_V (As := [.int v3]) (rest := [.int 0, .ref (ad 0)]) S hK hT hN hP hS (by decide) (mF_0 _) rfl (cMod_random l D cI cC cE ad A hJ _ _ _ hw) caMod_214 ⟨Nat.le_of_ble_eq_true rfl, Nat.le_of_ble_eq_true rfl⟩ ⟨rfl, rfl⟩ rfl hl.1 rfl (Nat.le_of_ble_eq_true rfl) dMod_chosen_38) hS (fun r38 h38 H locs hw hP hS => ?_)
      refine lv_iload_n S.1 S.2.1 dMod_chosen_41 rfl (lv_at hl 2 rfl) ?_
      refine zr_v (zr_V (As := [.int 0, .int r38, .int v2]) (rest := []) S hK hT hN hP hS (by decide) (mF_0 _) rfl (cMod_take l D cI cC cE ad A hJ _ _ _ _ _ hw) caMod_217 ⟨Nat.le_of_ble_eq_true rfl, Nat.le_of_ble_eq_true rfl⟩ ⟨rfl, rfl⟩ rfl hl.1 rfl (Nat.le_of_ble_eq_true rfl) dMod_chosen_42) hS (fun h42 H locs hw hP hS => ?_)
      refine lv_goto S.1 S.2.1 dMod_chosen_45 rfl ?_
      exact J67  _ _ _ _ hw (lv_sub hl [1] rfl) hP hS
  have J26 : ∀ (v2 : Int32) (v3 : Int32) (h : zM) (H : Heap) (locs : List Loc) (ls : Array Slot), wbMod_chosen_26 post v2 v3 h → lv_has ls 5 [(0, .ref (ad 0)), (2, .int v2), (3, .int v3)] → va_P D zcl (zW 28 ad (mF ad cI) h) H → va_S A s.heap H locs → W p l e rmMod_chosen s m ([.ref (ad 0), .int x1, .int x2] : List Value).toArray below meth c H locs 0 0 (zQi post D (zty cI cC cE) 28 ad (mF ad cI) A below ([.ref (ad 0), .int x1, .int x2] : List Value).toArray s) (F0 m 26 ls []) := by
    intro v2 v3 h H locs ls hw hl hP hS
    unfold wbMod_chosen_26 at hw
    refine lv_iconst (v := 0) S.1 S.2.1 dMod_chosen_26 (by decide) ?_
    exact J27 _ _ _ _ _ _ _ hw (lv_sub hl [0, 1, 2] rfl) hP hS
  unfold wpMod_chosen at hw
  refine lv_aload_n S.1 S.2.1 dMod_chosen_0 rfl (lv_at hl 0 rfl) ?_
  refine lv_iload_n S.1 S.2.1 dMod_chosen_1 rfl (lv_at hl 1 rfl) ?_
  refine zr_i (zr_V (As := [.int x1]) (rest := []) S hK hT hN hP hS (by decide) (mF_0 _) rfl (cMod_offered l D cI cC cE ad A hJ _ _ _ hw) caMod_211 ⟨Nat.le_of_ble_eq_true rfl, Nat.le_of_ble_eq_true rfl⟩ ⟨rfl, rfl⟩ rfl hl.1 rfl (Nat.le_of_ble_eq_true rfl) dMod_chosen_2) hS (fun r2 h2 H locs hw hP hS => ?_)
  refine lv_istore_n (lv' := [(3, .int r2), (0, .ref (ad 0)), (1, .int x1), (2, .int x2)]) S.1 S.2.1 dMod_chosen_5 rfl hl (by decide) rfl (fun ls hl => ?_)
  refine lv_iload_n S.1 S.2.1 dMod_chosen_6 rfl (lv_at hl 2 rfl) ?_
  refine lv_if_ne S.1 S.2.1 dMod_chosen_7 rfl (fun hc => ?_) (fun hc => ?_)
  · have hw := hw.1 hc
    refine lv_aload_n S.1 S.2.1 dMod_chosen_83 rfl (lv_at hl 1 rfl) ?_
    refine lv_bipush (v := 6) S.1 S.2.1 dMod_chosen_84 (by decide) ?_
    refine zr_i (zr_V (As := [.int 6]) (rest := []) S hK hT hN hP hS (by decide) (mF_0 _) rfl (cMod_random l D cI cC cE ad A hJ _ _ _ hw) caMod_214 ⟨Nat.le_of_ble_eq_true rfl, Nat.le_of_ble_eq_true rfl⟩ ⟨rfl, rfl⟩ rfl hl.1 rfl (Nat.le_of_ble_eq_true rfl) dMod_chosen_86) hS (fun r86 h86 H locs hw hP hS => ?_)
    refine lv_if_ne S.1 S.2.1 dMod_chosen_89 rfl (fun hc => ?_) (fun hc => ?_)
    · have hw := hw.1 hc
      refine lv_aload_n S.1 S.2.1 dMod_chosen_101 rfl (lv_at hl 1 rfl) ?_
      refine lv_iconst (v := 3) S.1 S.2.1 dMod_chosen_102 (by decide) ?_
      refine zr_i (zr_V (As := [.int 3]) (rest := []) S hK hT hN hP hS (by decide) (mF_0 _) rfl (cMod_random l D cI cC cE ad A hJ _ _ _ hw) caMod_214 ⟨Nat.le_of_ble_eq_true rfl, Nat.le_of_ble_eq_true rfl⟩ ⟨rfl, rfl⟩ rfl hl.1 rfl (Nat.le_of_ble_eq_true rfl) dMod_chosen_103) hS (fun r103 h103 H locs hw hP hS => ?_)
      refine lv_if_ne S.1 S.2.1 dMod_chosen_106 rfl (fun hc => ?_) (fun hc => ?_)
      · have hw := hw.1 hc
        exact J127 _ _ _ _ _ _ _ hw (lv_sub hl [1, 2, 3, 0] rfl) hP hS
      · have hw := hw.2 hc
        refine lv_iload_n S.1 S.2.1 dMod_chosen_109 rfl (lv_at hl 3 rfl) ?_
        refine lv_iconst (v := 1) S.1 S.2.1 dMod_chosen_110 (by decide) ?_
        refine lv_icmp_ne S.1 S.2.1 dMod_chosen_111 rfl (fun hc => ?_) (fun hc => ?_)
        · have hw := hw.1 hc
          exact J127 _ _ _ _ _ _ _ hw (lv_sub hl [1, 2, 3, 0] rfl) hP hS
        · have hw := hw.2 hc
          refine lv_aload_n S.1 S.2.1 dMod_chosen_114 rfl (lv_at hl 1 rfl) ?_
          refine zr_get S hK hP (by decide) (mF_0 _) fMod_nowHow q843 rfl dMod_chosen_115 ?_
          refine lv_iconst (v := 0) S.1 S.2.1 dMod_chosen_118 (by decide) ?_
          obtain ⟨z119, hw⟩ := hw
          refine zr_ald S hK hP (by decide) (mF_11 _) 0 rfl z119 dMod_chosen_119 ?_
          refine lv_if_ne S.1 S.2.1 dMod_chosen_120 rfl (fun hc => ?_) (fun hc => ?_)
          · have hw := hw.1 hc
            exact J127 _ _ _ _ _ _ _ hw (lv_sub hl [1, 2, 3, 0] rfl) hP hS
          · have hw := hw.2 hc
            refine lv_iconst (v := 1) S.1 S.2.1 dMod_chosen_123 (by decide) ?_
            refine lv_goto S.1 S.2.1 dMod_chosen_124 rfl ?_
            exact J128 _ _ _ _ _ _ _ _ hw (lv_sub hl [1, 2, 3, 0] rfl) hP hS
    · have hw := hw.2 hc
      refine lv_aload_n S.1 S.2.1 dMod_chosen_92 rfl (lv_at hl 1 rfl) ?_
      refine lv_iload_n S.1 S.2.1 dMod_chosen_93 rfl (lv_at hl 3 rfl) ?_
      refine lv_iconst (v := 2) S.1 S.2.1 dMod_chosen_94 (by decide) ?_
      refine lv_iconst (v := 0) S.1 S.2.1 dMod_chosen_95 (by decide) ?_
      refine zr_v (zr_V (As := [.int x2, .int 2, .int 0]) (rest := []) S hK hT hN hP hS (by decide) (mF_0 _) rfl (cMod_choose l D cI cC cE ad A hJ _ _ _ _ _ hw) caMod_221 ⟨Nat.le_of_ble_eq_true rfl, Nat.le_of_ble_eq_true rfl⟩ ⟨rfl, rfl⟩ rfl hl.1 rfl (Nat.le_of_ble_eq_true rfl) dMod_chosen_96) hS (fun h96 H locs hw hP hS => ?_)
      refine lv_iconst (v := 0) S.1 S.2.1 dMod_chosen_99 (by decide) ?_
      exact zr_iret S hr hlk hK hP hS rfl hw dMod_chosen_100
  · have hw := hw.2 hc
    refine lv_aload_n S.1 S.2.1 dMod_chosen_10 rfl (lv_at hl 1 rfl) ?_
    refine lv_iconst (v := 3) S.1 S.2.1 dMod_chosen_11 (by decide) ?_
    refine zr_i (zr_V (As := [.int 3]) (rest := []) S hK hT hN hP hS (by decide) (mF_0 _) rfl (cMod_random l D cI cC cE ad A hJ _ _ _ hw) caMod_214 ⟨Nat.le_of_ble_eq_true rfl, Nat.le_of_ble_eq_true rfl⟩ ⟨rfl, rfl⟩ rfl hl.1 rfl (Nat.le_of_ble_eq_true rfl) dMod_chosen_12) hS (fun r12 h12 H locs hw hP hS => ?_)
    refine lv_if_ne S.1 S.2.1 dMod_chosen_15 rfl (fun hc => ?_) (fun hc => ?_)
    · have hw := hw.1 hc
      exact J26 _ _ _ _ _ _ hw (lv_sub hl [1, 3, 0] rfl) hP hS
    · have hw := hw.2 hc
      refine lv_iload_n S.1 S.2.1 dMod_chosen_18 rfl (lv_at hl 0 rfl) ?_
      refine lv_if_le S.1 S.2.1 dMod_chosen_19 rfl (fun hc => ?_) (fun hc => ?_)
      · have hw := hw.1 hc
        exact J26 _ _ _ _ _ _ hw (lv_sub hl [1, 3, 0] rfl) hP hS
      · have hw := hw.2 hc
        refine lv_iconst (v := 1) S.1 S.2.1 dMod_chosen_22 (by decide) ?_
        refine lv_goto S.1 S.2.1 dMod_chosen_23 rfl ?_
        exact J27 _ _ _ _ _ _ _ hw (lv_sub hl [1, 3, 0] rfl) hP hS
/-! Mod.put -/
theorem dMod_put_0 : decode bMod_put 0 = .ok (.aload_n 0, 1) := by decide +kernel
theorem dMod_put_1 : decode bMod_put 1 = .ok (.getfield 35, 3) := by decide +kernel
theorem dMod_put_4 : decode bMod_put 4 = .ok (.aload_n 0, 1) := by decide +kernel
theorem dMod_put_5 : decode bMod_put 5 = .ok (.getfield 156, 3) := by decide +kernel
theorem dMod_put_8 : decode bMod_put 8 = .ok (.iload_n 1, 1) := by decide +kernel
theorem dMod_put_9 : decode bMod_put 9 = .ok (.iastore, 1) := by decide +kernel
theorem dMod_put_10 : decode bMod_put 10 = .ok (.iconst 0, 1) := by decide +kernel
theorem dMod_put_11 : decode bMod_put 11 = .ok (.istore_n 2, 1) := by decide +kernel
theorem dMod_put_12 : decode bMod_put 12 = .ok (.iload_n 2, 1) := by decide +kernel
theorem dMod_put_13 : decode bMod_put 13 = .ok (.iconst 2, 1) := by decide +kernel
theorem dMod_put_14 : decode bMod_put 14 = .ok (.if_icmp .ge 82, 3) := by decide +kernel
theorem dMod_put_17 : decode bMod_put 17 = .ok (.iload_n 2, 1) := by decide +kernel
theorem dMod_put_18 : decode bMod_put 18 = .ok (.aload_n 0, 1) := by decide +kernel
theorem dMod_put_19 : decode bMod_put 19 = .ok (.getfield 19, 3) := by decide +kernel
theorem dMod_put_22 : decode bMod_put 22 = .ok (.iload_n 1, 1) := by decide +kernel
theorem dMod_put_23 : decode bMod_put 23 = .ok (.iaload, 1) := by decide +kernel
theorem dMod_put_24 : decode bMod_put 24 = .ok (.invokestatic 122, 3) := by decide +kernel
theorem dMod_put_27 : decode bMod_put 27 = .ok (.if_icmp .ge 7, 3) := by decide +kernel
theorem dMod_put_30 : decode bMod_put 30 = .ok (.iconst 1, 1) := by decide +kernel
theorem dMod_put_31 : decode bMod_put 31 = .ok (.goto 4, 3) := by decide +kernel
theorem dMod_put_34 : decode bMod_put 34 = .ok (.iconst 0, 1) := by decide +kernel
theorem dMod_put_35 : decode bMod_put 35 = .ok (.istore_n 3, 1) := by decide +kernel
theorem dMod_put_36 : decode bMod_put 36 = .ok (.aload_n 0, 1) := by decide +kernel
theorem dMod_put_37 : decode bMod_put 37 = .ok (.getfield 38, 3) := by decide +kernel
theorem dMod_put_40 : decode bMod_put 40 = .ok (.iconst 2, 1) := by decide +kernel
theorem dMod_put_41 : decode bMod_put 41 = .ok (.aload_n 0, 1) := by decide +kernel
theorem dMod_put_42 : decode bMod_put 42 = .ok (.getfield 156, 3) := by decide +kernel
theorem dMod_put_45 : decode bMod_put 45 = .ok (.imul, 1) := by decide +kernel
theorem dMod_put_46 : decode bMod_put 46 = .ok (.iload_n 2, 1) := by decide +kernel
theorem dMod_put_47 : decode bMod_put 47 = .ok (.iadd, 1) := by decide +kernel
theorem dMod_put_48 : decode bMod_put 48 = .ok (.iload_n 3, 1) := by decide +kernel
theorem dMod_put_49 : decode bMod_put 49 = .ok (.ifCond .eq 12, 3) := by decide +kernel
theorem dMod_put_52 : decode bMod_put 52 = .ok (.aload_n 0, 1) := by decide +kernel
theorem dMod_put_53 : decode bMod_put 53 = .ok (.getfield 44, 3) := by decide +kernel
theorem dMod_put_56 : decode bMod_put 56 = .ok (.iload_n 2, 1) := by decide +kernel
theorem dMod_put_57 : decode bMod_put 57 = .ok (.iaload, 1) := by decide +kernel
theorem dMod_put_58 : decode bMod_put 58 = .ok (.goto 4, 3) := by decide +kernel
theorem dMod_put_61 : decode bMod_put 61 = .ok (.iconst 2, 1) := by decide +kernel
theorem dMod_put_62 : decode bMod_put 62 = .ok (.iastore, 1) := by decide +kernel
theorem dMod_put_63 : decode bMod_put 63 = .ok (.aload_n 0, 1) := by decide +kernel
theorem dMod_put_64 : decode bMod_put 64 = .ok (.getfield 41, 3) := by decide +kernel
theorem dMod_put_67 : decode bMod_put 67 = .ok (.iconst 2, 1) := by decide +kernel
theorem dMod_put_68 : decode bMod_put 68 = .ok (.aload_n 0, 1) := by decide +kernel
theorem dMod_put_69 : decode bMod_put 69 = .ok (.getfield 156, 3) := by decide +kernel
theorem dMod_put_72 : decode bMod_put 72 = .ok (.imul, 1) := by decide +kernel
theorem dMod_put_73 : decode bMod_put 73 = .ok (.iload_n 2, 1) := by decide +kernel
theorem dMod_put_74 : decode bMod_put 74 = .ok (.iadd, 1) := by decide +kernel
theorem dMod_put_75 : decode bMod_put 75 = .ok (.iload_n 3, 1) := by decide +kernel
theorem dMod_put_76 : decode bMod_put 76 = .ok (.ifCond .eq 12, 3) := by decide +kernel
theorem dMod_put_79 : decode bMod_put 79 = .ok (.aload_n 0, 1) := by decide +kernel
theorem dMod_put_80 : decode bMod_put 80 = .ok (.getfield 47, 3) := by decide +kernel
theorem dMod_put_83 : decode bMod_put 83 = .ok (.iload_n 2, 1) := by decide +kernel
theorem dMod_put_84 : decode bMod_put 84 = .ok (.iaload, 1) := by decide +kernel
theorem dMod_put_85 : decode bMod_put 85 = .ok (.goto 4, 3) := by decide +kernel
theorem dMod_put_88 : decode bMod_put 88 = .ok (.iconst 0, 1) := by decide +kernel
theorem dMod_put_89 : decode bMod_put 89 = .ok (.iastore, 1) := by decide +kernel
theorem dMod_put_90 : decode bMod_put 90 = .ok (.iinc 2 1, 3) := by decide +kernel
theorem dMod_put_93 : decode bMod_put 93 = .ok (.goto (-81), 3) := by decide +kernel
theorem dMod_put_96 : decode bMod_put 96 = .ok (.aload_n 0, 1) := by decide +kernel
theorem dMod_put_97 : decode bMod_put 97 = .ok (.dup, 1) := by decide +kernel
theorem dMod_put_98 : decode bMod_put 98 = .ok (.getfield 156, 3) := by decide +kernel
theorem dMod_put_101 : decode bMod_put 101 = .ok (.iconst 1, 1) := by decide +kernel
theorem dMod_put_102 : decode bMod_put 102 = .ok (.iadd, 1) := by decide +kernel
theorem dMod_put_103 : decode bMod_put 103 = .ok (.putfield 156, 3) := by decide +kernel
theorem dMod_put_106 : decode bMod_put 106 = .ok (.return_, 1) := by decide +kernel
def wbMod_put_89 (post : zM → Prop) (L12 : (Int32 × Int32 × zM) → Prop) (v1 : Int32) (v2 : Int32) (k1 : Int32) (k2 : Int32) (h : zM) : Prop := (vp_in k1 40 ∧ ∀ h89 : zM, h89 = zu h 10 (Int32.toNatClampNeg k1) k2 → L12 (v1, (v2 + 1), h89))
def wbMod_put_62 (post : zM → Prop) (L12 : (Int32 × Int32 × zM) → Prop) (v1 : Int32) (v2 : Int32) (v3 : Int32) (k1 : Int32) (k2 : Int32) (h : zM) : Prop := (vp_in k1 40 ∧ ∀ h62 : zM, h62 = zu h 9 (Int32.toNatClampNeg k1) k2 → ((v3 = 0 → wbMod_put_89 post L12 v1 v2 ((2 * (h62 0 11)) + v2) 0 h62) ∧ (¬ v3 = 0 → (vp_in v2 2 ∧ wbMod_put_89 post L12 v1 v2 ((2 * (h62 0 11)) + v2) (h62 12 (Int32.toNatClampNeg v2)) h62))))
def wbMod_put_35 (post : zM → Prop) (L12 : (Int32 × Int32 × zM) → Prop) (v1 : Int32) (v2 : Int32) (k0 : Int32) (h : zM) : Prop := ((k0 = 0 → wbMod_put_62 post L12 v1 v2 k0 ((2 * (h 0 11)) + v2) 2 h) ∧ (¬ k0 = 0 → (vp_in v2 2 ∧ wbMod_put_62 post L12 v1 v2 k0 ((2 * (h 0 11)) + v2) (h 11 (Int32.toNatClampNeg v2)) h)))
def stMod_put_12 (post : zM → Prop) (L12 : (Int32 × Int32 × zM) → Prop) : (Int32 × Int32 × zM) → Prop := fun s => match s with
  | (v1, v2, h) => (((2 ≤ v2) → ∀ h103 : zM, h103 = zu h 0 11 ((h 0 11) + 1) → post h103) ∧ (¬ (2 ≤ v2) → (vp_in v1 10 ∧ wpMod_arity (h 4 (Int32.toNatClampNeg v1)) h (fun r24 h24 => (((r24 ≤ v2) → wbMod_put_35 post L12 v1 v2 0 h24) ∧ (¬ (r24 ≤ v2) → wbMod_put_35 post L12 v1 v2 1 h24))))))
def wpMod_put (x1 : Int32) (h : zM) (post : zM → Prop) : Prop := (vp_in (h 0 11) 20 ∧ ∀ h9 : zM, h9 = zu h 8 (Int32.toNatClampNeg (h 0 11)) x1 → zL (stMod_put_12 post) (x1, 0, h9))
abbrev rmMod_put : Room := { frames := 1, cells := 0, slots := 0, locals := 20 }
set_option maxHeartbeats 4000000 in
set_option maxRecDepth 100000 in
theorem cMod_put (l : Launch) (D : va_G) (cI cC cE : ClassId) (ad : Nat → Nat) (A : Nat → Prop) (hJ : zJ A 28 ad) (x1 : Int32) (h : zM) (post : zM → Prop) (hw : wpMod_put x1 h post) : Met l yMod_put (.code yMod_put bMod_put 4 none :: zt) rmMod_put (va_Pc [.ref (ad 0), .int x1] (zPre D (zty cI cC cE) 28 ad (mF ad cI) A h)) (va_Qv post (zPst D (zty cI cC cE) 28 ad (mF ad cI)) A) 0 0 A := by
  refine Met.ofW (cc := bMod_put) (maxL := 4) (ret := none) (by decide) rfl ?_
  intro p e s m args below meth c s₁ B hml hv
  obtain ⟨rfl, hP, hK, hT, hN⟩ := hv
  have hr := B.returns
  have hlk := B.notSynchronized
  have S : zS p m c bMod_put 4 s _ "CallExplorerModel" := ⟨B.exec, B.bytes, hml, findClass_of_methodNamed B.named, fun w hw => atoms_spec (ws := .code yMod_put bMod_put 4 none :: zt) B.pre w (List.mem_cons_of_mem _ hw)⟩
  have hS : va_S A s.heap s.heap [] := va_S.rf
  have hl := lv_entry ([.ref (ad 0), .int x1]) (n := 4) (Nat.le_of_ble_eq_true rfl)
  rw [lg_entry_eq]
  generalize (lg_sl ([.ref (ad 0), .int x1]) ++ List.replicate (4 - (lg_sl ([.ref (ad 0), .int x1])).length) Slot.unset).toArray = ls at hl ⊢
  have hl : lv_has ls 4 [(0, .ref (ad 0)), (1, .int x1)] := hl
  show W p l e rmMod_put s m ([.ref (ad 0), .int x1] : List Value).toArray below meth c s.heap [] 0 0 (zQv post D (zty cI cC cE) 28 ad (mF ad cI) A below ([.ref (ad 0), .int x1] : List Value).toArray s) _
  have J12 : ∀ (fu : Nat) (v1 : Int32) (v2 : Int32) (h : zM) (H : Heap) (locs : List Loc) (ls : Array Slot), zl (stMod_put_12 post) fu (v1, v2, h) → lv_has ls 4 [(0, .ref (ad 0)), (1, .int v1), (2, .int v2)] → va_P D zcl (zW 28 ad (mF ad cI) h) H → va_S A s.heap H locs → W p l e rmMod_put s m ([.ref (ad 0), .int x1] : List Value).toArray below meth c H locs 0 0 (zQv post D (zty cI cC cE) 28 ad (mF ad cI) A below ([.ref (ad 0), .int x1] : List Value).toArray s) (F0 m 12 ls []) := by
    intro fu12
    induction fu12 with
    | zero =>
      intro v1 v2 h H locs ls hw
      exact (zl_0 hw).elim
    | succ fu12 ih12 =>
      intro v1 v2 h H locs ls hw hl hP hS
      have hw := zl_s hw
      generalize zl (stMod_put_12 post) fu12 = L12 at hw ih12
      have J89 : ∀ (v1 : Int32) (v2 : Int32) (k1 : Int32) (k2 : Int32) (h : zM) (H : Heap) (locs : List Loc) (ls : Array Slot), wbMod_put_89 post L12 v1 v2 k1 k2 h → lv_has ls 4 [(0, .ref (ad 0)), (1, .int v1), (2, .int v2)] → va_P D zcl (zW 28 ad (mF ad cI) h) H → va_S A s.heap H locs → W p l e rmMod_put s m ([.ref (ad 0), .int x1] : List Value).toArray below meth c H locs 0 0 (zQv post D (zty cI cC cE) 28 ad (mF ad cI) A below ([.ref (ad 0), .int x1] : List Value).toArray s) (F0 m 89 ls [.int k2, .int k1, .ref (ad 10)]) := by
        intro v1 v2 k1 k2 h H locs ls hw hl hP hS
        unfold wbMod_put_89 at hw
        obtain ⟨z89, hw⟩ := hw
        refine zr_ast S hK hJ hP hS (by decide) mF_10 0 rfl z89 dMod_put_89 (fun h89 H locs e89 hP hS => ?_)
        have hw := hw h89 e89
        refine lv_iinc (v := (v2 + 1)) (lv' := [(2, .int (v2 + 1)), (0, .ref (ad 0)), (1, .int v1)]) (k := 2) S.1 S.2.1 dMod_put_90 hl rfl rfl (by decide) rfl (fun ls hl => ?_)
        refine lv_goto S.1 S.2.1 dMod_put_93 rfl ?_
        exact ih12 _ _ _ _ _ _ hw (lv_sub hl [1, 2, 0] rfl) hP hS
      have J62 : ∀ (v1 : Int32) (v2 : Int32) (v3 : Int32) (k1 : Int32) (k2 : Int32) (h : zM) (H : Heap) (locs : List Loc) (ls : Array Slot), wbMod_put_62 post L12 v1 v2 v3 k1 k2 h → lv_has ls 4 [(0, .ref (ad 0)), (1, .int v1), (2, .int v2), (3, .int v3)] → va_P D zcl (zW 28 ad (mF ad cI) h) H → va_S A s.heap H locs → W p l e rmMod_put s m ([.ref (ad 0), .int x1] : List Value).toArray below meth c H locs 0 0 (zQv post D (zty cI cC cE) 28 ad (mF ad cI) A below ([.ref (ad 0), .int x1] : List Value).toArray s) (F0 m 62 ls [.int k2, .int k1, .ref (ad 9)]) := by
        intro v1 v2 v3 k1 k2 h H locs ls hw hl hP hS
        unfold wbMod_put_62 at hw
        obtain ⟨z62, hw⟩ := hw
        refine zr_ast S hK hJ hP hS (by decide) mF_9 0 rfl z62 dMod_put_62 (fun h62 H locs e62 hP hS => ?_)
        have hw := hw h62 e62
        refine lv_aload_n S.1 S.2.1 dMod_put_63 rfl (lv_at hl 0 rfl) ?_
        refine zr_get S hK hP (by decide) (mF_0 _) fMod_arg q842 rfl dMod_put_64 ?_
        refine lv_iconst (v := 2) S.1 S.2.1 dMod_put_67 (by decide) ?_
        refine lv_aload_n S.1 S.2.1 dMod_put_68 rfl (lv_at hl 0 rfl) ?_
        refine zr_get S hK hP (by decide) (mF_0 _) fMod_size q839 rfl dMod_put_69 ?_
        refine lv_imul S.1 S.2.1 dMod_put_72 ?_
        refine lv_iload_n S.1 S.2.1 dMod_put_73 rfl (lv_at hl 2 rfl) ?_
        refine lv_iadd S.1 S.2.1 dMod_put_74 ?_
        refine lv_iload_n S.1 S.2.1 dMod_put_75 rfl (lv_at hl 3 rfl) ?_
        refine lv_if_eq S.1 S.2.1 dMod_put_76 rfl (fun hc => ?_) (fun hc => ?_)
        · have hw := hw.1 hc
          refine lv_iconst (v := 0) S.1 S.2.1 dMod_put_88 (by decide) ?_
          exact J89 _ _ _ _ _ _ _ _ hw (lv_sub hl [0, 1, 2] rfl) hP hS
        · have hw := hw.2 hc
          refine lv_aload_n S.1 S.2.1 dMod_put_79 rfl (lv_at hl 0 rfl) ?_
          refine zr_get S hK hP (by decide) (mF_0 _) fMod_nowArg q844 rfl dMod_put_80 ?_
          refine lv_iload_n S.1 S.2.1 dMod_put_83 rfl (lv_at hl 2 rfl) ?_
          obtain ⟨z84, hw⟩ := hw
          refine zr_ald S hK hP (by decide) (mF_12 _) 0 rfl z84 dMod_put_84 ?_
          refine lv_goto S.1 S.2.1 dMod_put_85 rfl ?_
          exact J89 _ _ _ _ _ _ _ _ hw (lv_sub hl [0, 1, 2] rfl) hP hS
      have J35 : ∀ (v1 : Int32) (v2 : Int32) (k0 : Int32) (h : zM) (H : Heap) (locs : List Loc) (ls : Array Slot), wbMod_put_35 post L12 v1 v2 k0 h → lv_has ls 4 [(0, .ref (ad 0)), (1, .int v1), (2, .int v2)] → va_P D zcl (zW 28 ad (mF ad cI) h) H → va_S A s.heap H locs → W p l e rmMod_put s m ([.ref (ad 0), .int x1] : List Value).toArray below meth c H locs 0 0 (zQv post D (zty cI cC cE) 28 ad (mF ad cI) A below ([.ref (ad 0), .int x1] : List Value).toArray s) (F0 m 35 ls [.int k0]) := by
        intro v1 v2 k0 h H locs ls hw hl hP hS
        unfold wbMod_put_35 at hw
        refine lv_istore_n (lv' := [(3, .int k0), (0, .ref (ad 0)), (1, .int v1), (2, .int v2)]) S.1 S.2.1 dMod_put_35 rfl hl (by decide) rfl (fun ls hl => ?_)
        refine lv_aload_n S.1 S.2.1 dMod_put_36 rfl (lv_at hl 1 rfl) ?_
        refine zr_get S hK hP (by decide) (mF_0 _) fMod_how q841 rfl dMod_put_37 ?_
        refine lv_iconst (v := 2) S.1 S.2.1 dMod_put_40 (by decide) ?_
        refine lv_aload_n S.1 S.2.1 dMod_put_41 rfl (lv_at hl 1 rfl) ?_
        refine zr_get S hK hP (by decide) (mF_0 _) fMod_size q839 rfl dMod_put_42 ?_
        refine lv_imul S.1 S.2.1 dMod_put_45 ?_
        refine lv_iload_n S.1 S.2.1 dMod_put_46 rfl (lv_at hl 3 rfl) ?_
        refine lv_iadd S.1 S.2.1 dMod_put_47 ?_
        refine lv_iload_n S.1 S.2.1 dMod_put_48 rfl (lv_at hl 0 rfl) ?_
        refine lv_if_eq S.1 S.2.1 dMod_put_49 rfl (fun hc => ?_) (fun hc => ?_)
        · have hw := hw.1 hc
          refine lv_iconst (v := 2) S.1 S.2.1 dMod_put_61 (by decide) ?_
          exact J62 _ _ _ _ _ _ _ _ _ hw (lv_sub hl [1, 2, 3, 0] rfl) hP hS
        · have hw := hw.2 hc
          refine lv_aload_n S.1 S.2.1 dMod_put_52 rfl (lv_at hl 1 rfl) ?_
          refine zr_get S hK hP (by decide) (mF_0 _) fMod_nowHow q843 rfl dMod_put_53 ?_
          refine lv_iload_n S.1 S.2.1 dMod_put_56 rfl (lv_at hl 3 rfl) ?_
          obtain ⟨z57, hw⟩ := hw
          refine zr_ald S hK hP (by decide) (mF_11 _) 0 rfl z57 dMod_put_57 ?_
          refine lv_goto S.1 S.2.1 dMod_put_58 rfl ?_
          exact J62 _ _ _ _ _ _ _ _ _ hw (lv_sub hl [1, 2, 3, 0] rfl) hP hS
      unfold stMod_put_12 at hw
      dsimp only at hw
      refine lv_iload_n S.1 S.2.1 dMod_put_12 rfl (lv_at hl 2 rfl) ?_
      refine lv_iconst (v := 2) S.1 S.2.1 dMod_put_13 (by decide) ?_
      refine lv_icmp_ge S.1 S.2.1 dMod_put_14 rfl (fun hc => ?_) (fun hc => ?_)
      · have hw := hw.1 hc
        refine lv_aload_n S.1 S.2.1 dMod_put_96 rfl (lv_at hl 0 rfl) ?_
        refine lv_dup S.1 S.2.1 dMod_put_97 rfl ?_
        refine zr_get S hK hP (by decide) (mF_0 _) fMod_size q839 rfl dMod_put_98 ?_
        refine lv_iconst (v := 1) S.1 S.2.1 dMod_put_101 (by decide) ?_
        refine lv_iadd S.1 S.2.1 dMod_put_102 ?_
        refine zr_put S hK hJ hP hS (by decide) (mF_0 _) fMod_size q839 rfl rfl (Nat.le_of_ble_eq_true rfl) (mF_0 _) dMod_put_103 (fun h103 H locs e103 hP hS => ?_)
        have hw := hw h103 e103
        exact zr_vret S hr hlk hK hP hS hw dMod_put_106
      · have hw := hw.2 hc
        refine lv_iload_n S.1 S.2.1 dMod_put_17 rfl (lv_at hl 2 rfl) ?_
        refine lv_aload_n S.1 S.2.1 dMod_put_18 rfl (lv_at hl 0 rfl) ?_
        refine zr_get S hK hP (by decide) (mF_0 _) fMod_kind q834 rfl dMod_put_19 ?_
        refine lv_iload_n S.1 S.2.1 dMod_put_22 rfl (lv_at hl 1 rfl) ?_
        obtain ⟨z23, hw⟩ := hw
        refine zr_ald S hK hP (by decide) (mF_4 _) 0 rfl z23 dMod_put_23 ?_
        refine zr_i (zr_T (As := [.int (h 4 (Int32.toNatClampNeg v1))]) (rest := [.int v2]) S hK hT hN hP hS (cMod_arity l D cI cC cE ad A hJ _ _ _ hw) caMod_122 ⟨Nat.le_of_ble_eq_true rfl, Nat.le_of_ble_eq_true rfl⟩ ⟨rfl, rfl⟩ rfl hl.1 rfl (Nat.le_of_ble_eq_true rfl) dMod_put_24) hS (fun r24 h24 H locs hw hP hS => ?_)
        refine lv_icmp_ge S.1 S.2.1 dMod_put_27 rfl (fun hc => ?_) (fun hc => ?_)
        · have hw := hw.1 hc
          refine lv_iconst (v := 0) S.1 S.2.1 dMod_put_34 (by decide) ?_
          exact J35 _ _ _ _ _ _ _ hw (lv_sub hl [0, 1, 2] rfl) hP hS
        · have hw := hw.2 hc
          refine lv_iconst (v := 1) S.1 S.2.1 dMod_put_30 (by decide) ?_
          refine lv_goto S.1 S.2.1 dMod_put_31 rfl ?_
          exact J35 _ _ _ _ _ _ _ hw (lv_sub hl [0, 1, 2] rfl) hP hS
  unfold wpMod_put at hw
  refine lv_aload_n S.1 S.2.1 dMod_put_0 rfl (lv_at hl 0 rfl) ?_
  refine zr_get S hK hP (by decide) (mF_0 _) fMod_op q840 rfl dMod_put_1 ?_
  refine lv_aload_n S.1 S.2.1 dMod_put_4 rfl (lv_at hl 0 rfl) ?_
  refine zr_get S hK hP (by decide) (mF_0 _) fMod_size q839 rfl dMod_put_5 ?_
  refine lv_iload_n S.1 S.2.1 dMod_put_8 rfl (lv_at hl 1 rfl) ?_
  obtain ⟨z9, hw⟩ := hw
  refine zr_ast S hK hJ hP hS (by decide) mF_8 0 rfl z9 dMod_put_9 (fun h9 H locs e9 hP hS => ?_)
  have hw := hw h9 e9
  refine lv_iconst (v := 0) S.1 S.2.1 dMod_put_10 (by decide) ?_
  refine lv_istore_n (lv' := [(2, .int 0), (0, .ref (ad 0)), (1, .int x1)]) S.1 S.2.1 dMod_put_11 rfl hl (by decide) rfl (fun ls hl => ?_)
  obtain ⟨fu, hw⟩ := hw
  exact J12 fu _ _ _ _ _ _ hw (lv_sub hl [1, 2, 0] rfl) hP hS
