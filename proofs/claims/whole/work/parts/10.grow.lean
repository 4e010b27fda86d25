/-! predicates and contracts, printed by wip/whole/gen -/
/-! Grower.addLiteral -/
theorem dGrower_addLiteral_0 : decode bGrower_addLiteral 0 = .ok (.aload_n 0, 1) := by decide +kernel
theorem dGrower_addLiteral_1 : decode bGrower_addLiteral 1 = .ok (.getfield 44, 3) := by decide +kernel
theorem dGrower_addLiteral_4 : decode bGrower_addLiteral 4 = .ok (.bipush 8, 2) := by decide +kernel
theorem dGrower_addLiteral_6 : decode bGrower_addLiteral 6 = .ok (.if_icmp .lt 5, 3) := by decide +kernel
theorem dGrower_addLiteral_9 : decode bGrower_addLiteral 9 = .ok (.iconst (-1), 1) := by decide +kernel
theorem dGrower_addLiteral_10 : decode bGrower_addLiteral 10 = .ok (.ireturn, 1) := by decide +kernel
theorem dGrower_addLiteral_11 : decode bGrower_addLiteral 11 = .ok (.iconst 0, 1) := by decide +kernel
theorem dGrower_addLiteral_12 : decode bGrower_addLiteral 12 = .ok (.istore_n 2, 1) := by decide +kernel
theorem dGrower_addLiteral_13 : decode bGrower_addLiteral 13 = .ok (.iload_n 2, 1) := by decide +kernel
theorem dGrower_addLiteral_14 : decode bGrower_addLiteral 14 = .ok (.aload_n 0, 1) := by decide +kernel
theorem dGrower_addLiteral_15 : decode bGrower_addLiteral 15 = .ok (.getfield 44, 3) := by decide +kernel
theorem dGrower_addLiteral_18 : decode bGrower_addLiteral 18 = .ok (.if_icmp .ge 21, 3) := by decide +kernel
theorem dGrower_addLiteral_21 : decode bGrower_addLiteral 21 = .ok (.aload_n 0, 1) := by decide +kernel
theorem dGrower_addLiteral_22 : decode bGrower_addLiteral 22 = .ok (.getfield 18, 3) := by decide +kernel
theorem dGrower_addLiteral_25 : decode bGrower_addLiteral 25 = .ok (.iload_n 2, 1) := by decide +kernel
theorem dGrower_addLiteral_26 : decode bGrower_addLiteral 26 = .ok (.iaload, 1) := by decide +kernel
theorem dGrower_addLiteral_27 : decode bGrower_addLiteral 27 = .ok (.iload_n 1, 1) := by decide +kernel
theorem dGrower_addLiteral_28 : decode bGrower_addLiteral 28 = .ok (.if_icmp .ne 5, 3) := by decide +kernel
theorem dGrower_addLiteral_31 : decode bGrower_addLiteral 31 = .ok (.iconst (-1), 1) := by decide +kernel
theorem dGrower_addLiteral_32 : decode bGrower_addLiteral 32 = .ok (.ireturn, 1) := by decide +kernel
theorem dGrower_addLiteral_33 : decode bGrower_addLiteral 33 = .ok (.iinc 2 1, 3) := by decide +kernel
theorem dGrower_addLiteral_36 : decode bGrower_addLiteral 36 = .ok (.goto (-23), 3) := by decide +kernel
theorem dGrower_addLiteral_39 : decode bGrower_addLiteral 39 = .ok (.aload_n 0, 1) := by decide +kernel
theorem dGrower_addLiteral_40 : decode bGrower_addLiteral 40 = .ok (.getfield 18, 3) := by decide +kernel
theorem dGrower_addLiteral_43 : decode bGrower_addLiteral 43 = .ok (.aload_n 0, 1) := by decide +kernel
theorem dGrower_addLiteral_44 : decode bGrower_addLiteral 44 = .ok (.getfield 44, 3) := by decide +kernel
theorem dGrower_addLiteral_47 : decode bGrower_addLiteral 47 = .ok (.iload_n 1, 1) := by decide +kernel
theorem dGrower_addLiteral_48 : decode bGrower_addLiteral 48 = .ok (.iastore, 1) := by decide +kernel
theorem dGrower_addLiteral_49 : decode bGrower_addLiteral 49 = .ok (.aload_n 0, 1) := by decide +kernel
theorem dGrower_addLiteral_50 : decode bGrower_addLiteral 50 = .ok (.dup, 1) := by decide +kernel
theorem dGrower_addLiteral_51 : decode bGrower_addLiteral 51 = .ok (.getfield 44, 3) := by decide +kernel
theorem dGrower_addLiteral_54 : decode bGrower_addLiteral 54 = .ok (.iconst 1, 1) := by decide +kernel
theorem dGrower_addLiteral_55 : decode bGrower_addLiteral 55 = .ok (.iadd, 1) := by decide +kernel
theorem dGrower_addLiteral_56 : decode bGrower_addLiteral 56 = .ok (.putfield 44, 3) := by decide +kernel
theorem dGrower_addLiteral_59 : decode bGrower_addLiteral 59 = .ok (.aload_n 0, 1) := by decide +kernel
theorem dGrower_addLiteral_60 : decode bGrower_addLiteral 60 = .ok (.getfield 44, 3) := by decide +kernel
theorem dGrower_addLiteral_63 : decode bGrower_addLiteral 63 = .ok (.iconst 1, 1) := by decide +kernel
theorem dGrower_addLiteral_64 : decode bGrower_addLiteral 64 = .ok (.isub, 1) := by decide +kernel
theorem dGrower_addLiteral_65 : decode bGrower_addLiteral 65 = .ok (.ireturn, 1) := by decide +kernel
def stGrower_addLiteral_13 (n : Nat) (ln : Nat → Nat) (post : Int32 → zM → Prop) (L13 : (Int32 × Int32 × zM) → Prop) : (Int32 × Int32 × zM) → Prop := fun s => match s with
  | (v1, v2, h) => ((((h 19 5) ≤ v2) → (vp_in (h 19 5) 8 ∧ ∀ h48 : zM, h48 = zu h 22 (Int32.toNatClampNeg (h 19 5)) v1 → ∀ h56 : zM, h56 = zu h48 19 5 ((h48 19 5) + 1) → post ((h56 19 5) - 1) h56)) ∧ (¬ ((h 19 5) ≤ v2) → (vp_in v2 8 ∧ ((¬ (h 22 (Int32.toNatClampNeg v2)) = v1 → L13 (v1, (v2 + 1), h)) ∧ ((h 22 (Int32.toNatClampNeg v2)) = v1 → post (-1) h)))))
def wpGrower_addLiteral (n : Nat) (ln : Nat → Nat) (x1 : Int32) (h : zM) (post : Int32 → zM → Prop) : Prop := ((((h 19 5) < 8) → zL (stGrower_addLiteral_13 n ln post) (x1, 0, h)) ∧ (¬ ((h 19 5) < 8) → post (-1) h))
abbrev rmGrower_addLiteral : Room := { frames := 0, cells := 0, slots := 0, locals := 0 }
set_option maxHeartbeats 4000000 in
set_option maxRecDepth 100000 in
theorem cGrower_addLiteral (l : Launch) (D : va_G) (cI cC cE : ClassId) (ad : Nat → Nat) (n : Nat) (ln : Nat → Nat) (A : Nat → Prop) (hJ : zJ A (34 + 4 * n) ad) (x1 : Int32) (h : zM) (post : Int32 → zM → Prop) (hw : wpGrower_addLiteral n ln x1 h post) : Met l yGrower_addLiteral (.code yGrower_addLiteral bGrower_addLiteral 3 (some .int) :: zt) rmGrower_addLiteral (va_Pc [.ref (ad 19), .int x1] (zPre D (zty cI cC cE) (34 + 4 * n) ad (zF ad cI cC cE n ln) A h)) (va_Qi post (zPst D (zty cI cC cE) (34 + 4 * n) ad (zF ad cI cC cE n ln)) A) 0 0 A := by
  refine Met.ofW (cc := bGrower_addLiteral) (maxL := 3) (ret := (some .int)) (by decide) rfl ?_
  intro p e s m args below meth c s₁ B hml hv
  obtain ⟨rfl, hP, hK, hT, hN⟩ := hv
  have hr := B.returns
  have hlk := B.notSynchronized
  have S : zS p m c bGrower_addLiteral 3 s _ "CallExplorer$Grower" := ⟨B.exec, B.bytes, hml, findClass_of_methodNamed B.named, fun w hw => atoms_spec (ws := .code yGrower_addLiteral bGrower_addLiteral 3 (some .int) :: zt) B.pre w (List.mem_cons_of_mem _ hw)⟩
  have hS : va_S A s.heap s.heap [] := va_S.rf
  have hl := lv_entry ([.ref (ad 19), .int x1]) (n := 3) (Nat.le_of_ble_eq_true rfl)
  rw [lg_entry_eq]
  generalize (lg_sl ([.ref (ad 19), .int x1]) ++ List.replicate (3 - (lg_sl ([.ref (ad 19), .int x1])).length) Slot.unset).toArray = ls at hl ⊢
  have hl : lv_has ls 3 [(0, .ref (ad 19)), (1, .int x1)] := hl
  show W p l e rmGrower_addLiteral s m ([.ref (ad 19), .int x1] : List Value).toArray below meth c s.heap [] 0 0 (zQi post D (zty cI cC cE) (34 + 4 * n) ad (zF ad cI cC cE n ln) A below ([.ref (ad 19), .int x1] : List Value).toArray s) _
  have J13 : ∀ (fu : Nat) (v1 : Int32) (v2 : Int32) (h : zM) (H : Heap) (locs : List Loc) (ls : Array Slot), zl (stGrower_addLiteral_13 n ln post) fu (v1, v2, h) → lv_has ls 3 [(0, .ref (ad 19)), (1, .int v1), (2, .int v2)] → va_P D zcl (zW (34 + 4 * n) ad (zF ad cI cC cE n ln) h) H → va_S A s.heap H locs → W p l e rmGrower_addLiteral s m ([.ref (ad 19), .int x1] : List Value).toArray below meth c H locs 0 0 (zQi post D (zty cI cC cE) (34 + 4 * n) ad (zF ad cI cC cE n ln) A below ([.ref (ad 19), .int x1] : List Value).toArray s) (F0 m 13 ls []) := by
    intro fu13
    induction fu13 with
    | zero =>
      intro v1 v2 h H locs ls hw
      exact (zl_0 hw).elim
    | succ fu13 ih13 =>
      intro v1 v2 h H locs ls hw hl hP hS
      have hw := zl_s hw
      generalize zl (stGrower_addLiteral_13 n ln post) fu13 = L13 at hw ih13
      unfold stGrower_addLiteral_13 at hw
      dsimp only at hw
      refine lv_iload_n S.1 S.2.1 dGrower_addLiteral_13 rfl (lv_at hl 2 rfl) ?_
      refine lv_aload_n S.1 S.2.1 dGrower_addLiteral_14 rfl (lv_at hl 0 rfl) ?_
      refine zr_get S hK hP (zk (by decide)) (zF_19 _) fGrower_literalCount q197 rfl dGrower_addLiteral_15 ?_
      refine lv_icmp_ge S.1 S.2.1 dGrower_addLiteral_18 rfl (fun hc => ?_) (fun hc => ?_)
      · have hw := hw.1 hc
        refine lv_aload_n S.1 S.2.1 dGrower_addLiteral_39 rfl (lv_at hl 0 rfl) ?_
        refine zr_get S hK hP (zk (by decide)) (zF_19 _) fGrower_literals q196 rfl dGrower_addLiteral_40 ?_
        refine lv_aload_n S.1 S.2.1 dGrower_addLiteral_43 rfl (lv_at hl 0 rfl) ?_
        refine zr_get S hK hP (zk (by decide)) (zF_19 _) fGrower_literalCount q197 rfl dGrower_addLiteral_44 ?_
        refine lv_iload_n S.1 S.2.1 dGrower_addLiteral_47 rfl (lv_at hl 1 rfl) ?_
        obtain ⟨z48, hw⟩ := hw
        refine zr_ast S hK hJ hP hS (zk (by decide)) zF_22 0 rfl z48 dGrower_addLiteral_48 (fun h48 H locs e48 hP hS => ?_)
        have hw := hw h48 e48
        refine lv_aload_n S.1 S.2.1 dGrower_addLiteral_49 rfl (lv_at hl 0 rfl) ?_
        refine lv_dup S.1 S.2.1 dGrower_addLiteral_50 rfl ?_
        refine zr_get S hK hP (zk (by decide)) (zF_19 _) fGrower_literalCount q197 rfl dGrower_addLiteral_51 ?_
        refine lv_iconst (v := 1) S.1 S.2.1 dGrower_addLiteral_54 (by decide) ?_
        refine lv_iadd S.1 S.2.1 dGrower_addLiteral_55 ?_
        refine zr_put S hK hJ hP hS (zk (by decide)) (zF_19 _) fGrower_literalCount q197 rfl rfl (Nat.le_of_ble_eq_true rfl) (zF_19 _) dGrower_addLiteral_56 (fun h56 H locs e56 hP hS => ?_)
        have hw := hw h56 e56
        refine lv_aload_n S.1 S.2.1 dGrower_addLiteral_59 rfl (lv_at hl 0 rfl) ?_
        refine zr_get S hK hP (zk (by decide)) (zF_19 _) fGrower_literalCount q197 rfl dGrower_addLiteral_60 ?_
        refine lv_iconst (v := 1) S.1 S.2.1 dGrower_addLiteral_63 (by decide) ?_
        refine lv_isub S.1 S.2.1 dGrower_addLiteral_64 ?_
        exact zr_iret S hr hlk hK hP hS rfl hw dGrower_addLiteral_65
      · have hw := hw.2 hc
        refine lv_aload_n S.1 S.2.1 dGrower_addLiteral_21 rfl (lv_at hl 0 rfl) ?_
        refine zr_get S hK hP (zk (by decide)) (zF_19 _) fGrower_literals q196 rfl dGrower_addLiteral_22 ?_
        refine lv_iload_n S.1 S.2.1 dGrower_addLiteral_25 rfl (lv_at hl 2 rfl) ?_
        obtain ⟨z26, hw⟩ := hw
        refine zr_ald S hK hP (zk (by decide)) (zF_22 _) 0 rfl z26 dGrower_addLiteral_26 ?_
        refine lv_iload_n S.1 S.2.1 dGrower_addLiteral_27 rfl (lv_at hl 1 rfl) ?_
        refine lv_icmp_ne S.1 S.2.1 dGrower_addLiteral_28 rfl (fun hc => ?_) (fun hc => ?_)
        · have hw := hw.1 hc
          refine lv_iinc (v := (v2 + 1)) (lv' := [(2, .int (v2 + 1)), (0, .ref (ad 19)), (1, .int v1)]) (k := 2) S.1 S.2.1 dGrower_addLiteral_33 hl rfl rfl (by decide) rfl (fun ls hl => ?_)
          refine lv_goto S.1 S.2.1 dGrower_addLiteral_36 rfl ?_
          exact ih13 _ _ _ _ _ _ hw (lv_sub hl [1, 2, 0] rfl) hP hS
        · have hw := hw.2 hc
          refine lv_iconst (v := (-1)) S.1 S.2.1 dGrower_addLiteral_31 (by decide) ?_
          exact zr_iret S hr hlk hK hP hS rfl hw dGrower_addLiteral_32
  unfold wpGrower_addLiteral at hw
  refine lv_aload_n S.1 S.2.1 dGrower_addLiteral_0 rfl (lv_at hl 0 rfl) ?_
  refine zr_get S hK hP (zk (by decide)) (zF_19 _) fGrower_literalCount q197 rfl dGrower_addLiteral_1 ?_
  refine lv_bipush (v := 8) S.1 S.2.1 dGrower_addLiteral_4 (by decide) ?_
  refine lv_icmp_lt S.1 S.2.1 dGrower_addLiteral_6 rfl (fun hc => ?_) (fun hc => ?_)
  · have hw := hw.1 hc
    refine lv_iconst (v := 0) S.1 S.2.1 dGrower_addLiteral_11 (by decide) ?_
    refine lv_istore_n (lv' := [(2, .int 0), (0, .ref (ad 19)), (1, .int x1)]) S.1 S.2.1 dGrower_addLiteral_12 rfl hl (by decide) rfl (fun ls hl => ?_)
    obtain ⟨fu, hw⟩ := hw
    exact J13 fu _ _ _ _ _ _ hw (lv_sub hl [1, 2, 0] rfl) hP hS
  · have hw := hw.2 hc
    refine lv_iconst (v := (-1)) S.1 S.2.1 dGrower_addLiteral_9 (by decide) ?_
    exact zr_iret S hr hlk hK hP hS rfl hw dGrower_addLiteral_10
/-! Grower.random -/
theorem dGrower_random_0 : decode bGrower_random 0 = .ok (.aload_n 0, 1) := by decide +kernel
theorem dGrower_random_1 : decode bGrower_random 1 = .ok (.ldc 47, 2) := by decide +kernel
theorem dGrower_random_3 : decode bGrower_random 3 = .ok (.aload_n 0, 1) := by decide +kernel
theorem dGrower_random_4 : decode bGrower_random 4 = .ok (.getfield 40, 3) := by decide +kernel
theorem dGrower_random_7 : decode bGrower_random 7 = .ok (.imul, 1) := by decide +kernel
theorem dGrower_random_8 : decode bGrower_random 8 = .ok (.sipush 12345, 3) := by decide +kernel
theorem dGrower_random_11 : decode bGrower_random 11 = .ok (.iadd, 1) := by decide +kernel
theorem dGrower_random_12 : decode bGrower_random 12 = .ok (.putfield 40, 3) := by decide +kernel
theorem dGrower_random_15 : decode bGrower_random 15 = .ok (.iload_n 1, 1) := by decide +kernel
theorem dGrower_random_16 : decode bGrower_random 16 = .ok (.iconst 1, 1) := by decide +kernel
theorem dGrower_random_17 : decode bGrower_random 17 = .ok (.if_icmp .ge 7, 3) := by decide +kernel
theorem dGrower_random_20 : decode bGrower_random 20 = .ok (.iconst 0, 1) := by decide +kernel
theorem dGrower_random_21 : decode bGrower_random 21 = .ok (.goto 12, 3) := by decide +kernel
theorem dGrower_random_24 : decode bGrower_random 24 = .ok (.aload_n 0, 1) := by decide +kernel
theorem dGrower_random_25 : decode bGrower_random 25 = .ok (.getfield 40, 3) := by decide +kernel
theorem dGrower_random_28 : decode bGrower_random 28 = .ok (.bipush 16, 2) := by decide +kernel
theorem dGrower_random_30 : decode bGrower_random 30 = .ok (.iushr, 1) := by decide +kernel
theorem dGrower_random_31 : decode bGrower_random 31 = .ok (.iload_n 1, 1) := by decide +kernel
theorem dGrower_random_32 : decode bGrower_random 32 = .ok (.irem, 1) := by decide +kernel
theorem dGrower_random_33 : decode bGrower_random 33 = .ok (.ireturn, 1) := by decide +kernel
def wpGrower_random (n : Nat) (ln : Nat → Nat) (x1 : Int32) (h : zM) (post : Int32 → zM → Prop) : Prop := ∀ h12 : zM, h12 = zu h 19 6 ((1103515245 * (h 19 6)) + 12345) → (((1 ≤ x1) → (¬ x1 = 0 ∧ post (((Int32.toUInt32 (h12 19 6) >>> (Int32.toUInt32 16 &&& Int32.toUInt32 31)).toInt32) - ((Int32.toUInt32 (h12 19 6) >>> (Int32.toUInt32 16 &&& Int32.toUInt32 31)).toInt32) / x1 * x1) h12)) ∧ (¬ (1 ≤ x1) → post 0 h12))
abbrev rmGrower_random : Room := { frames := 0, cells := 0, slots := 0, locals := 0 }
set_option maxHeartbeats 4000000 in
set_option maxRecDepth 100000 in
theorem cGrower_random (l : Launch) (D : va_G) (cI cC cE : ClassId) (ad : Nat → Nat) (n : Nat) (ln : Nat → Nat) (A : Nat → Prop) (hJ : zJ A (34 + 4 * n) ad) (x1 : Int32) (h : zM) (post : Int32 → zM → Prop) (hw : wpGrower_random n ln x1 h post) : Met l yGrower_random (.code yGrower_random bGrower_random 2 (some .int) :: zt) rmGrower_random (va_Pc [.ref (ad 19), .int x1] (zPre D (zty cI cC cE) (34 + 4 * n) ad (zF ad cI cC cE n ln) A h)) (va_Qi post (zPst D (zty cI cC cE) (34 + 4 * n) ad (zF ad cI cC cE n ln)) A) 0 0 A := by
  refine Met.ofW (cc := bGrower_random) (maxL := 2) (ret := (some .int)) (by decide) rfl ?_
  intro p e s m args below meth c s₁ B hml hv
  obtain ⟨rfl, hP, hK, hT, hN⟩ := hv
  have hr := B.returns
  have hlk := B.notSynchronized
  have S : zS p m c bGrower_random 2 s _ "CallExplorer$Grower" := ⟨B.exec, B.bytes, hml, findClass_of_methodNamed B.named, fun w hw => atoms_spec (ws := .code yGrower_random bGrower_random 2 (some .int) :: zt) B.pre w (List.mem_cons_of_mem _ hw)⟩
  have hS : va_S A s.heap s.heap [] := va_S.rf
  have hl := lv_entry ([.ref (ad 19), .int x1]) (n := 2) (Nat.le_of_ble_eq_true rfl)
  rw [lg_entry_eq]
  generalize (lg_sl ([.ref (ad 19), .int x1]) ++ List.replicate (2 - (lg_sl ([.ref (ad 19), .int x1])).length) Slot.unset).toArray = ls at hl ⊢
  have hl : lv_has ls 2 [(0, .ref (ad 19)), (1, .int x1)] := hl
  show W p l e rmGrower_random s m ([.ref (ad 19), .int x1] : List Value).toArray below meth c s.heap [] 0 0 (zQi post D (zty cI cC cE) (34 + 4 * n) ad (zF ad cI cC cE n ln) A below ([.ref (ad 19), .int x1] : List Value).toArray s) _
  unfold wpGrower_random at hw
  refine lv_aload_n S.1 S.2.1 dGrower_random_0 rfl (lv_at hl 0 rfl) ?_
  refine lv_ldc (v := 1103515245) S.1 S.2.1 S.2.2.2.1 (S.2.2.2.2 _ q375) dGrower_random_1 ?_
  refine lv_aload_n S.1 S.2.1 dGrower_random_3 rfl (lv_at hl 0 rfl) ?_
  refine zr_get S hK hP (zk (by decide)) (zF_19 _) fGrower_seed q198 rfl dGrower_random_4 ?_
  refine lv_imul S.1 S.2.1 dGrower_random_7 ?_
  refine lv_sipush (v := 12345) S.1 S.2.1 dGrower_random_8 (by decide) ?_
  refine lv_iadd S.1 S.2.1 dGrower_random_11 ?_
  refine zr_put S hK hJ hP hS (zk (by decide)) (zF_19 _) fGrower_seed q198 rfl rfl (Nat.le_of_ble_eq_true rfl) (zF_19 _) dGrower_random_12 (fun h12 H locs e12 hP hS => ?_)
  have hw := hw h12 e12
  refine lv_iload_n S.1 S.2.1 dGrower_random_15 rfl (lv_at hl 1 rfl) ?_
  refine lv_iconst (v := 1) S.1 S.2.1 dGrower_random_16 (by decide) ?_
  refine lv_icmp_ge S.1 S.2.1 dGrower_random_17 rfl (fun hc => ?_) (fun hc => ?_)
  · have hw := hw.1 hc
    refine lv_aload_n S.1 S.2.1 dGrower_random_24 rfl (lv_at hl 0 rfl) ?_
    refine zr_get S hK hP (zk (by decide)) (zF_19 _) fGrower_seed q198 rfl dGrower_random_25 ?_
    refine lv_bipush (v := 16) S.1 S.2.1 dGrower_random_28 (by decide) ?_
    refine lv_iushr S.1 S.2.1 dGrower_random_30 rfl ?_
    refine lv_iload_n S.1 S.2.1 dGrower_random_31 rfl (lv_at hl 1 rfl) ?_
    obtain ⟨z32, hw⟩ := hw
    refine lv_irem S.1 S.2.1 dGrower_random_32 z32 ?_
    exact zr_iret S hr hlk hK hP hS rfl hw dGrower_random_33
  · have hw := hw.2 hc
    refine lv_iconst (v := 0) S.1 S.2.1 dGrower_random_20 (by decide) ?_
    refine lv_goto S.1 S.2.1 dGrower_random_21 rfl ?_
    exact zr_iret S hr hlk hK hP hS rfl hw dGrower_random_33
/-! Grower.choose -/
theorem dGrower_choose_0 : decode bGrower_choose 0 = .ok (.aload_n 0, 1) := by decide +kernel
theorem dGrower_choose_1 : decode bGrower_choose 1 = .ok (.getfield 22, 3) := by decide +kernel
theorem dGrower_choose_4 : decode bGrower_choose 4 = .ok (.iload_n 1, 1) := by decide +kernel
theorem dGrower_choose_5 : decode bGrower_choose 5 = .ok (.iload_n 2, 1) := by decide +kernel
theorem dGrower_choose_6 : decode bGrower_choose 6 = .ok (.iastore, 1) := by decide +kernel
theorem dGrower_choose_7 : decode bGrower_choose 7 = .ok (.aload_n 0, 1) := by decide +kernel
theorem dGrower_choose_8 : decode bGrower_choose 8 = .ok (.getfield 25, 3) := by decide +kernel
theorem dGrower_choose_11 : decode bGrower_choose 11 = .ok (.iload_n 1, 1) := by decide +kernel
theorem dGrower_choose_12 : decode bGrower_choose 12 = .ok (.iload_n 3, 1) := by decide +kernel
theorem dGrower_choose_13 : decode bGrower_choose 13 = .ok (.iastore, 1) := by decide +kernel
theorem dGrower_choose_14 : decode bGrower_choose 14 = .ok (.iconst 0, 1) := by decide +kernel
theorem dGrower_choose_15 : decode bGrower_choose 15 = .ok (.ireturn, 1) := by decide +kernel
def wpGrower_choose (n : Nat) (ln : Nat → Nat) (x1 : Int32) (x2 : Int32) (x3 : Int32) (h : zM) (post : Int32 → zM → Prop) : Prop := (vp_in x1 2 ∧ ∀ h6 : zM, h6 = zu h 23 (Int32.toNatClampNeg x1) x2 → (vp_in x1 2 ∧ ∀ h13 : zM, h13 = zu h6 24 (Int32.toNatClampNeg x1) x3 → post 0 h13))
abbrev rmGrower_choose : Room := { frames := 0, cells := 0, slots := 0, locals := 0 }
set_option maxHeartbeats 4000000 in
set_option maxRecDepth 100000 in
theorem cGrower_choose (l : Launch) (D : va_G) (cI cC cE : ClassId) (ad : Nat → Nat) (n : Nat) (ln : Nat → Nat) (A : Nat → Prop) (hJ : zJ A (34 + 4 * n) ad) (x1 : Int32) (x2 : Int32) (x3 : Int32) (h : zM) (post : Int32 → zM → Prop) (hw : wpGrower_choose n ln x1 x2 x3 h post) : Met l yGrower_choose (.code yGrower_choose bGrower_choose 4 (some .int) :: zt) rmGrower_choose (va_Pc [.ref (ad 19), .int x1, .int x2, .int x3] (zPre D (zty cI cC cE) (34 + 4 * n) ad (zF ad cI cC cE n ln) A h)) (va_Qi post (zPst D (zty cI cC cE) (34 + 4 * n) ad (zF ad cI cC cE n ln)) A) 0 0 A := by
  refine Met.ofW (cc := bGrower_choose) (maxL := 4) (ret := (some .int)) (by decide) rfl ?_
  intro p e s m args below meth c s₁ B hml hv
  obtain ⟨rfl, hP, hK, hT, hN⟩ := hv
  have hr := B.returns
  have hlk := B.notSynchronized
  have S : zS p m c bGrower_choose 4 s _ "CallExplorer$Grower" := ⟨B.exec, B.bytes, hml, findClass_of_methodNamed B.named, fun w hw => atoms_spec (ws := .code yGrower_choose bGrower_choose 4 (some .int) :: zt) B.pre w (List.mem_cons_of_mem _ hw)⟩
  have hS : va_S A s.heap s.heap [] := va_S.rf
  have hl := lv_entry ([.ref (ad 19), .int x1, .int x2, .int x3]) (n := 4) (Nat.le_of_ble_eq_true rfl)
  rw [lg_entry_eq]
  generalize (lg_sl ([.ref (ad 19), .int x1, .int x2, .int x3]) ++ List.replicate (4 - (lg_sl ([.ref (ad 19), .int x1, .int x2, .int x3])).length) Slot.unset).toArray = ls at hl ⊢
  have hl : lv_has ls 4 [(0, .ref (ad 19)), (1, .int x1), (2, .int x2), (3, .int x3)] := hl
  show W p l e rmGrower_choose s m ([.ref (ad 19), .int x1, .int x2, .int x3] : List Value).toArray below meth c s.heap [] 0 0 (zQi post D (zty cI cC cE) (34 + 4 * n) ad (zF ad cI cC cE n ln) A below ([.ref (ad 19), .int x1, .int x2, .int x3] : List Value).toArray s) _
  unfold wpGrower_choose at hw
  refine lv_aload_n S.1 S.2.1 dGrower_choose_0 rfl (lv_at hl 0 rfl) ?_
  refine zr_get S hK hP (zk (by decide)) (zF_19 _) fGrower_forms q200 rfl dGrower_choose_1 ?_
  refine lv_iload_n S.1 S.2.1 dGrower_choose_4 rfl (lv_at hl 1 rfl) ?_
  refine lv_iload_n S.1 S.2.1 dGrower_choose_5 rfl (lv_at hl 2 rfl) ?_
  obtain ⟨z6, hw⟩ := hw
  refine zr_ast S hK hJ hP hS (zk (by decide)) zF_23 0 rfl z6 dGrower_choose_6 (fun h6 H locs e6 hP hS => ?_)
  have hw := hw h6 e6
  refine lv_aload_n S.1 S.2.1 dGrower_choose_7 rfl (lv_at hl 0 rfl) ?_
  refine zr_get S hK hP (zk (by decide)) (zF_19 _) fGrower_contents q201 rfl dGrower_choose_8 ?_
  refine lv_iload_n S.1 S.2.1 dGrower_choose_11 rfl (lv_at hl 1 rfl) ?_
  refine lv_iload_n S.1 S.2.1 dGrower_choose_12 rfl (lv_at hl 3 rfl) ?_
  obtain ⟨z13, hw⟩ := hw
  refine zr_ast S hK hJ hP hS (zk (by decide)) zF_24 0 rfl z13 dGrower_choose_13 (fun h13 H locs e13 hP hS => ?_)
  have hw := hw h13 e13
  refine lv_iconst (v := 0) S.1 S.2.1 dGrower_choose_14 (by decide) ?_
  exact zr_iret S hr hlk hK hP hS rfl hw dGrower_choose_15
/-! Grower.take -/
theorem dGrower_take_0 : decode bGrower_take 0 = .ok (.aload_n 0, 1) := by decide +kernel
theorem dGrower_take_1 : decode bGrower_take 1 = .ok (.getfield 32, 3) := by decide +kernel
theorem dGrower_take_4 : decode bGrower_take 4 = .ok (.iload_n 2, 1) := by decide +kernel
theorem dGrower_take_5 : decode bGrower_take 5 = .ok (.invokevirtual 104, 3) := by decide +kernel
theorem dGrower_take_8 : decode bGrower_take 8 = .ok (.istore_n 3, 1) := by decide +kernel
theorem dGrower_take_9 : decode bGrower_take 9 = .ok (.iload_n 3, 1) := by decide +kernel
theorem dGrower_take_10 : decode bGrower_take 10 = .ok (.ifCond .ne 6, 3) := by decide +kernel
theorem dGrower_take_13 : decode bGrower_take 13 = .ok (.bipush (-2), 2) := by decide +kernel
theorem dGrower_take_15 : decode bGrower_take 15 = .ok (.ireturn, 1) := by decide +kernel
theorem dGrower_take_16 : decode bGrower_take 16 = .ok (.aload_n 0, 1) := by decide +kernel
theorem dGrower_take_17 : decode bGrower_take 17 = .ok (.getfield 32, 3) := by decide +kernel
theorem dGrower_take_20 : decode bGrower_take 20 = .ok (.aload_n 0, 1) := by decide +kernel
theorem dGrower_take_21 : decode bGrower_take 21 = .ok (.getfield 32, 3) := by decide +kernel
theorem dGrower_take_24 : decode bGrower_take 24 = .ok (.getfield 124, 3) := by decide +kernel
theorem dGrower_take_27 : decode bGrower_take 27 = .ok (.aload_n 0, 1) := by decide +kernel
theorem dGrower_take_28 : decode bGrower_take 28 = .ok (.iload_n 3, 1) := by decide +kernel
theorem dGrower_take_29 : decode bGrower_take 29 = .ok (.invokevirtual 59, 3) := by decide +kernel
theorem dGrower_take_32 : decode bGrower_take 32 = .ok (.iaload, 1) := by decide +kernel
theorem dGrower_take_33 : decode bGrower_take 33 = .ok (.invokevirtual 127, 3) := by decide +kernel
theorem dGrower_take_36 : decode bGrower_take 36 = .ok (.astore 4, 2) := by decide +kernel
theorem dGrower_take_38 : decode bGrower_take 38 = .ok (.aload 4, 2) := by decide +kernel
theorem dGrower_take_40 : decode bGrower_take 40 = .ok (.ifnonnull 6, 3) := by decide +kernel
theorem dGrower_take_43 : decode bGrower_take 43 = .ok (.bipush (-2), 2) := by decide +kernel
theorem dGrower_take_45 : decode bGrower_take 45 = .ok (.ireturn, 1) := by decide +kernel
theorem dGrower_take_46 : decode bGrower_take 46 = .ok (.aload_n 0, 1) := by decide +kernel
theorem dGrower_take_47 : decode bGrower_take 47 = .ok (.getfield 12, 3) := by decide +kernel
theorem dGrower_take_50 : decode bGrower_take 50 = .ok (.getfield 131, 3) := by decide +kernel
theorem dGrower_take_53 : decode bGrower_take 53 = .ok (.aload 4, 2) := by decide +kernel
theorem dGrower_take_55 : decode bGrower_take 55 = .ok (.getfield 134, 3) := by decide +kernel
theorem dGrower_take_58 : decode bGrower_take 58 = .ok (.getfield 131, 3) := by decide +kernel
theorem dGrower_take_61 : decode bGrower_take 61 = .ok (.iadd, 1) := by decide +kernel
theorem dGrower_take_62 : decode bGrower_take 62 = .ok (.bipush 9, 2) := by decide +kernel
theorem dGrower_take_64 : decode bGrower_take 64 = .ok (.if_icmp .le 6, 3) := by decide +kernel
theorem dGrower_take_67 : decode bGrower_take 67 = .ok (.bipush (-3), 2) := by decide +kernel
theorem dGrower_take_69 : decode bGrower_take 69 = .ok (.ireturn, 1) := by decide +kernel
theorem dGrower_take_70 : decode bGrower_take 70 = .ok (.aload_n 0, 1) := by decide +kernel
theorem dGrower_take_71 : decode bGrower_take 71 = .ok (.getfield 12, 3) := by decide +kernel
theorem dGrower_take_74 : decode bGrower_take 74 = .ok (.aload 4, 2) := by decide +kernel
theorem dGrower_take_76 : decode bGrower_take 76 = .ok (.getfield 134, 3) := by decide +kernel
theorem dGrower_take_79 : decode bGrower_take 79 = .ok (.invokevirtual 137, 3) := by decide +kernel
theorem dGrower_take_82 : decode bGrower_take 82 = .ok (.aload_n 0, 1) := by decide +kernel
theorem dGrower_take_83 : decode bGrower_take 83 = .ok (.iload_n 1, 1) := by decide +kernel
theorem dGrower_take_84 : decode bGrower_take 84 = .ok (.iconst 0, 1) := by decide +kernel
theorem dGrower_take_85 : decode bGrower_take 85 = .ok (.aload_n 0, 1) := by decide +kernel
theorem dGrower_take_86 : decode bGrower_take 86 = .ok (.getfield 12, 3) := by decide +kernel
theorem dGrower_take_89 : decode bGrower_take 89 = .ok (.getfield 131, 3) := by decide +kernel
theorem dGrower_take_92 : decode bGrower_take 92 = .ok (.iconst 1, 1) := by decide +kernel
theorem dGrower_take_93 : decode bGrower_take 93 = .ok (.isub, 1) := by decide +kernel
theorem dGrower_take_94 : decode bGrower_take 94 = .ok (.invokevirtual 94, 3) := by decide +kernel
theorem dGrower_take_97 : decode bGrower_take 97 = .ok (.ireturn, 1) := by decide +kernel
def wpGrower_take (n : Nat) (ln : Nat → Nat) (x1 : Int32) (x2 : Int32) (h : zM) (post : Int32 → zM → Prop) : Prop := wpBook_listFresh n ln x2 h (fun r5 h5 => ((¬ r5 = 0 → wpGrower_random n ln r5 h5 (fun r29 h29 => (vp_in r29 40 ∧ wpBook_get n ln (h29 11 (Int32.toNatClampNeg r29)) h29 (fun r h33 => (r = none → post (-2) h33) ∧ ∀ jr33 : Nat, r = some jr33 → jr33 < n ∧ (((((h33 20 0) + (h33 (34 + 4 * jr33 + 1) 0)) ≤ 9) → wpSequence_append 20 (34 + 4 * jr33 + 1) h33 (fun h79 => wpGrower_choose n ln x1 0 ((h79 20 0) - 1) h79 (fun r94 h94 => post r94 h94))) ∧ (¬ (((h33 20 0) + (h33 (34 + 4 * jr33 + 1) 0)) ≤ 9) → post (-3) h33)))))) ∧ (r5 = 0 → post (-2) h5)))
abbrev rmGrower_take : Room := { frames := 3, cells := 0, slots := 0, locals := 71 }
set_option maxHeartbeats 4000000 in
set_option maxRecDepth 100000 in
theorem cGrower_take (l : Launch) (D : va_G) (cI cC cE : ClassId) (ad : Nat → Nat) (n : Nat) (ln : Nat → Nat) (A : Nat → Prop) (hJ : zJ A (34 + 4 * n) ad) (x1 : Int32) (x2 : Int32) (h : zM) (post : Int32 → zM → Prop) (hw : wpGrower_take n ln x1 x2 h post) : Met l yGrower_take (.code yGrower_take bGrower_take 5 (some .int) :: zt) rmGrower_take (va_Pc [.ref (ad 19), .int x1, .int x2] (zPre D (zty cI cC cE) (34 + 4 * n) ad (zF ad cI cC cE n ln) A h)) (va_Qi post (zPst D (zty cI cC cE) (34 + 4 * n) ad (zF ad cI cC cE n ln)) A) 0 0 A := by
  refine Met.ofW (cc := bGrower_take) (maxL := 5) (ret := (some .int)) (by decide) rfl ?_
  intro p e s m args below meth c s₁ B hml hv
  obtain ⟨rfl, hP, hK, hT, hN⟩ := hv
  have hr := B.returns
  have hlk := B.notSynchronized
  have S : zS p m c bGrower_take 5 s _ "CallExplorer$Grower" := ⟨B.exec, B.bytes, hml, findClass_of_methodNamed B.named, fun w hw => atoms_spec (ws := .code yGrower_take bGrower_take 5 (some .int) :: zt) B.pre w (List.mem_cons_of_mem _ hw)⟩
  have hS : va_S A s.heap s.heap [] := va_S.rf
  have hl := lv_entry ([.ref (ad 19), .int x1, .int x2]) (n := 5) (Nat.le_of_ble_eq_true rfl)
  rw [lg_entry_eq]
  generalize (lg_sl ([.ref (ad 19), .int x1, .int x2]) ++ List.replicate (5 - (lg_sl ([.ref (ad 19), .int x1, .int x2])).length) Slot.unset).toArray = ls at hl ⊢
  have hl : lv_has ls 5 [(0, .ref (ad 19)), (1, .int x1), (2, .int x2)] := hl
  show W p l e rmGrower_take s m ([.ref (ad 19), .int x1, .int x2] : List Value).toArray below meth c s.heap [] 0 0 (zQi post D (zty cI cC cE) (34 + 4 * n) ad (zF ad cI cC cE n ln) A below ([.ref (ad 19), .int x1, .int x2] : List Value).toArray s) _
  unfold wpGrower_take at hw
  refine lv_aload_n S.1 S.2.1 dGrower_take_0 rfl (lv_at hl 0 rfl) ?_
  refine zr_get S hK hP (zk (by decide)) (zF_19 _) fGrower_book q193 rfl dGrower_take_1 ?_
  refine lv_iload_n S.1 S.2.1 dGrower_take_4 rfl (lv_at hl 2 rfl) ?_
  refine zr_i (zr_V (As := [.int x2]) (rest := []) S hK hT hN hP hS (zk (by decide)) (zF_9 _) rfl (cBook_listFresh l D cI cC cE ad n ln A hJ _ _ _ hw) caGrower_104 ⟨Nat.le_of_ble_eq_true rfl, Nat.le_of_ble_eq_true rfl⟩ ⟨rfl, rfl⟩ rfl hl.1 rfl (Nat.le_of_ble_eq_true rfl) dGrower_take_5) hS (fun r5 h5 H locs hw hP hS => ?_)
  refine lv_istore_n (lv' := [(3, .int r5), (0, .ref (ad 19)), (1, .int x1), (2, .int x2)]) S.1 S.2.1 dGrower_take_8 rfl hl (by decide) rfl (fun ls hl => ?_)
  refine lv_iload_n S.1 S.2.1 dGrower_take_9 rfl (lv_at hl 0 rfl) ?_
  refine lv_if_ne S.1 S.2.1 dGrower_take_10 rfl (fun hc => ?_) (fun hc => ?_)
  · have hw := hw.1 hc
    refine lv_aload_n S.1 S.2.1 dGrower_take_16 rfl (lv_at hl 1 rfl) ?_
    refine zr_get S hK hP (zk (by decide)) (zF_19 _) fGrower_book q193 rfl dGrower_take_17 ?_
    refine lv_aload_n S.1 S.2.1 dGrower_take_20 rfl (lv_at hl 1 rfl) ?_
    refine zr_get S hK hP (zk (by decide)) (zF_19 _) fGrower_book q193 rfl dGrower_take_21 ?_
    refine zr_get S hK hP (zk (by decide)) (zF_9 _) fBook_listed q82 rfl dGrower_take_24 ?_
    refine lv_aload_n S.1 S.2.1 dGrower_take_27 rfl (lv_at hl 1 rfl) ?_
    refine lv_iload_n S.1 S.2.1 dGrower_take_28 rfl (lv_at hl 0 rfl) ?_
    refine zr_i (zr_V (As := [.int r5]) (rest := [.ref (ad 11), .ref (ad 9)]) S hK hT hN hP hS (zk (by decide)) (zF_19 _) rfl (cGrower_random l D cI cC cE ad n ln A hJ _ _ _ hw) caGrower_59 ⟨Nat.le_of_ble_eq_true rfl, Nat.le_of_ble_eq_true rfl⟩ ⟨rfl, rfl⟩ rfl hl.1 rfl (Nat.le_of_ble_eq_true rfl) dGrower_take_29) hS (fun r29 h29 H locs hw hP hS => ?_)
    obtain ⟨z32, hw⟩ := hw
    refine zr_ald S hK hP (zk (by decide)) (zF_11 _) 0 rfl z32 dGrower_take_32 ?_
    refine zr_e (zr_V (As := [.int (h29 11 (Int32.toNatClampNeg r29))]) (rest := []) S hK hT hN hP hS (zk (by decide)) (zF_9 _) rfl (cBook_get l D cI cC cE ad n ln A hJ _ _ _ hw) caGrower_127 ⟨Nat.le_of_ble_eq_true rfl, Nat.le_of_ble_eq_true rfl⟩ ⟨rfl, rfl⟩ rfl hl.1 rfl (Nat.le_of_ble_eq_true rfl) dGrower_take_33) hS (fun h33 H locs hw hP hS => ?_) (fun jr33 h33 H locs hw hP hS => ?_)
    · have hw := hw.1 rfl
      refine lv_astoreN (lv' := [(4, .null), (3, .int r5), (0, .ref (ad 19)), (1, .int x1), (2, .int x2)]) S.1 S.2.1 dGrower_take_36 hl (by decide) rfl (fun ls hl => ?_)
      refine lv_aloadN S.1 S.2.1 dGrower_take_38 (lv_at hl 0 rfl) ?_
      refine lv_ifnonnullN S.1 S.2.1 dGrower_take_40 ?_
      refine lv_bipush (v := (-2)) S.1 S.2.1 dGrower_take_43 (by decide) ?_
      exact zr_iret S hr hlk hK hP hS rfl hw dGrower_take_45
    · obtain ⟨hjr33, hw⟩ := hw.2 jr33 rfl
      refine lv_astore (lv' := [(4, .ref (ad (34 + 4 * jr33))), (3, .int r5), (0, .ref (ad 19)), (1, .int x1), (2, .int x2)]) S.1 S.2.1 dGrower_take_36 hl (by decide) rfl (fun ls hl => ?_)
      refine lv_aload S.1 S.2.1 dGrower_take_38 (lv_at hl 0 rfl) ?_
      refine lv_ifnonnull S.1 S.2.1 dGrower_take_40 rfl ?_
      refine lv_aload_n S.1 S.2.1 dGrower_take_46 rfl (lv_at hl 2 rfl) ?_
      refine zr_get S hK hP (zk (by decide)) (zF_19 _) fGrower_sequence q195 rfl dGrower_take_47 ?_
      refine zr_get S hK hP (zk (by decide)) (zF_20 _) fSequence_size q184 rfl dGrower_take_50 ?_
      refine lv_aload S.1 S.2.1 dGrower_take_53 (lv_at hl 0 rfl) ?_
      refine zr_get S hK hP (zke0 hjr33) ((zFe_0 jr33) _) fEntry_sequence q604 rfl dGrower_take_55 ?_
      refine zr_get S hK hP (zke 1 hjr33) ((zFe_1 jr33) _) fSequence_size q184 rfl dGrower_take_58 ?_
      refine lv_iadd S.1 S.2.1 dGrower_take_61 ?_
      refine lv_bipush (v := 9) S.1 S.2.1 dGrower_take_62 (by decide) ?_
      refine lv_icmp_le S.1 S.2.1 dGrower_take_64 rfl (fun hc => ?_) (fun hc => ?_)
      · have hw := hw.1 hc
        refine lv_aload_n S.1 S.2.1 dGrower_take_70 rfl (lv_at hl 2 rfl) ?_
        refine zr_get S hK hP (zk (by decide)) (zF_19 _) fGrower_sequence q195 rfl dGrower_take_71 ?_
        refine lv_aload S.1 S.2.1 dGrower_take_74 (lv_at hl 0 rfl) ?_
        refine zr_get S hK hP (zke0 hjr33) ((zFe_0 jr33) _) fEntry_sequence q604 rfl dGrower_take_76 ?_
        refine zr_v (zr_V (As := [.ref (ad (34 + 4 * jr33 + 1))]) (rest := []) S hK hT hN hP hS (zk (by decide)) (zF_20 _) rfl (cSequence_append l D (zty cI cC cE) (34 + 4 * n) ad (zF ad cI cC cE n ln) A hJ cI rfl 20 zs_20 (34 + 4 * jr33 + 1) (zs_e hjr33) _ _ hw) caGrower_137 ⟨Nat.le_of_ble_eq_true rfl, Nat.le_of_ble_eq_true rfl⟩ ⟨rfl, rfl⟩ rfl hl.1 rfl (Nat.le_of_ble_eq_true rfl) dGrower_take_79) hS (fun h79 H locs hw hP hS => ?_)
        refine lv_aload_n S.1 S.2.1 dGrower_take_82 rfl (lv_at hl 2 rfl) ?_
        refine lv_iload_n S.1 S.2.1 dGrower_take_83 rfl (lv_at hl 3 rfl) ?_
        refine lv_iconst (v := 0) S.1 S.2.1 dGrower_take_84 (by decide) ?_
        refine lv_aload_n S.1 S.2.1 dGrower_take_85 rfl (lv_at hl 2 rfl) ?_
        refine zr_get S hK hP (zk (by decide)) (zF_19 _) fGrower_sequence q195 rfl dGrower_take_86 ?_
        refine zr_get S hK hP (zk (by decide)) (zF_20 _) fSequence_size q184 rfl dGrower_take_89 ?_
        refine lv_iconst (v := 1) S.1 S.2.1 dGrower_take_92 (by decide) ?_
        refine lv_isub S.1 S.2.1 dGrower_take_93 ?_
        refine zr_i (zr_V (As := [.int x1, .int 0, .int ((h79 20 0) - 1)]) (rest := []) S hK hT hN hP hS (zk (by decide)) (zF_19 _) rfl (cGrower_choose l D cI cC cE ad n ln A hJ _ _ _ _ _ hw) caGrower_94 ⟨Nat.le_of_ble_eq_true rfl, Nat.le_of_ble_eq_true rfl⟩ ⟨rfl, rfl⟩ rfl hl.1 rfl (Nat.le_of_ble_eq_true rfl) dGrower_take_94) hS (fun r94 h94 H locs hw hP hS => ?_)
        exact zr_iret S hr hlk hK hP hS rfl hw dGrower_take_97
      · have hw := hw.2 hc
        refine lv_bipush (v := (-3)) S.1 S.2.1 dGrower_take_67 (by decide) ?_
        exact zr_iret S hr hlk hK hP hS rfl hw dGrower_take_69
  · have hw := hw.2 hc
    refine lv_bipush (v := (-2)) S.1 S.2.1 dGrower_take_13 (by decide) ?_
    exact zr_iret S hr hlk hK hP hS rfl hw dGrower_take_15
/-! Grower.chooseNumber -/
theorem dGrower_chooseNumber_0 : decode bGrower_chooseNumber 0 = .ok (.aload_n 0, 1) := by decide +kernel
theorem dGrower_chooseNumber_1 : decode bGrower_chooseNumber 1 = .ok (.iconst 3, 1) := by decide +kernel
theorem dGrower_chooseNumber_2 : decode bGrower_chooseNumber 2 = .ok (.invokevirtual 59, 3) := by decide +kernel
theorem dGrower_chooseNumber_5 : decode bGrower_chooseNumber 5 = .ok (.ifCond .ne 21, 3) := by decide +kernel
theorem dGrower_chooseNumber_8 : decode bGrower_chooseNumber 8 = .ok (.aload_n 0, 1) := by decide +kernel
theorem dGrower_chooseNumber_9 : decode bGrower_chooseNumber 9 = .ok (.getfield 32, 3) := by decide +kernel
theorem dGrower_chooseNumber_12 : decode bGrower_chooseNumber 12 = .ok (.iconst 0, 1) := by decide +kernel
theorem dGrower_chooseNumber_13 : decode bGrower_chooseNumber 13 = .ok (.invokevirtual 104, 3) := by decide +kernel
theorem dGrower_chooseNumber_16 : decode bGrower_chooseNumber 16 = .ok (.ifCond .le 10, 3) := by decide +kernel
theorem dGrower_chooseNumber_19 : decode bGrower_chooseNumber 19 = .ok (.aload_n 0, 1) := by decide +kernel
theorem dGrower_chooseNumber_20 : decode bGrower_chooseNumber 20 = .ok (.iload_n 1, 1) := by decide +kernel
theorem dGrower_chooseNumber_21 : decode bGrower_chooseNumber 21 = .ok (.iconst 0, 1) := by decide +kernel
theorem dGrower_chooseNumber_22 : decode bGrower_chooseNumber 22 = .ok (.invokevirtual 107, 3) := by decide +kernel
theorem dGrower_chooseNumber_25 : decode bGrower_chooseNumber 25 = .ok (.ireturn, 1) := by decide +kernel
theorem dGrower_chooseNumber_26 : decode bGrower_chooseNumber 26 = .ok (.aload_n 0, 1) := by decide +kernel
theorem dGrower_chooseNumber_27 : decode bGrower_chooseNumber 27 = .ok (.iload_n 1, 1) := by decide +kernel
theorem dGrower_chooseNumber_28 : decode bGrower_chooseNumber 28 = .ok (.iconst 1, 1) := by decide +kernel
theorem dGrower_chooseNumber_29 : decode bGrower_chooseNumber 29 = .ok (.aload_n 0, 1) := by decide +kernel
theorem dGrower_chooseNumber_30 : decode bGrower_chooseNumber 30 = .ok (.getfield 18, 3) := by decide +kernel
theorem dGrower_chooseNumber_33 : decode bGrower_chooseNumber 33 = .ok (.aload_n 0, 1) := by decide +kernel
theorem dGrower_chooseNumber_34 : decode bGrower_chooseNumber 34 = .ok (.aload_n 0, 1) := by decide +kernel
theorem dGrower_chooseNumber_35 : decode bGrower_chooseNumber 35 = .ok (.getfield 44, 3) := by decide +kernel
theorem dGrower_chooseNumber_38 : decode bGrower_chooseNumber 38 = .ok (.invokevirtual 59, 3) := by decide +kernel
theorem dGrower_chooseNumber_41 : decode bGrower_chooseNumber 41 = .ok (.iaload, 1) := by decide +kernel
theorem dGrower_chooseNumber_42 : decode bGrower_chooseNumber 42 = .ok (.invokevirtual 94, 3) := by decide +kernel
theorem dGrower_chooseNumber_45 : decode bGrower_chooseNumber 45 = .ok (.ireturn, 1) := by decide +kernel
def wbGrower_chooseNumber_26 (n : Nat) (ln : Nat → Nat) (post : Int32 → zM → Prop) (v1 : Int32) (h : zM) : Prop := wpGrower_random n ln (h 19 5) h (fun r38 h38 => (vp_in r38 8 ∧ wpGrower_choose n ln v1 1 (h38 22 (Int32.toNatClampNeg r38)) h38 (fun r42 h42 => post r42 h42)))
def wpGrower_chooseNumber (n : Nat) (ln : Nat → Nat) (x1 : Int32) (h : zM) (post : Int32 → zM → Prop) : Prop := wpGrower_random n ln 3 h (fun r2 h2 => ((¬ r2 = 0 → wbGrower_chooseNumber_26 n ln post x1 h2) ∧ (r2 = 0 → wpBook_listFresh n ln 0 h2 (fun r13 h13 => (((r13 ≤ 0) → wbGrower_chooseNumber_26 n ln post x1 h13) ∧ (¬ (r13 ≤ 0) → wpGrower_take n ln x1 0 h13 (fun r22 h22 => post r22 h22)))))))
abbrev rmGrower_chooseNumber : Room := { frames := 4, cells := 0, slots := 0, locals := 95 }
set_option maxHeartbeats 4000000 in
set_option maxRecDepth 100000 in
theorem cGrower_chooseNumber (l : Launch) (D : va_G) (cI cC cE : ClassId) (ad : Nat → Nat) (n : Nat) (ln : Nat → Nat) (A : Nat → Prop) (hJ : zJ A (34 + 4 * n) ad) (x1 : Int32) (h : zM) (post : Int32 → zM → Prop) (hw : wpGrower_chooseNumber n ln x1 h post) : Met l yGrower_chooseNumber (.code yGrower_chooseNumber bGrower_chooseNumber 2 (some .int) :: zt) rmGrower_chooseNumber (va_Pc [.ref (ad 19), .int x1] (zPre D (zty cI cC cE) (34 + 4 * n) ad (zF ad cI cC cE n ln) A h)) (va_Qi post (zPst D (zty cI cC cE) (34 + 4 * n) ad (zF ad cI cC cE n ln)) A) 0 0 A := by
  refine Met.ofW (cc := bGrower_chooseNumber) (maxL := 2) (ret := (some .int)) (by decide) rfl ?_
  intro p e s m args below meth c s₁ B hml hv
  obtain ⟨rfl, hP, hK, hT, hN⟩ := hv
  have hr := B.returns
  have hlk := B.notSynchronized
  have S : zS p m c bGrower_chooseNumber 2 s _ "CallExplorer$Grower" := ⟨B.exec, B.bytes, hml, findClass_of_methodNamed B.named, fun w hw => atoms_spec (ws := .code yGrower_chooseNumber bGrower_chooseNumber 2 (some .int) :: zt) B.pre w (List.mem_cons_of_mem _ hw)⟩
  have hS : va_S A s.heap s.heap [] := va_S.rf
  have hl := lv_entry ([.ref (ad 19), .int x1]) (n := 2) (Nat.le_of_ble_eq_true rfl)
  rw [lg_entry_eq]
  generalize (lg_sl ([.ref (ad 19), .int x1]) ++ List.replicate (2 - (lg_sl ([.ref (ad 19), .int x1])).length) Slot.unset).toArray = ls at hl ⊢
  have hl : lv_has ls 2 [(0, .ref (ad 19)), (1, .int x1)] := hl
  show W p l e rmGrower_chooseNumber s m ([.ref (ad 19), .int x1] : List Value).toArray below meth c s.heap [] 0 0 (zQi post D (zty cI cC cE) (34 + 4 * n) ad (zF ad cI cC cE n ln) A below ([.ref (ad 19), .int x1] : List Value).toArray s) _
  have J26 : ∀ (v1 : Int32) (h : zM) (H : Heap) (locs : List Loc) (ls : Array Slot), wbGrower_chooseNumber_26 n ln post v1 h → lv_has ls 2 [(0, .ref (ad 19)), (1, .int v1)] → va_P D zcl (zW (34 + 4 * n) ad (zF ad cI cC cE n ln) h) H → va_S A s.heap H locs → W p l e rmGrower_chooseNumber s m ([.ref (ad 19), .int x1] : List Value).toArray below meth c H locs 0 0 (zQi post D (zty cI cC cE) (34 + 4 * n) ad (zF ad cI cC cE n ln) A below ([.ref (ad 19), .int x1] : List Value).toArray s) (F0 m 26 ls []) := by
    intro v1 h H locs ls hw hl hP hS
    unfold wbGrower_chooseNumber_26 at hw
    refine lv_aload_n S.1 S.2.1 dGrower_chooseNumber_26 rfl (lv_at hl 0 rfl) ?_
    refine lv_iload_n S.1 S.2.1 dGrower_chooseNumber_27 rfl (lv_at hl 1 rfl) ?_
    refine lv_iconst (v := 1) S.1 S.2.1 dGrower_chooseNumber_28 (by decide) ?_
    refine lv_aload_n S.1 S.2.1 dGrower_chooseNumber_29 rfl (lv_at hl 0 rfl) ?_
    refine zr_get S hK hP (zk (by decide)) (zF_19 _) fGrower_literals q196 rfl dGrower_chooseNumber_30 ?_
    refine lv_aload_n S.1 S.2.1 dGrower_chooseNumber_33 rfl (lv_at hl 0 rfl) ?_
    refine lv_aload_n S.1 S.2.1 dGrower_chooseNumber_34 rfl (lv_at hl 0 rfl) ?_
    refine zr_get S hK hP (zk (by decide)) (zF_19 _) fGrower_literalCount q197 rfl dGrower_chooseNumber_35 ?_
    refine zr_i (zr_V (As := [.int (h 19 5)]) (rest := [.ref (ad 22), .int 1, .int v1, .ref (ad 19)]) S hK hT hN hP hS (zk (by decide)) (zF_19 _) rfl (cGrower_random l D cI cC cE ad n ln A hJ _ _ _ hw) caGrower_59 ⟨Nat.le_of_ble_eq_true rfl, Nat.le_of_ble_eq_true rfl⟩ ⟨rfl, rfl⟩ rfl hl.1 rfl (Nat.le_of_ble_eq_true rfl) dGrower_chooseNumber_38) hS (fun r38 h38 H locs hw hP hS => ?_)
    obtain ⟨z41, hw⟩ := hw
    refine zr_ald S hK hP (zk (by decide)) (zF_22 _) 0 rfl z41 dGrower_chooseNumber_41 ?_
    refine zr_i (zr_V (As := [.int v1, .int 1, .int (h38 22 (Int32.toNatClampNeg r38))]) (rest := []) S hK hT hN hP hS (zk (by decide)) (zF_19 _) rfl (cGrower_choose l D cI cC cE ad n ln A hJ _ _ _ _ _ hw) caGrower_94 ⟨Nat.le_of_ble_eq_true rfl, Nat.le_of_ble_eq_true rfl⟩ ⟨rfl, rfl⟩ rfl hl.1 rfl (Nat.le_of_ble_eq_true rfl) dGrower_chooseNumber_42) hS (fun r42 h42 H locs hw hP hS => ?_)
    exact zr_iret S hr hlk hK hP hS rfl hw dGrower_chooseNumber_45
  unfold wpGrower_chooseNumber at hw
  refine lv_aload_n S.1 S.2.1 dGrower_chooseNumber_0 rfl (lv_at hl 0 rfl) ?_
  refine lv_iconst (v := 3) S.1 S.2.1 dGrower_chooseNumber_1 (by decide) ?_
  refine zr_i (zr_V (As := [.int 3]) (rest := []) S hK hT hN hP hS (zk (by decide)) (zF_19 _) rfl (cGrower_random l D cI cC cE ad n ln A hJ _ _ _ hw) caGrower_59 ⟨Nat.le_of_ble_eq_true rfl, Nat.le_of_ble_eq_true rfl⟩ ⟨rfl, rfl⟩ rfl hl.1 rfl (Nat.le_of_ble_eq_true rfl) dGrower_chooseNumber_2) hS (fun r2 h2 H locs hw hP hS => ?_)
  refine lv_if_ne S.1 S.2.1 dGrower_chooseNumber_5 rfl (fun hc => ?_) (fun hc => ?_)
  · have hw := hw.1 hc
    exact J26 _ _ _ _ _ hw (lv_sub hl [0, 1] rfl) hP hS
  · have hw := hw.2 hc
    refine lv_aload_n S.1 S.2.1 dGrower_chooseNumber_8 rfl (lv_at hl 0 rfl) ?_
    refine zr_get S hK hP (zk (by decide)) (zF_19 _) fGrower_book q193 rfl dGrower_chooseNumber_9 ?_
    refine lv_iconst (v := 0) S.1 S.2.1 dGrower_chooseNumber_12 (by decide) ?_
    refine zr_i (zr_V (As := [.int 0]) (rest := []) S hK hT hN hP hS (zk (by decide)) (zF_9 _) rfl (cBook_listFresh l D cI cC cE ad n ln A hJ _ _ _ hw) caGrower_104 ⟨Nat.le_of_ble_eq_true rfl, Nat.le_of_ble_eq_true rfl⟩ ⟨rfl, rfl⟩ rfl hl.1 rfl (Nat.le_of_ble_eq_true rfl) dGrower_chooseNumber_13) hS (fun r13 h13 H locs hw hP hS => ?_)
    refine lv_if_le S.1 S.2.1 dGrower_chooseNumber_16 rfl (fun hc => ?_) (fun hc => ?_)
    · have hw := hw.1 hc
      exact J26 _ _ _ _ _ hw (lv_sub hl [0, 1] rfl) hP hS
    · have hw := hw.2 hc
      refine lv_aload_n S.1 S.2.1 dGrower_chooseNumber_19 rfl (lv_at hl 0 rfl) ?_
      refine lv_iload_n S.1 S.2.1 dGrower_chooseNumber_20 rfl (lv_at hl 1 rfl) ?_
      refine lv_iconst (v := 0) S.1 S.2.1 dGrower_chooseNumber_21 (by decide) ?_
      refine zr_i (zr_V (As := [.int x1, .int 0]) (rest := []) S hK hT hN hP hS (zk (by decide)) (zF_19 _) rfl (cGrower_take l D cI cC cE ad n ln A hJ _ _ _ _ hw) caGrower_107 ⟨Nat.le_of_ble_eq_true rfl, Nat.le_of_ble_eq_true rfl⟩ ⟨rfl, rfl⟩ rfl hl.1 rfl (Nat.le_of_ble_eq_true rfl) dGrower_chooseNumber_22) hS (fun r22 h22 H locs hw hP hS => ?_)
      exact zr_iret S hr hlk hK hP hS rfl hw dGrower_chooseNumber_25
/-! Grower.firstFits -/
theorem dGrower_firstFits_0 : decode bGrower_firstFits 0 = .ok (.aload_n 0, 1) := by decide +kernel
theorem dGrower_firstFits_1 : decode bGrower_firstFits 1 = .ok (.getfield 22, 3) := by decide +kernel
theorem dGrower_firstFits_4 : decode bGrower_firstFits 4 = .ok (.iconst 0, 1) := by decide +kernel
theorem dGrower_firstFits_5 : decode bGrower_firstFits 5 = .ok (.iaload, 1) := by decide +kernel
theorem dGrower_firstFits_6 : decode bGrower_firstFits 6 = .ok (.ifCond .ne 39, 3) := by decide +kernel
theorem dGrower_firstFits_9 : decode bGrower_firstFits 9 = .ok (.aload_n 0, 1) := by decide +kernel
theorem dGrower_firstFits_10 : decode bGrower_firstFits 10 = .ok (.getfield 28, 3) := by decide +kernel
theorem dGrower_firstFits_13 : decode bGrower_firstFits 13 = .ok (.aload_n 0, 1) := by decide +kernel
theorem dGrower_firstFits_14 : decode bGrower_firstFits 14 = .ok (.getfield 28, 3) := by decide +kernel
theorem dGrower_firstFits_17 : decode bGrower_firstFits 17 = .ok (.getfield 114, 3) := by decide +kernel
theorem dGrower_firstFits_20 : decode bGrower_firstFits 20 = .ok (.aload_n 0, 1) := by decide +kernel
theorem dGrower_firstFits_21 : decode bGrower_firstFits 21 = .ok (.getfield 12, 3) := by decide +kernel
theorem dGrower_firstFits_24 : decode bGrower_firstFits 24 = .ok (.aload_n 0, 1) := by decide +kernel
theorem dGrower_firstFits_25 : decode bGrower_firstFits 25 = .ok (.getfield 25, 3) := by decide +kernel
theorem dGrower_firstFits_28 : decode bGrower_firstFits 28 = .ok (.iconst 0, 1) := by decide +kernel
theorem dGrower_firstFits_29 : decode bGrower_firstFits 29 = .ok (.iaload, 1) := by decide +kernel
theorem dGrower_firstFits_30 : decode bGrower_firstFits 30 = .ok (.invokevirtual 117, 3) := by decide +kernel
theorem dGrower_firstFits_33 : decode bGrower_firstFits 33 = .ok (.iaload, 1) := by decide +kernel
theorem dGrower_firstFits_34 : decode bGrower_firstFits 34 = .ok (.iload_n 1, 1) := by decide +kernel
theorem dGrower_firstFits_35 : decode bGrower_firstFits 35 = .ok (.invokevirtual 120, 3) := by decide +kernel
theorem dGrower_firstFits_38 : decode bGrower_firstFits 38 = .ok (.ifCond .eq 7, 3) := by decide +kernel
theorem dGrower_firstFits_41 : decode bGrower_firstFits 41 = .ok (.iconst 1, 1) := by decide +kernel
theorem dGrower_firstFits_42 : decode bGrower_firstFits 42 = .ok (.goto 4, 3) := by decide +kernel
theorem dGrower_firstFits_45 : decode bGrower_firstFits 45 = .ok (.iconst 0, 1) := by decide +kernel
theorem dGrower_firstFits_46 : decode bGrower_firstFits 46 = .ok (.ireturn, 1) := by decide +kernel
def wpGrower_firstFits (n : Nat) (ln : Nat → Nat) (x1 : Int32) (h : zM) (post : Int32 → zM → Prop) : Prop := (vp_in 0 2 ∧ ((¬ (h 23 (Int32.toNatClampNeg 0)) = 0 → post 0 h) ∧ ((h 23 (Int32.toNatClampNeg 0)) = 0 → (vp_in 0 2 ∧ wpSequence_operationOf 20 (h 24 (Int32.toNatClampNeg 0)) h (fun r30 h30 => (vp_in r30 10 ∧ wpCatalog_is n ln (h30 8 (Int32.toNatClampNeg r30)) x1 h30 (fun r35 h35 => ((r35 = 0 → post 0 h35) ∧ (¬ r35 = 0 → post 1 h35)))))))))
abbrev rmGrower_firstFits : Room := { frames := 1, cells := 0, slots := 0, locals := 24 }
set_option maxHeartbeats 4000000 in
set_option maxRecDepth 100000 in
theorem cGrower_firstFits (l : Launch) (D : va_G) (cI cC cE : ClassId) (ad : Nat → Nat) (n : Nat) (ln : Nat → Nat) (A : Nat → Prop) (hJ : zJ A (34 + 4 * n) ad) (x1 : Int32) (h : zM) (post : Int32 → zM → Prop) (hw : wpGrower_firstFits n ln x1 h post) : Met l yGrower_firstFits (.code yGrower_firstFits bGrower_firstFits 2 (some .boolean) :: zt) rmGrower_firstFits (va_Pc [.ref (ad 19), .int x1] (zPre D (zty cI cC cE) (34 + 4 * n) ad (zF ad cI cC cE n ln) A h)) (va_Qi post (zPst D (zty cI cC cE) (34 + 4 * n) ad (zF ad cI cC cE n ln)) A) 0 0 A := by
  refine Met.ofW (cc := bGrower_firstFits) (maxL := 2) (ret := (some .boolean)) (by decide) rfl ?_
  intro p e s m args below meth c s₁ B hml hv
  obtain ⟨rfl, hP, hK, hT, hN⟩ := hv
  have hr := B.returns
  have hlk := B.notSynchronized
  have S : zS p m c bGrower_firstFits 2 s _ "CallExplorer$Grower" := ⟨B.exec, B.bytes, hml, findClass_of_methodNamed B.named, fun w hw => atoms_spec (ws := .code yGrower_firstFits bGrower_firstFits 2 (some .boolean) :: zt) B.pre w (List.mem_cons_of_mem _ hw)⟩
  have hS : va_S A s.heap s.heap [] := va_S.rf
  have hl := lv_entry ([.ref (ad 19), .int x1]) (n := 2) (Nat.le_of_ble_eq_true rfl)
  rw [lg_entry_eq]
  generalize (lg_sl ([.ref (ad 19), .int x1]) ++ List.replicate (2 - (lg_sl ([.ref (ad 19), .int x1])).length) Slot.unset).toArray = ls at hl ⊢
  have hl : lv_has ls 2 [(0, .ref (ad 19)), (1, .int x1)] := hl
  show W p l e rmGrower_firstFits s m ([.ref (ad 19), .int x1] : List Value).toArray below meth c s.heap [] 0 0 (zQi post D (zty cI cC cE) (34 + 4 * n) ad (zF ad cI cC cE n ln) A below ([.ref (ad 19), .int x1] : List Value).toArray s) _
  unfold wpGrower_firstFits at hw
  refine lv_aload_n S.1 S.2.1 dGrower_firstFits_0 rfl (lv_at hl 0 rfl) ?_
  refine zr_get S hK hP (zk (by decide)) (zF_19 _) fGrower_forms q200 rfl dGrower_firstFits_1 ?_
  refine lv_iconst (v := 0) S.1 S.2.1 dGrower_firstFits_4 (by decide) ?_
  obtain ⟨z5, hw⟩ := hw
  refine zr_ald S hK hP (zk (by decide)) (zF_23 _) 0 rfl z5 dGrower_firstFits_5 ?_
  refine lv_if_ne S.1 S.2.1 dGrower_firstFits_6 rfl (fun hc => ?_) (fun hc => ?_)
  · have hw := hw.1 hc
    refine lv_iconst (v := 0) S.1 S.2.1 dGrower_firstFits_45 (by decide) ?_
    exact zr_iret S hr hlk hK hP hS rfl hw dGrower_firstFits_46
  · have hw := hw.2 hc
    refine lv_aload_n S.1 S.2.1 dGrower_firstFits_9 rfl (lv_at hl 0 rfl) ?_
    refine zr_get S hK hP (zk (by decide)) (zF_19 _) fGrower_catalog q192 rfl dGrower_firstFits_10 ?_
    refine lv_aload_n S.1 S.2.1 dGrower_firstFits_13 rfl (lv_at hl 0 rfl) ?_
    refine zr_get S hK hP (zk (by decide)) (zF_19 _) fGrower_catalog q192 rfl dGrower_firstFits_14 ?_
    refine zr_get S hK hP (zk (by decide)) (zF_1 _) fCatalog_resultTypes q47 rfl dGrower_firstFits_17 ?_
    refine lv_aload_n S.1 S.2.1 dGrower_firstFits_20 rfl (lv_at hl 0 rfl) ?_
    refine zr_get S hK hP (zk (by decide)) (zF_19 _) fGrower_sequence q195 rfl dGrower_firstFits_21 ?_
    refine lv_aload_n S.1 S.2.1 dGrower_firstFits_24 rfl (lv_at hl 0 rfl) ?_
    refine zr_get S hK hP (zk (by decide)) (zF_19 _) fGrower_contents q201 rfl dGrower_firstFits_25 ?_
    refine lv_iconst (v := 0) S.1 S.2.1 dGrower_firstFits_28 (by decide) ?_
    obtain ⟨z29, hw⟩ := hw
    refine zr_ald S hK hP (zk (by decide)) (zF_24 _) 0 rfl z29 dGrower_firstFits_29 ?_
    refine zr_i (zr_V (As := [.int (h 24 (Int32.toNatClampNeg 0))]) (rest := [.ref (ad 8), .ref (ad 1)]) S hK hT hN hP hS (zk (by decide)) (zF_20 _) rfl (cSequence_operationOf l D (zty cI cC cE) (34 + 4 * n) ad (zF ad cI cC cE n ln) A hJ cI rfl 20 zs_20 _ _ _ hw) caGrower_117 ⟨Nat.le_of_ble_eq_true rfl, Nat.le_of_ble_eq_true rfl⟩ ⟨rfl, rfl⟩ rfl hl.1 rfl (Nat.le_of_ble_eq_true rfl) dGrower_firstFits_30) hS (fun r30 h30 H locs hw hP hS => ?_)
    obtain ⟨z33, hw⟩ := hw
    refine zr_ald S hK hP (zk (by decide)) (zF_8 _) 0 rfl z33 dGrower_firstFits_33 ?_
    refine lv_iload_n S.1 S.2.1 dGrower_firstFits_34 rfl (lv_at hl 1 rfl) ?_
    refine zr_i (zr_V (As := [.int (h30 8 (Int32.toNatClampNeg r30)), .int x1]) (rest := []) S hK hT hN hP hS (zk (by decide)) (zF_1 _) rfl (cCatalog_is l D cI cC cE ad n ln A hJ _ _ _ _ hw) caGrower_120 ⟨Nat.le_of_ble_eq_true rfl, Nat.le_of_ble_eq_true rfl⟩ ⟨rfl, rfl⟩ rfl hl.1 rfl (Nat.le_of_ble_eq_true rfl) dGrower_firstFits_35) hS (fun r35 h35 H locs hw hP hS => ?_)
    refine lv_if_eq S.1 S.2.1 dGrower_firstFits_38 rfl (fun hc => ?_) (fun hc => ?_)
    · have hw := hw.1 hc
      refine lv_iconst (v := 0) S.1 S.2.1 dGrower_firstFits_45 (by decide) ?_
      exact zr_iret S hr hlk hK hP hS rfl hw dGrower_firstFits_46
    · have hw := hw.2 hc
      refine lv_iconst (v := 1) S.1 S.2.1 dGrower_firstFits_41 (by decide) ?_
      refine lv_goto S.1 S.2.1 dGrower_firstFits_42 rfl ?_
      exact zr_iret S hr hlk hK hP hS rfl hw dGrower_firstFits_46
/-! Grower.chooseObject -/
theorem dGrower_chooseObject_0 : decode bGrower_chooseObject 0 = .ok (.aload_n 0, 1) := by decide +kernel
theorem dGrower_chooseObject_1 : decode bGrower_chooseObject 1 = .ok (.bipush 6, 2) := by decide +kernel
theorem dGrower_chooseObject_3 : decode bGrower_chooseObject 3 = .ok (.invokevirtual 59, 3) := by decide +kernel
theorem dGrower_chooseObject_6 : decode bGrower_chooseObject 6 = .ok (.ifCond .ne 11, 3) := by decide +kernel
theorem dGrower_chooseObject_9 : decode bGrower_chooseObject 9 = .ok (.aload_n 0, 1) := by decide +kernel
theorem dGrower_chooseObject_10 : decode bGrower_chooseObject 10 = .ok (.iload_n 1, 1) := by decide +kernel
theorem dGrower_chooseObject_11 : decode bGrower_chooseObject 11 = .ok (.iconst 2, 1) := by decide +kernel
theorem dGrower_chooseObject_12 : decode bGrower_chooseObject 12 = .ok (.iconst 0, 1) := by decide +kernel
theorem dGrower_chooseObject_13 : decode bGrower_chooseObject 13 = .ok (.invokevirtual 94, 3) := by decide +kernel
theorem dGrower_chooseObject_16 : decode bGrower_chooseObject 16 = .ok (.ireturn, 1) := by decide +kernel
theorem dGrower_chooseObject_17 : decode bGrower_chooseObject 17 = .ok (.aload_n 0, 1) := by decide +kernel
theorem dGrower_chooseObject_18 : decode bGrower_chooseObject 18 = .ok (.iconst 3, 1) := by decide +kernel
theorem dGrower_chooseObject_19 : decode bGrower_chooseObject 19 = .ok (.invokevirtual 59, 3) := by decide +kernel
theorem dGrower_chooseObject_22 : decode bGrower_chooseObject 22 = .ok (.ifCond .ne 28, 3) := by decide +kernel
theorem dGrower_chooseObject_25 : decode bGrower_chooseObject 25 = .ok (.iload_n 1, 1) := by decide +kernel
theorem dGrower_chooseObject_26 : decode bGrower_chooseObject 26 = .ok (.ifCond .le 24, 3) := by decide +kernel
theorem dGrower_chooseObject_29 : decode bGrower_chooseObject 29 = .ok (.aload_n 0, 1) := by decide +kernel
theorem dGrower_chooseObject_30 : decode bGrower_chooseObject 30 = .ok (.iload_n 2, 1) := by decide +kernel
theorem dGrower_chooseObject_31 : decode bGrower_chooseObject 31 = .ok (.invokevirtual 110, 3) := by decide +kernel
theorem dGrower_chooseObject_34 : decode bGrower_chooseObject 34 = .ok (.ifCond .eq 16, 3) := by decide +kernel
theorem dGrower_chooseObject_37 : decode bGrower_chooseObject 37 = .ok (.aload_n 0, 1) := by decide +kernel
theorem dGrower_chooseObject_38 : decode bGrower_chooseObject 38 = .ok (.iload_n 1, 1) := by decide +kernel
theorem dGrower_chooseObject_39 : decode bGrower_chooseObject 39 = .ok (.iconst 0, 1) := by decide +kernel
theorem dGrower_chooseObject_40 : decode bGrower_chooseObject 40 = .ok (.aload_n 0, 1) := by decide +kernel
theorem dGrower_chooseObject_41 : decode bGrower_chooseObject 41 = .ok (.getfield 25, 3) := by decide +kernel
theorem dGrower_chooseObject_44 : decode bGrower_chooseObject 44 = .ok (.iconst 0, 1) := by decide +kernel
theorem dGrower_chooseObject_45 : decode bGrower_chooseObject 45 = .ok (.iaload, 1) := by decide +kernel
theorem dGrower_chooseObject_46 : decode bGrower_chooseObject 46 = .ok (.invokevirtual 94, 3) := by decide +kernel
theorem dGrower_chooseObject_49 : decode bGrower_chooseObject 49 = .ok (.ireturn, 1) := by decide +kernel
theorem dGrower_chooseObject_50 : decode bGrower_chooseObject 50 = .ok (.aload_n 0, 1) := by decide +kernel
theorem dGrower_chooseObject_51 : decode bGrower_chooseObject 51 = .ok (.iload_n 1, 1) := by decide +kernel
theorem dGrower_chooseObject_52 : decode bGrower_chooseObject 52 = .ok (.iload_n 2, 1) := by decide +kernel
theorem dGrower_chooseObject_53 : decode bGrower_chooseObject 53 = .ok (.invokevirtual 107, 3) := by decide +kernel
theorem dGrower_chooseObject_56 : decode bGrower_chooseObject 56 = .ok (.ireturn, 1) := by decide +kernel
def wbGrower_chooseObject_50 (n : Nat) (ln : Nat → Nat) (post : Int32 → zM → Prop) (v1 : Int32) (v2 : Int32) (h : zM) : Prop := wpGrower_take n ln v1 v2 h (fun r53 h53 => post r53 h53)
def wpGrower_chooseObject (n : Nat) (ln : Nat → Nat) (x1 : Int32) (x2 : Int32) (h : zM) (post : Int32 → zM → Prop) : Prop := wpGrower_random n ln 6 h (fun r3 h3 => ((¬ r3 = 0 → wpGrower_random n ln 3 h3 (fun r19 h19 => ((¬ r19 = 0 → wbGrower_chooseObject_50 n ln post x1 x2 h19) ∧ (r19 = 0 → (((x1 ≤ 0) → wbGrower_chooseObject_50 n ln post x1 x2 h19) ∧ (¬ (x1 ≤ 0) → wpGrower_firstFits n ln x2 h19 (fun r31 h31 => ((r31 = 0 → wbGrower_chooseObject_50 n ln post x1 x2 h31) ∧ (¬ r31 = 0 → (vp_in 0 2 ∧ wpGrower_choose n ln x1 0 (h31 24 (Int32.toNatClampNeg 0)) h31 (fun r46 h46 => post r46 h46))))))))))) ∧ (r3 = 0 → wpGrower_choose n ln x1 2 0 h3 (fun r13 h13 => post r13 h13))))
abbrev rmGrower_chooseObject : Room := { frames := 4, cells := 0, slots := 0, locals := 95 }
set_option maxHeartbeats 4000000 in
set_option maxRecDepth 100000 in
theorem cGrower_chooseObject (l : Launch) (D : va_G) (cI cC cE : ClassId) (ad : Nat → Nat) (n : Nat) (ln : Nat → Nat) (A : Nat → Prop) (hJ : zJ A (34 + 4 * n) ad) (x1 : Int32) (x2 : Int32) (h : zM) (post : Int32 → zM → Prop) (hw : wpGrower_chooseObject n ln x1 x2 h post) : Met l yGrower_chooseObject (.code yGrower_chooseObject bGrower_chooseObject 3 (some .int) :: zt) rmGrower_chooseObject (va_Pc [.ref (ad 19), .int x1, .int x2] (zPre D (zty cI cC cE) (34 + 4 * n) ad (zF ad cI cC cE n ln) A h)) (va_Qi post (zPst D (zty cI cC cE) (34 + 4 * n) ad (zF ad cI cC cE n ln)) A) 0 0 A := by
  refine Met.ofW (cc := bGrower_chooseObject) (maxL := 3) (ret := (some .int)) (by decide) rfl ?_
  intro p e s m args below meth c s₁ B hml hv
  obtain ⟨rfl, hP, hK, hT, hN⟩ := hv
  have hr := B.returns
  have hlk := B.notSynchronized
  have S : zS p m c bGrower_chooseObject 3 s _ "CallExplorer$Grower" := ⟨B.exec, B.bytes, hml, findClass_of_methodNamed B.named, fun w hw => atoms_spec (ws := .code yGrower_chooseObject bGrower_chooseObject 3 (some .int) :: zt) B.pre w (List.mem_cons_of_mem _ hw)⟩
  have hS : va_S A s.heap s.heap [] := va_S.rf
  have hl := lv_entry ([.ref (ad 19), .int x1, .int x2]) (n := 3) (Nat.le_of_ble_eq_true rfl)
  rw [lg_entry_eq]
  generalize (lg_sl ([.ref (ad 19), .int x1, .int x2]) ++ List.replicate (3 - (lg_sl ([.ref (ad 19), .int x1, .int x2])).length) Slot.unset).toArray = ls at hl ⊢
  have hl : lv_has ls 3 [(0, .ref (ad 19)), (1, .int x1), (2, .int x2)] := hl
  show W p l e rmGrower_chooseObject s m ([.ref (ad 19), .int x1, .int x2] : List Value).toArray below meth c s.heap [] 0 0 (zQi post D (zty cI cC cE) (34 + 4 * n) ad (zF ad cI cC cE n ln) A below ([.ref (ad 19), .int x1, .int x2] : List Value).toArray s) _
  have J50 : ∀ (v1 : Int32) (v2 : Int32) (h : zM) (H : Heap) (locs : List Loc) (ls : Array Slot), wbGrower_chooseObject_50 n ln post v1 v2 h → lv_has ls 3 [(0, .ref (ad 19)), (1, .int v1), (2, .int v2)] → va_P D zcl (zW (34 + 4 * n) ad (zF ad cI cC cE n ln) h) H → va_S A s.heap H locs → W p l e rmGrower_chooseObject s m ([.ref (ad 19), .int x1, .int x2] : List Value).toArray below meth c H locs 0 0 (zQi post D (zty cI cC cE) (34 + 4 * n) ad (zF ad cI cC cE n ln) A below ([.ref (ad 19), .int x1, .int x2] : List Value).toArray s) (F0 m 50 ls []) := by
    intro v1 v2 h H locs ls hw hl hP hS
    unfold wbGrower_chooseObject_50 at hw
    refine lv_aload_n S.1 S.2.1 dGrower_chooseObject_50 rfl (lv_at hl 0 rfl) ?_
    refine lv_iload_n S.1 S.2.1 dGrower_chooseObject_51 rfl (lv_at hl 1 rfl) ?_
    refine lv_iload_n S.1 S.2.1 dGrower_chooseObject_52 rfl (lv_at hl 2 rfl) ?_
    refine zr_i (zr_V (As := [.int v1, .int v2]) (rest := []) S hK hT hN hP hS (zk (by decide)) (zF_19 _) rfl (cGrower_take l D cI cC cE ad n ln A hJ _ _ _ _ hw) caGrower_107 ⟨Nat.le_of_ble_eq_true rfl, Nat.le_of_ble_eq_true rfl⟩ ⟨rfl, rfl⟩ rfl hl.1 rfl (Nat.le_of_ble_eq_true rfl) dGrower_chooseObject_53) hS (fun r53 h53 H locs hw hP hS => ?_)
    exact zr_iret S hr hlk hK hP hS rfl hw dGrower_chooseObject_56
  unfold wpGrower_chooseObject at hw
  refine lv_aload_n S.1 S.2.1 dGrower_chooseObject_0 rfl (lv_at hl 0 rfl) ?_
  refine lv_bipush (v := 6) S.1 S.2.1 dGrower_chooseObject_1 (by decide) ?_
  refine zr_i (zr_V (As := [.int 6]) (rest := []) S hK hT hN hP hS (zk (by decide)) (zF_19 _) rfl (cGrower_random l D cI cC cE ad n ln A hJ _ _ _ hw) caGrower_59 ⟨Nat.le_of_ble_eq_true rfl, Nat.le_of_ble_eq_true rfl⟩ ⟨rfl, rfl⟩ rfl hl.1 rfl (Nat.le_of_ble_eq_true rfl) dGrower_chooseObject_3) hS (fun r3 h3 H locs hw hP hS => ?_)
  refine lv_if_ne S.1 S.2.1 dGrower_chooseObject_6 rfl (fun hc => ?_) (fun hc => ?_)
  · have hw := hw.1 hc
    refine lv_aload_n S.1 S.2.1 dGrower_chooseObject_17 rfl (lv_at hl 0 rfl) ?_
    refine lv_iconst (v := 3) S.1 S.2.1 dGrower_chooseObject_18 (by decide) ?_
    refine zr_i (zr_V (As := [.int 3]) (rest := []) S hK hT hN hP hS (zk (by decide)) (zF_19 _) rfl (cGrower_random l D cI cC cE ad n ln A hJ _ _ _ hw) caGrower_59 ⟨Nat.le_of_ble_eq_true rfl, Nat.le_of_ble_eq_true rfl⟩ ⟨rfl, rfl⟩ rfl hl.1 rfl (Nat.le_of_ble_eq_true rfl) dGrower_chooseObject_19) hS (fun r19 h19 H locs hw hP hS => ?_)
    refine lv_if_ne S.1 S.2.1 dGrower_chooseObject_22 rfl (fun hc => ?_) (fun hc => ?_)
    · have hw := hw.1 hc
      exact J50 _ _ _ _ _ _ hw (lv_sub hl [0, 1, 2] rfl) hP hS
    · have hw := hw.2 hc
      refine lv_iload_n S.1 S.2.1 dGrower_chooseObject_25 rfl (lv_at hl 1 rfl) ?_
      refine lv_if_le S.1 S.2.1 dGrower_chooseObject_26 rfl (fun hc => ?_) (fun hc => ?_)
      · have hw := hw.1 hc
        exact J50 _ _ _ _ _ _ hw (lv_sub hl [0, 1, 2] rfl) hP hS
      · have hw := hw.2 hc
        refine lv_aload_n S.1 S.2.1 dGrower_chooseObject_29 rfl (lv_at hl 0 rfl) ?_
        refine lv_iload_n S.1 S.2.1 dGrower_chooseObject_30 rfl (lv_at hl 2 rfl) ?_
        refine zr_i (zr_V (As := [.int x2]) (rest := []) S hK hT hN hP hS (zk (by decide)) (zF_19 _) rfl (cGrower_firstFits l D cI cC cE ad n ln A hJ _ _ _ hw) caGrower_110 ⟨Nat.le_of_ble_eq_true rfl, Nat.le_of_ble_eq_true rfl⟩ ⟨rfl, rfl⟩ rfl hl.1 rfl (Nat.le_of_ble_eq_true rfl) dGrower_chooseObject_31) hS (fun r31 h31 H locs hw hP hS => ?_)
        refine lv_if_eq S.1 S.2.1 dGrower_chooseObject_34 rfl (fun hc => ?_) (fun hc => ?_)
        · have hw := hw.1 hc
          exact J50 _ _ _ _ _ _ hw (lv_sub hl [0, 1, 2] rfl) hP hS
        · have hw := hw.2 hc
          refine lv_aload_n S.1 S.2.1 dGrower_chooseObject_37 rfl (lv_at hl 0 rfl) ?_
          refine lv_iload_n S.1 S.2.1 dGrower_chooseObject_38 rfl (lv_at hl 1 rfl) ?_
          refine lv_iconst (v := 0) S.1 S.2.1 dGrower_chooseObject_39 (by decide) ?_
          refine lv_aload_n S.1 S.2.1 dGrower_chooseObject_40 rfl (lv_at hl 0 rfl) ?_
          refine zr_get S hK hP (zk (by decide)) (zF_19 _) fGrower_contents q201 rfl dGrower_chooseObject_41 ?_
          refine lv_iconst (v := 0) S.1 S.2.1 dGrower_chooseObject_44 (by decide) ?_
          obtain ⟨z45, hw⟩ := hw
          refine zr_ald S hK hP (zk (by decide)) (zF_24 _) 0 rfl z45 dGrower_chooseObject_45 ?_
          refine zr_i (zr_V (As := [.int x1, .int 0, .int (h31 24 (Int32.toNatClampNeg 0))]) (rest := []) S hK hT hN hP hS (zk (by decide)) (zF_19 _) rfl (cGrower_choose l D cI cC cE ad n ln A hJ _ _ _ _ _ hw) caGrower_94 ⟨Nat.le_of_ble_eq_true rfl, Nat.le_of_ble_eq_true rfl⟩ ⟨rfl, rfl⟩ rfl hl.1 rfl (Nat.le_of_ble_eq_true rfl) dGrower_chooseObject_46) hS (fun r46 h46 H locs hw hP hS => ?_)
          exact zr_iret S hr hlk hK hP hS rfl hw dGrower_chooseObject_49
  · have hw := hw.2 hc
    refine lv_aload_n S.1 S.2.1 dGrower_chooseObject_9 rfl (lv_at hl 0 rfl) ?_
    refine lv_iload_n S.1 S.2.1 dGrower_chooseObject_10 rfl (lv_at hl 1 rfl) ?_
    refine lv_iconst (v := 2) S.1 S.2.1 dGrower_chooseObject_11 (by decide) ?_
    refine lv_iconst (v := 0) S.1 S.2.1 dGrower_chooseObject_12 (by decide) ?_
    refine zr_i (zr_V (As := [.int x1, .int 2, .int 0]) (rest := []) S hK hT hN hP hS (zk (by decide)) (zF_19 _) rfl (cGrower_choose l D cI cC cE ad n ln A hJ _ _ _ _ _ hw) caGrower_94 ⟨Nat.le_of_ble_eq_true rfl, Nat.le_of_ble_eq_true rfl⟩ ⟨rfl, rfl⟩ rfl hl.1 rfl (Nat.le_of_ble_eq_true rfl) dGrower_chooseObject_13) hS (fun r13 h13 H locs hw hP hS => ?_)
    exact zr_iret S hr hlk hK hP hS rfl hw dGrower_chooseObject_16
/-! Grower.chooseArgument -/
theorem dGrower_chooseArgument_0 : decode bGrower_chooseArgument 0 = .ok (.iload_n 2, 1) := by decide +kernel
theorem dGrower_chooseArgument_1 : decode bGrower_chooseArgument 1 = .ok (.lookupswitch 41 #[((-1), 27), (0, 35)], 27) := by decide +kernel
theorem dGrower_chooseArgument_28 : decode bGrower_chooseArgument 28 = .ok (.aload_n 0, 1) := by decide +kernel
theorem dGrower_chooseArgument_29 : decode bGrower_chooseArgument 29 = .ok (.iload_n 1, 1) := by decide +kernel
theorem dGrower_chooseArgument_30 : decode bGrower_chooseArgument 30 = .ok (.iconst (-1), 1) := by decide +kernel
theorem dGrower_chooseArgument_31 : decode bGrower_chooseArgument 31 = .ok (.iconst 0, 1) := by decide +kernel
theorem dGrower_chooseArgument_32 : decode bGrower_chooseArgument 32 = .ok (.invokevirtual 94, 3) := by decide +kernel
theorem dGrower_chooseArgument_35 : decode bGrower_chooseArgument 35 = .ok (.ireturn, 1) := by decide +kernel
theorem dGrower_chooseArgument_36 : decode bGrower_chooseArgument 36 = .ok (.aload_n 0, 1) := by decide +kernel
theorem dGrower_chooseArgument_37 : decode bGrower_chooseArgument 37 = .ok (.iload_n 1, 1) := by decide +kernel
theorem dGrower_chooseArgument_38 : decode bGrower_chooseArgument 38 = .ok (.invokevirtual 98, 3) := by decide +kernel
theorem dGrower_chooseArgument_41 : decode bGrower_chooseArgument 41 = .ok (.ireturn, 1) := by decide +kernel
theorem dGrower_chooseArgument_42 : decode bGrower_chooseArgument 42 = .ok (.aload_n 0, 1) := by decide +kernel
theorem dGrower_chooseArgument_43 : decode bGrower_chooseArgument 43 = .ok (.iload_n 1, 1) := by decide +kernel
theorem dGrower_chooseArgument_44 : decode bGrower_chooseArgument 44 = .ok (.iload_n 2, 1) := by decide +kernel
theorem dGrower_chooseArgument_45 : decode bGrower_chooseArgument 45 = .ok (.invokevirtual 101, 3) := by decide +kernel
theorem dGrower_chooseArgument_48 : decode bGrower_chooseArgument 48 = .ok (.ireturn, 1) := by decide +kernel
def wpGrower_chooseArgument (n : Nat) (ln : Nat → Nat) (x1 : Int32) (x2 : Int32) (h : zM) (post : Int32 → zM → Prop) : Prop := ((x2 = (-1) → wpGrower_choose n ln x1 (-1) 0 h (fun r32 h32 => post r32 h32)) ∧ (¬ x2 = (-1) → ((x2 = 0 → wpGrower_chooseNumber n ln x1 h (fun r38 h38 => post r38 h38)) ∧ (¬ x2 = 0 → wpGrower_chooseObject n ln x1 x2 h (fun r45 h45 => post r45 h45)))))
abbrev rmGrower_chooseArgument : Room := { frames := 5, cells := 0, slots := 0, locals := 117 }
set_option maxHeartbeats 4000000 in
set_option maxRecDepth 100000 in
theorem cGrower_chooseArgument (l : Launch) (D : va_G) (cI cC cE : ClassId) (ad : Nat → Nat) (n : Nat) (ln : Nat → Nat) (A : Nat → Prop) (hJ : zJ A (34 + 4 * n) ad) (x1 : Int32) (x2 : Int32) (h : zM) (post : Int32 → zM → Prop) (hw : wpGrower_chooseArgument n ln x1 x2 h post) : Met l yGrower_chooseArgument (.code yGrower_chooseArgument bGrower_chooseArgument 3 (some .int) :: zt) rmGrower_chooseArgument (va_Pc [.ref (ad 19), .int x1, .int x2] (zPre D (zty cI cC cE) (34 + 4 * n) ad (zF ad cI cC cE n ln) A h)) (va_Qi post (zPst D (zty cI cC cE) (34 + 4 * n) ad (zF ad cI cC cE n ln)) A) 0 0 A := by
  refine Met.ofW (cc := bGrower_chooseArgument) (maxL := 3) (ret := (some .int)) (by decide) rfl ?_
  intro p e s m args below meth c s₁ B hml hv
  obtain ⟨rfl, hP, hK, hT, hN⟩ := hv
  have hr := B.returns
  have hlk := B.notSynchronized
  have S : zS p m c bGrower_chooseArgument 3 s _ "CallExplorer$Grower" := ⟨B.exec, B.bytes, hml, findClass_of_methodNamed B.named, fun w hw => atoms_spec (ws := .code yGrower_chooseArgument bGrower_chooseArgument 3 (some .int) :: zt) B.pre w (List.mem_cons_of_mem _ hw)⟩
  have hS : va_S A s.heap s.heap [] := va_S.rf
  have hl := lv_entry ([.ref (ad 19), .int x1, .int x2]) (n := 3) (Nat.le_of_ble_eq_true rfl)
  rw [lg_entry_eq]
  generalize (lg_sl ([.ref (ad 19), .int x1, .int x2]) ++ List.replicate (3 - (lg_sl ([.ref (ad 19), .int x1, .int x2])).length) Slot.unset).toArray = ls at hl ⊢
  have hl : lv_has ls 3 [(0, .ref (ad 19)), (1, .int x1), (2, .int x2)] := hl
  show W p l e rmGrower_chooseArgument s m ([.ref (ad 19), .int x1, .int x2] : List Value).toArray below meth c s.heap [] 0 0 (zQi post D (zty cI cC cE) (34 + 4 * n) ad (zF ad cI cC cE n ln) A below ([.ref (ad 19), .int x1, .int x2] : List Value).toArray s) _
  unfold wpGrower_chooseArgument at hw
  refine lv_iload_n S.1 S.2.1 dGrower_chooseArgument_0 rfl (lv_at hl 2 rfl) ?_
  by_cases c0 : x2 = (-1)
  · have hw := hw.1 c0
    refine lv_lookup (off := 27) S.1 S.2.1 dGrower_chooseArgument_1 (by decide) (by rw [c0]; decide) rfl ?_
    refine lv_aload_n S.1 S.2.1 dGrower_chooseArgument_28 rfl (lv_at hl 0 rfl) ?_
    refine lv_iload_n S.1 S.2.1 dGrower_chooseArgument_29 rfl (lv_at hl 1 rfl) ?_
    refine lv_iconst (v := (-1)) S.1 S.2.1 dGrower_chooseArgument_30 (by decide) ?_
    refine lv_iconst (v := 0) S.1 S.2.1 dGrower_chooseArgument_31 (by decide) ?_
    refine zr_i (zr_V (As := [.int x1, .int (-1), .int 0]) (rest := []) S hK hT hN hP hS (zk (by decide)) (zF_19 _) rfl (cGrower_choose l D cI cC cE ad n ln A hJ _ _ _ _ _ hw) caGrower_94 ⟨Nat.le_of_ble_eq_true rfl, Nat.le_of_ble_eq_true rfl⟩ ⟨rfl, rfl⟩ rfl hl.1 rfl (Nat.le_of_ble_eq_true rfl) dGrower_chooseArgument_32) hS (fun r32 h32 H locs hw hP hS => ?_)
    exact zr_iret S hr hlk hK hP hS rfl hw dGrower_chooseArgument_35
  · have hw := hw.2 c0
    by_cases c1 : x2 = 0
    · have hw := hw.1 c1
      refine lv_lookup (off := 35) S.1 S.2.1 dGrower_chooseArgument_1 (by decide) (by rw [c1]; decide) rfl ?_
      refine lv_aload_n S.1 S.2.1 dGrower_chooseArgument_36 rfl (lv_at hl 0 rfl) ?_
      refine lv_iload_n S.1 S.2.1 dGrower_chooseArgument_37 rfl (lv_at hl 1 rfl) ?_
      refine zr_i (zr_V (As := [.int x1]) (rest := []) S hK hT hN hP hS (zk (by decide)) (zF_19 _) rfl (cGrower_chooseNumber l D cI cC cE ad n ln A hJ _ _ _ hw) caGrower_98 ⟨Nat.le_of_ble_eq_true rfl, Nat.le_of_ble_eq_true rfl⟩ ⟨rfl, rfl⟩ rfl hl.1 rfl (Nat.le_of_ble_eq_true rfl) dGrower_chooseArgument_38) hS (fun r38 h38 H locs hw hP hS => ?_)
      exact zr_iret S hr hlk hK hP hS rfl hw dGrower_chooseArgument_41
    · have hw := hw.2 c1
      refine lv_lookup S.1 S.2.1 dGrower_chooseArgument_1 (by decide) (by show Op.lookupswitch.offset [((-1), 27), (0, 35)] _ _ = _; rw [lv_osw c0 (by decide), lv_osw c1 (by decide)] <;> rfl) rfl ?_
      refine lv_aload_n S.1 S.2.1 dGrower_chooseArgument_42 rfl (lv_at hl 0 rfl) ?_
      refine lv_iload_n S.1 S.2.1 dGrower_chooseArgument_43 rfl (lv_at hl 1 rfl) ?_
      refine lv_iload_n S.1 S.2.1 dGrower_chooseArgument_44 rfl (lv_at hl 2 rfl) ?_
      refine zr_i (zr_V (As := [.int x1, .int x2]) (rest := []) S hK hT hN hP hS (zk (by decide)) (zF_19 _) rfl (cGrower_chooseObject l D cI cC cE ad n ln A hJ _ _ _ _ hw) caGrower_101 ⟨Nat.le_of_ble_eq_true rfl, Nat.le_of_ble_eq_true rfl⟩ ⟨rfl, rfl⟩ rfl hl.1 rfl (Nat.le_of_ble_eq_true rfl) dGrower_chooseArgument_45) hS (fun r45 h45 H locs hw hP hS => ?_)
      exact zr_iret S hr hlk hK hP hS rfl hw dGrower_chooseArgument_48
/-! Grower.pushChosen -/
theorem dGrower_pushChosen_0 : decode bGrower_pushChosen 0 = .ok (.aload_n 0, 1) := by decide +kernel
theorem dGrower_pushChosen_1 : decode bGrower_pushChosen 1 = .ok (.getfield 12, 3) := by decide +kernel
theorem dGrower_pushChosen_4 : decode bGrower_pushChosen 4 = .ok (.iload_n 1, 1) := by decide +kernel
theorem dGrower_pushChosen_5 : decode bGrower_pushChosen 5 = .ok (.invokevirtual 140, 3) := by decide +kernel
theorem dGrower_pushChosen_8 : decode bGrower_pushChosen 8 = .ok (.istore_n 2, 1) := by decide +kernel
theorem dGrower_pushChosen_9 : decode bGrower_pushChosen 9 = .ok (.iconst 0, 1) := by decide +kernel
theorem dGrower_pushChosen_10 : decode bGrower_pushChosen 10 = .ok (.istore_n 3, 1) := by decide +kernel
theorem dGrower_pushChosen_11 : decode bGrower_pushChosen 11 = .ok (.iload_n 3, 1) := by decide +kernel
theorem dGrower_pushChosen_12 : decode bGrower_pushChosen 12 = .ok (.iconst 2, 1) := by decide +kernel
theorem dGrower_pushChosen_13 : decode bGrower_pushChosen 13 = .ok (.if_icmp .ge 30, 3) := by decide +kernel
theorem dGrower_pushChosen_16 : decode bGrower_pushChosen 16 = .ok (.aload_n 0, 1) := by decide +kernel
theorem dGrower_pushChosen_17 : decode bGrower_pushChosen 17 = .ok (.getfield 12, 3) := by decide +kernel
theorem dGrower_pushChosen_20 : decode bGrower_pushChosen 20 = .ok (.iload_n 2, 1) := by decide +kernel
theorem dGrower_pushChosen_21 : decode bGrower_pushChosen 21 = .ok (.iload_n 3, 1) := by decide +kernel
theorem dGrower_pushChosen_22 : decode bGrower_pushChosen 22 = .ok (.aload_n 0, 1) := by decide +kernel
theorem dGrower_pushChosen_23 : decode bGrower_pushChosen 23 = .ok (.getfield 22, 3) := by decide +kernel
theorem dGrower_pushChosen_26 : decode bGrower_pushChosen 26 = .ok (.iload_n 3, 1) := by decide +kernel
theorem dGrower_pushChosen_27 : decode bGrower_pushChosen 27 = .ok (.iaload, 1) := by decide +kernel
theorem dGrower_pushChosen_28 : decode bGrower_pushChosen 28 = .ok (.aload_n 0, 1) := by decide +kernel
theorem dGrower_pushChosen_29 : decode bGrower_pushChosen 29 = .ok (.getfield 25, 3) := by decide +kernel
theorem dGrower_pushChosen_32 : decode bGrower_pushChosen 32 = .ok (.iload_n 3, 1) := by decide +kernel
theorem dGrower_pushChosen_33 : decode bGrower_pushChosen 33 = .ok (.iaload, 1) := by decide +kernel
theorem dGrower_pushChosen_34 : decode bGrower_pushChosen 34 = .ok (.invokevirtual 143, 3) := by decide +kernel
theorem dGrower_pushChosen_37 : decode bGrower_pushChosen 37 = .ok (.iinc 3 1, 3) := by decide +kernel
theorem dGrower_pushChosen_40 : decode bGrower_pushChosen 40 = .ok (.goto (-29), 3) := by decide +kernel
theorem dGrower_pushChosen_43 : decode bGrower_pushChosen 43 = .ok (.return_, 1) := by decide +kernel
def stGrower_pushChosen_11 (n : Nat) (ln : Nat → Nat) (post : zM → Prop) (L11 : (Int32 × Int32 × zM) → Prop) : (Int32 × Int32 × zM) → Prop := fun s => match s with
  | (v2, v3, h) => (((2 ≤ v3) → post h) ∧ (¬ (2 ≤ v3) → (vp_in v3 2 ∧ (vp_in v3 2 ∧ wpSequence_setArgument 20 v2 v3 (h 23 (Int32.toNatClampNeg v3)) (h 24 (Int32.toNatClampNeg v3)) h (fun h34 => L11 (v2, (v3 + 1), h34))))))
def wpGrower_pushChosen (n : Nat) (ln : Nat → Nat) (x1 : Int32) (h : zM) (post : zM → Prop) : Prop := wpSequence_push 20 x1 h (fun r5 h5 => zL (stGrower_pushChosen_11 n ln post) (r5, 0, h5))
abbrev rmGrower_pushChosen : Room := { frames := 2, cells := 0, slots := 0, locals := 46 }
set_option maxHeartbeats 4000000 in
set_option maxRecDepth 100000 in
theorem cGrower_pushChosen (l : Launch) (D : va_G) (cI cC cE : ClassId) (ad : Nat → Nat) (n : Nat) (ln : Nat → Nat) (A : Nat → Prop) (hJ : zJ A (34 + 4 * n) ad) (x1 : Int32) (h : zM) (post : zM → Prop) (hw : wpGrower_pushChosen n ln x1 h post) : Met l yGrower_pushChosen (.code yGrower_pushChosen bGrower_pushChosen 4 none :: zt) rmGrower_pushChosen (va_Pc [.ref (ad 19), .int x1] (zPre D (zty cI cC cE) (34 + 4 * n) ad (zF ad cI cC cE n ln) A h)) (va_Qv post (zPst D (zty cI cC cE) (34 + 4 * n) ad (zF ad cI cC cE n ln)) A) 0 0 A := by
  refine Met.ofW (cc := bGrower_pushChosen) (maxL := 4) (ret := none) (by decide) rfl ?_
  intro p e s m args below meth c s₁ B hml hv
  obtain ⟨rfl, hP, hK, hT, hN⟩ := hv
  have hr := B.returns
  have hlk := B.notSynchronized
  have S : zS p m c bGrower_pushChosen 4 s _ "CallExplorer$Grower" := ⟨B.exec, B.bytes, hml, findClass_of_methodNamed B.named, fun w hw => atoms_spec (ws := .code yGrower_pushChosen bGrower_pushChosen 4 none :: zt) B.pre w (List.mem_cons_of_mem _ hw)⟩
  have hS : va_S A s.heap s.heap [] := va_S.rf
  have hl := lv_entry ([.ref (ad 19), .int x1]) (n := 4) (Nat.le_of_ble_eq_true rfl)
  rw [lg_entry_eq]
  generalize (lg_sl ([.ref (ad 19), .int x1]) ++ List.replicate (4 - (lg_sl ([.ref (ad 19), .int x1])).length) Slot.unset).toArray = ls at hl ⊢
  have hl : lv_has ls 4 [(0, .ref (ad 19)), (1, .int x1)] := hl
  show W p l e rmGrower_pushChosen s m ([.ref (ad 19), .int x1] : List Value).toArray below meth c s.heap [] 0 0 (zQv post D (zty cI cC cE) (34 + 4 * n) ad (zF ad cI cC cE n ln) A below ([.ref (ad 19), .int x1] : List Value).toArray s) _
  have J11 : ∀ (fu : Nat) (v2 : Int32) (v3 : Int32) (h : zM) (H : Heap) (locs : List Loc) (ls : Array Slot), zl (stGrower_pushChosen_11 n ln post) fu (v2, v3, h) → lv_has ls 4 [(0, .ref (ad 19)), (2, .int v2), (3, .int v3)] → va_P D zcl (zW (34 + 4 * n) ad (zF ad cI cC cE n ln) h) H → va_S A s.heap H locs → W p l e rmGrower_pushChosen s m ([.ref (ad 19), .int x1] : List Value).toArray below meth c H locs 0 0 (zQv post D (zty cI cC cE) (34 + 4 * n) ad (zF ad cI cC cE n ln) A below ([.ref (ad 19), .int x1] : List Value).toArray s) (F0 m 11 ls []) := by
    intro fu11
    induction fu11 with
    | zero =>
      intro v2 v3 h H locs ls hw
      exact (zl_0 hw).elim
    | succ fu11 ih11 =>
      intro v2 v3 h H locs ls hw hl hP hS
      have hw := zl_s hw
      generalize zl (stGrower_pushChosen_11 n ln post) fu11 = L11 at hw ih11
      unfold stGrower_pushChosen_11 at hw
      dsimp only at hw
      refine lv_iload_n S.1 S.2.1 dGrower_pushChosen_11 rfl (lv_at hl 2 rfl) ?_
      refine lv_iconst (v := 2) S.1 S.2.1 dGrower_pushChosen_12 (by decide) ?_
      refine lv_icmp_ge S.1 S.2.1 dGrower_pushChosen_13 rfl (fun hc => ?_) (fun hc => ?_)
      · have hw := hw.1 hc
        exact zr_vret S hr hlk hK hP hS hw dGrower_pushChosen_43
      · have hw := hw.2 hc
        refine lv_aload_n S.1 S.2.1 dGrower_pushChosen_16 rfl (lv_at hl 0 rfl) ?_
        refine zr_get S hK hP (zk (by decide)) (zF_19 _) fGrower_sequence q195 rfl dGrower_pushChosen_17 ?_
        refine lv_iload_n S.1 S.2.1 dGrower_pushChosen_20 rfl (lv_at hl 1 rfl) ?_
        refine lv_iload_n S.1 S.2.1 dGrower_pushChosen_21 rfl (lv_at hl 2 rfl) ?_
        refine lv_aload_n S.1 S.2.1 dGrower_pushChosen_22 rfl (lv_at hl 0 rfl) ?_
        refine zr_get S hK hP (zk (by decide)) (zF_19 _) fGrower_forms q200 rfl dGrower_pushChosen_23 ?_
        refine lv_iload_n S.1 S.2.1 dGrower_pushChosen_26 rfl (lv_at hl 2 rfl) ?_
        obtain ⟨z27, hw⟩ := hw
        refine zr_ald S hK hP (zk (by decide)) (zF_23 _) 0 rfl z27 dGrower_pushChosen_27 ?_
        refine lv_aload_n S.1 S.2.1 dGrower_pushChosen_28 rfl (lv_at hl 0 rfl) ?_
        refine zr_get S hK hP (zk (by decide)) (zF_19 _) fGrower_contents q201 rfl dGrower_pushChosen_29 ?_
        refine lv_iload_n S.1 S.2.1 dGrower_pushChosen_32 rfl (lv_at hl 2 rfl) ?_
        obtain ⟨z33, hw⟩ := hw
        refine zr_ald S hK hP (zk (by decide)) (zF_24 _) 0 rfl z33 dGrower_pushChosen_33 ?_
        refine zr_v (zr_V (As := [.int v2, .int v3, .int (h 23 (Int32.toNatClampNeg v3)), .int (h 24 (Int32.toNatClampNeg v3))]) (rest := []) S hK hT hN hP hS (zk (by decide)) (zF_20 _) rfl (cSequence_setArgument l D (zty cI cC cE) (34 + 4 * n) ad (zF ad cI cC cE n ln) A hJ cI rfl 20 zs_20 _ _ _ _ _ _ hw) caGrower_143 ⟨Nat.le_of_ble_eq_true rfl, Nat.le_of_ble_eq_true rfl⟩ ⟨rfl, rfl⟩ rfl hl.1 rfl (Nat.le_of_ble_eq_true rfl) dGrower_pushChosen_34) hS (fun h34 H locs hw hP hS => ?_)
        refine lv_iinc (v := (v3 + 1)) (lv' := [(3, .int (v3 + 1)), (0, .ref (ad 19)), (2, .int v2)]) (k := 2) S.1 S.2.1 dGrower_pushChosen_37 hl rfl rfl (by decide) rfl (fun ls hl => ?_)
        refine lv_goto S.1 S.2.1 dGrower_pushChosen_40 rfl ?_
        exact ih11 _ _ _ _ _ _ hw (lv_sub hl [1, 2, 0] rfl) hP hS
  unfold wpGrower_pushChosen at hw
  refine lv_aload_n S.1 S.2.1 dGrower_pushChosen_0 rfl (lv_at hl 0 rfl) ?_
  refine zr_get S hK hP (zk (by decide)) (zF_19 _) fGrower_sequence q195 rfl dGrower_pushChosen_1 ?_
  refine lv_iload_n S.1 S.2.1 dGrower_pushChosen_4 rfl (lv_at hl 1 rfl) ?_
  refine zr_i (zr_V (As := [.int x1]) (rest := []) S hK hT hN hP hS (zk (by decide)) (zF_20 _) rfl (cSequence_push l D (zty cI cC cE) (34 + 4 * n) ad (zF ad cI cC cE n ln) A hJ cI rfl 20 zs_20 _ _ _ hw) caGrower_140 ⟨Nat.le_of_ble_eq_true rfl, Nat.le_of_ble_eq_true rfl⟩ ⟨rfl, rfl⟩ rfl hl.1 rfl (Nat.le_of_ble_eq_true rfl) dGrower_pushChosen_5) hS (fun r5 h5 H locs hw hP hS => ?_)
  refine lv_istore_n (lv' := [(2, .int r5), (0, .ref (ad 19)), (1, .int x1)]) S.1 S.2.1 dGrower_pushChosen_8 rfl hl (by decide) rfl (fun ls hl => ?_)
  refine lv_iconst (v := 0) S.1 S.2.1 dGrower_pushChosen_9 (by decide) ?_
  refine lv_istore_n (lv' := [(3, .int 0), (2, .int r5), (0, .ref (ad 19)), (1, .int x1)]) S.1 S.2.1 dGrower_pushChosen_10 rfl hl (by decide) rfl (fun ls hl => ?_)
  obtain ⟨fu, hw⟩ := hw
  exact J11 fu _ _ _ _ _ _ hw (lv_sub hl [2, 1, 0] rfl) hP hS
