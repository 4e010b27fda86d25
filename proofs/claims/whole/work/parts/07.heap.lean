/-! predicates and contracts, printed by wip/whole/gen -/
/-! Heap.make -/
theorem dHeap_make_0 : decode bHeap_make 0 = .ok (.aload_n 0, 1) := by decide +kernel
theorem dHeap_make_1 : decode bHeap_make 1 = .ok (.getfield 25, 3) := by decide +kernel
theorem dHeap_make_4 : decode bHeap_make 4 = .ok (.istore 4, 2) := by decide +kernel
theorem dHeap_make_6 : decode bHeap_make 6 = .ok (.aload_n 0, 1) := by decide +kernel
theorem dHeap_make_7 : decode bHeap_make 7 = .ok (.getfield 9, 3) := by decide +kernel
theorem dHeap_make_10 : decode bHeap_make 10 = .ok (.iload 4, 2) := by decide +kernel
theorem dHeap_make_12 : decode bHeap_make 12 = .ok (.iload_n 1, 1) := by decide +kernel
theorem dHeap_make_13 : decode bHeap_make 13 = .ok (.iastore, 1) := by decide +kernel
theorem dHeap_make_14 : decode bHeap_make 14 = .ok (.aload_n 0, 1) := by decide +kernel
theorem dHeap_make_15 : decode bHeap_make 15 = .ok (.getfield 15, 3) := by decide +kernel
theorem dHeap_make_18 : decode bHeap_make 18 = .ok (.iload 4, 2) := by decide +kernel
theorem dHeap_make_20 : decode bHeap_make 20 = .ok (.iload_n 2, 1) := by decide +kernel
theorem dHeap_make_21 : decode bHeap_make 21 = .ok (.iastore, 1) := by decide +kernel
theorem dHeap_make_22 : decode bHeap_make 22 = .ok (.aload_n 0, 1) := by decide +kernel
theorem dHeap_make_23 : decode bHeap_make 23 = .ok (.getfield 18, 3) := by decide +kernel
theorem dHeap_make_26 : decode bHeap_make 26 = .ok (.iload 4, 2) := by decide +kernel
theorem dHeap_make_28 : decode bHeap_make 28 = .ok (.iload_n 3, 1) := by decide +kernel
theorem dHeap_make_29 : decode bHeap_make 29 = .ok (.iastore, 1) := by decide +kernel
theorem dHeap_make_30 : decode bHeap_make 30 = .ok (.aload_n 0, 1) := by decide +kernel
theorem dHeap_make_31 : decode bHeap_make 31 = .ok (.dup, 1) := by decide +kernel
theorem dHeap_make_32 : decode bHeap_make 32 = .ok (.getfield 25, 3) := by decide +kernel
theorem dHeap_make_35 : decode bHeap_make 35 = .ok (.iconst 1, 1) := by decide +kernel
theorem dHeap_make_36 : decode bHeap_make 36 = .ok (.iadd, 1) := by decide +kernel
theorem dHeap_make_37 : decode bHeap_make 37 = .ok (.putfield 25, 3) := by decide +kernel
theorem dHeap_make_40 : decode bHeap_make 40 = .ok (.iload 4, 2) := by decide +kernel
theorem dHeap_make_42 : decode bHeap_make 42 = .ok (.ireturn, 1) := by decide +kernel
def wpHeap_make (n : Nat) (ln : Nat → Nat) (x1 : Int32) (x2 : Int32) (x3 : Int32) (h : zM) (post : Int32 → zM → Prop) : Prop := ∀ y4 : Int32, y4 = (h 15 1) → (vp_in y4 10 ∧ ∀ h13 : zM, h13 = zu h 16 (Int32.toNatClampNeg y4) x1 → (vp_in y4 10 ∧ ∀ h21 : zM, h21 = zu h13 17 (Int32.toNatClampNeg y4) x2 → (vp_in y4 10 ∧ ∀ h29 : zM, h29 = zu h21 18 (Int32.toNatClampNeg y4) x3 → ∀ h37 : zM, h37 = zu h29 15 1 ((h29 15 1) + 1) → post y4 h37)))
abbrev rmHeap_make : Room := { frames := 0, cells := 0, slots := 0, locals := 0 }
set_option maxHeartbeats 4000000 in
set_option maxRecDepth 100000 in
theorem cHeap_make (l : Launch) (D : va_G) (cI cC cE : ClassId) (ad : Nat → Nat) (n : Nat) (ln : Nat → Nat) (A : Nat → Prop) (hJ : zJ A (34 + 4 * n) ad) (x1 : Int32) (x2 : Int32) (x3 : Int32) (h : zM) (post : Int32 → zM → Prop) (hw : wpHeap_make n ln x1 x2 x3 h post) : Met l yHeap_make (.code yHeap_make bHeap_make 5 (some .int) :: zt) rmHeap_make (va_Pc [.ref (ad 15), .int x1, .int x2, .int x3] (zPre D (zty cI cC cE) (34 + 4 * n) ad (zF ad cI cC cE n ln) A h)) (va_Qi post (zPst D (zty cI cC cE) (34 + 4 * n) ad (zF ad cI cC cE n ln)) A) 0 0 A := by
  refine Met.ofW (cc := bHeap_make) (maxL := 5) (ret := (some .int)) (by decide) rfl ?_
  intro p e s m args below meth c s₁ B hml hv
  obtain ⟨rfl, hP, hK, hT, hN⟩ := hv
  have hr := B.returns
  have hlk := B.notSynchronized
  have S : zS p m c bHeap_make 5 s _ "CallExplorer$Heap" := ⟨B.exec, B.bytes, hml, findClass_of_methodNamed B.named, fun w hw => atoms_spec (ws := .code yHeap_make bHeap_make 5 (some .int) :: zt) B.pre w (List.mem_cons_of_mem _ hw)⟩
  have hS : va_S A s.heap s.heap [] := va_S.rf
  have hl := lv_entry ([.ref (ad 15), .int x1, .int x2, .int x3]) (n := 5) (Nat.le_of_ble_eq_true rfl)
  rw [lg_entry_eq]
  generalize (lg_sl ([.ref (ad 15), .int x1, .int x2, .int x3]) ++ List.replicate (5 - (lg_sl ([.ref (ad 15), .int x1, .int x2, .int x3])).length) Slot.unset).toArray = ls at hl ⊢
  have hl : lv_has ls 5 [(0, .ref (ad 15)), (1, .int x1), (2, .int x2), (3, .int x3)] := hl
  show W p l e rmHeap_make s m ([.ref (ad 15), .int x1, .int x2, .int x3] : List Value).toArray below meth c s.heap [] 0 0 (zQi post D (zty cI cC cE) (34 + 4 * n) ad (zF ad cI cC cE n ln) A below ([.ref (ad 15), .int x1, .int x2, .int x3] : List Value).toArray s) _
  unfold wpHeap_make at hw
  refine lv_aload_n S.1 S.2.1 dHeap_make_0 rfl (lv_at hl 0 rfl) ?_
  refine zr_get S hK hP (zk (by decide)) (zF_15 _) fHeap_count q105 rfl dHeap_make_1 ?_
  refine lv_topi (fun y4 e4 => ?_)
  have hw := hw y4 e4
  refine lv_istore (lv' := [(4, .int y4), (0, .ref (ad 15)), (1, .int x1), (2, .int x2), (3, .int x3)]) S.1 S.2.1 dHeap_make_4 hl (by decide) rfl (fun ls hl => ?_)
  refine lv_aload_n S.1 S.2.1 dHeap_make_6 rfl (lv_at hl 1 rfl) ?_
  refine zr_get S hK hP (zk (by decide)) (zF_15 _) fHeap_classes q107 rfl dHeap_make_7 ?_
  refine lv_iload S.1 S.2.1 dHeap_make_10 (lv_at hl 0 rfl) ?_
  refine lv_iload_n S.1 S.2.1 dHeap_make_12 rfl (lv_at hl 2 rfl) ?_
  obtain ⟨z13, hw⟩ := hw
  refine zr_ast S hK hJ hP hS (zk (by decide)) zF_16 0 rfl z13 dHeap_make_13 (fun h13 H locs e13 hP hS => ?_)
  have hw := hw h13 e13
  refine lv_aload_n S.1 S.2.1 dHeap_make_14 rfl (lv_at hl 1 rfl) ?_
  refine zr_get S hK hP (zk (by decide)) (zF_15 _) fHeap_values q109 rfl dHeap_make_15 ?_
  refine lv_iload S.1 S.2.1 dHeap_make_18 (lv_at hl 0 rfl) ?_
  refine lv_iload_n S.1 S.2.1 dHeap_make_20 rfl (lv_at hl 3 rfl) ?_
  obtain ⟨z21, hw⟩ := hw
  refine zr_ast S hK hJ hP hS (zk (by decide)) zF_17 0 rfl z21 dHeap_make_21 (fun h21 H locs e21 hP hS => ?_)
  have hw := hw h21 e21
  refine lv_aload_n S.1 S.2.1 dHeap_make_22 rfl (lv_at hl 1 rfl) ?_
  refine zr_get S hK hP (zk (by decide)) (zF_15 _) fHeap_nexts q111 rfl dHeap_make_23 ?_
  refine lv_iload S.1 S.2.1 dHeap_make_26 (lv_at hl 0 rfl) ?_
  refine lv_iload_n S.1 S.2.1 dHeap_make_28 rfl (lv_at hl 4 rfl) ?_
  obtain ⟨z29, hw⟩ := hw
  refine zr_ast S hK hJ hP hS (zk (by decide)) zF_18 0 rfl z29 dHeap_make_29 (fun h29 H locs e29 hP hS => ?_)
  have hw := hw h29 e29
  refine lv_aload_n S.1 S.2.1 dHeap_make_30 rfl (lv_at hl 1 rfl) ?_
  refine lv_dup S.1 S.2.1 dHeap_make_31 rfl ?_
  refine zr_get S hK hP (zk (by decide)) (zF_15 _) fHeap_count q105 rfl dHeap_make_32 ?_
  refine lv_iconst (v := 1) S.1 S.2.1 dHeap_make_35 (by decide) ?_
  refine lv_iadd S.1 S.2.1 dHeap_make_36 ?_
  refine zr_put S hK hJ hP hS (zk (by decide)) (zF_15 _) fHeap_count q105 rfl rfl (Nat.le_of_ble_eq_true rfl) (zF_15 _) dHeap_make_37 (fun h37 H locs e37 hP hS => ?_)
  have hw := hw h37 e37
  refine lv_iload S.1 S.2.1 dHeap_make_40 (lv_at hl 0 rfl) ?_
  exact zr_iret S hr hlk hK hP hS rfl hw dHeap_make_42
/-! Heap.reaches -/
theorem dHeap_reaches_0 : decode bHeap_reaches 0 = .ok (.iload_n 1, 1) := by decide +kernel
theorem dHeap_reaches_1 : decode bHeap_reaches 1 = .ok (.istore_n 3, 1) := by decide +kernel
theorem dHeap_reaches_2 : decode bHeap_reaches 2 = .ok (.iconst 0, 1) := by decide +kernel
theorem dHeap_reaches_3 : decode bHeap_reaches 3 = .ok (.istore 4, 2) := by decide +kernel
theorem dHeap_reaches_5 : decode bHeap_reaches 5 = .ok (.iload 4, 2) := by decide +kernel
theorem dHeap_reaches_7 : decode bHeap_reaches 7 = .ok (.aload_n 0, 1) := by decide +kernel
theorem dHeap_reaches_8 : decode bHeap_reaches 8 = .ok (.getfield 25, 3) := by decide +kernel
theorem dHeap_reaches_11 : decode bHeap_reaches 11 = .ok (.if_icmp .ge 26, 3) := by decide +kernel
theorem dHeap_reaches_14 : decode bHeap_reaches 14 = .ok (.iload_n 3, 1) := by decide +kernel
theorem dHeap_reaches_15 : decode bHeap_reaches 15 = .ok (.iconst (-1), 1) := by decide +kernel
theorem dHeap_reaches_16 : decode bHeap_reaches 16 = .ok (.if_icmp .eq 21, 3) := by decide +kernel
theorem dHeap_reaches_19 : decode bHeap_reaches 19 = .ok (.iload_n 3, 1) := by decide +kernel
theorem dHeap_reaches_20 : decode bHeap_reaches 20 = .ok (.iload_n 2, 1) := by decide +kernel
theorem dHeap_reaches_21 : decode bHeap_reaches 21 = .ok (.if_icmp .eq 16, 3) := by decide +kernel
theorem dHeap_reaches_24 : decode bHeap_reaches 24 = .ok (.aload_n 0, 1) := by decide +kernel
theorem dHeap_reaches_25 : decode bHeap_reaches 25 = .ok (.getfield 18, 3) := by decide +kernel
theorem dHeap_reaches_28 : decode bHeap_reaches 28 = .ok (.iload_n 3, 1) := by decide +kernel
theorem dHeap_reaches_29 : decode bHeap_reaches 29 = .ok (.iaload, 1) := by decide +kernel
theorem dHeap_reaches_30 : decode bHeap_reaches 30 = .ok (.istore_n 3, 1) := by decide +kernel
theorem dHeap_reaches_31 : decode bHeap_reaches 31 = .ok (.iinc 4 1, 3) := by decide +kernel
theorem dHeap_reaches_34 : decode bHeap_reaches 34 = .ok (.goto (-29), 3) := by decide +kernel
theorem dHeap_reaches_37 : decode bHeap_reaches 37 = .ok (.iload_n 3, 1) := by decide +kernel
theorem dHeap_reaches_38 : decode bHeap_reaches 38 = .ok (.iload_n 2, 1) := by decide +kernel
theorem dHeap_reaches_39 : decode bHeap_reaches 39 = .ok (.if_icmp .ne 7, 3) := by decide +kernel
theorem dHeap_reaches_42 : decode bHeap_reaches 42 = .ok (.iconst 1, 1) := by decide +kernel
theorem dHeap_reaches_43 : decode bHeap_reaches 43 = .ok (.goto 4, 3) := by decide +kernel
theorem dHeap_reaches_46 : decode bHeap_reaches 46 = .ok (.iconst 0, 1) := by decide +kernel
theorem dHeap_reaches_47 : decode bHeap_reaches 47 = .ok (.ireturn, 1) := by decide +kernel
def wbHeap_reaches_37 (n : Nat) (ln : Nat → Nat) (post : Int32 → zM → Prop) (v2 : Int32) (v3 : Int32) (h : zM) : Prop := ((¬ v3 = v2 → post 0 h) ∧ (v3 = v2 → post 1 h))
def stHeap_reaches_5 (n : Nat) (ln : Nat → Nat) (post : Int32 → zM → Prop) (L5 : (Int32 × Int32 × Int32 × zM) → Prop) : (Int32 × Int32 × Int32 × zM) → Prop := fun s => match s with
  | (v2, v3, v4, h) => ((((h 15 1) ≤ v4) → wbHeap_reaches_37 n ln post v2 v3 h) ∧ (¬ ((h 15 1) ≤ v4) → ((v3 = (-1) → wbHeap_reaches_37 n ln post v2 v3 h) ∧ (¬ v3 = (-1) → ((v3 = v2 → wbHeap_reaches_37 n ln post v2 v3 h) ∧ (¬ v3 = v2 → (vp_in v3 10 ∧ ∀ y30 : Int32, y30 = (h 18 (Int32.toNatClampNeg v3)) → L5 (v2, y30, (v4 + 1), h))))))))
def wpHeap_reaches (n : Nat) (ln : Nat → Nat) (x1 : Int32) (x2 : Int32) (h : zM) (post : Int32 → zM → Prop) : Prop := zL (stHeap_reaches_5 n ln post) (x2, x1, 0, h)
abbrev rmHeap_reaches : Room := { frames := 0, cells := 0, slots := 0, locals := 0 }
set_option maxHeartbeats 4000000 in
set_option maxRecDepth 100000 in
theorem cHeap_reaches (l : Launch) (D : va_G) (cI cC cE : ClassId) (ad : Nat → Nat) (n : Nat) (ln : Nat → Nat) (A : Nat → Prop) (hJ : zJ A (34 + 4 * n) ad) (x1 : Int32) (x2 : Int32) (h : zM) (post : Int32 → zM → Prop) (hw : wpHeap_reaches n ln x1 x2 h post) : Met l yHeap_reaches (.code yHeap_reaches bHeap_reaches 5 (some .boolean) :: zt) rmHeap_reaches (va_Pc [.ref (ad 15), .int x1, .int x2] (zPre D (zty cI cC cE) (34 + 4 * n) ad (zF ad cI cC cE n ln) A h)) (va_Qi post (zPst D (zty cI cC cE) (34 + 4 * n) ad (zF ad cI cC cE n ln)) A) 0 0 A := by
  refine Met.ofW (cc := bHeap_reaches) (maxL := 5) (ret := (some .boolean)) (by decide) rfl ?_
  intro p e s m args below meth c s₁ B hml hv
  obtain ⟨rfl, hP, hK, hT, hN⟩ := hv
  have hr := B.returns
  have hlk := B.notSynchronized
  have S : zS p m c bHeap_reaches 5 s _ "CallExplorer$Heap" := ⟨B.exec, B.bytes, hml, findClass_of_methodNamed B.named, fun w hw => atoms_spec (ws := .code yHeap_reaches bHeap_reaches 5 (some .boolean) :: zt) B.pre w (List.mem_cons_of_mem _ hw)⟩
  have hS : va_S A s.heap s.heap [] := va_S.rf
  have hl := lv_entry ([.ref (ad 15), .int x1, .int x2]) (n := 5) (Nat.le_of_ble_eq_true rfl)
  rw [lg_entry_eq]
  generalize (lg_sl ([.ref (ad 15), .int x1, .int x2]) ++ List.replicate (5 - (lg_sl ([.ref (ad 15), .int x1, .int x2])).length) Slot.unset).toArray = ls at hl ⊢
  have hl : lv_has ls 5 [(0, .ref (ad 15)), (1, .int x1), (2, .int x2)] := hl
  show W p l e rmHeap_reaches s m ([.ref (ad 15), .int x1, .int x2] : List Value).toArray below meth c s.heap [] 0 0 (zQi post D (zty cI cC cE) (34 + 4 * n) ad (zF ad cI cC cE n ln) A below ([.ref (ad 15), .int x1, .int x2] : List Value).toArray s) _
  have J37 : ∀ (v2 : Int32) (v3 : Int32) (h : zM) (H : Heap) (locs : List Loc) (ls : Array Slot), wbHeap_reaches_37 n ln post v2 v3 h → lv_has ls 5 [(2, .int v2), (3, .int v3)] → va_P D zcl (zW (34 + 4 * n) ad (zF ad cI cC cE n ln) h) H → va_S A s.heap H locs → W p l e rmHeap_reaches s m ([.ref (ad 15), .int x1, .int x2] : List Value).toArray below meth c H locs 0 0 (zQi post D (zty cI cC cE) (34 + 4 * n) ad (zF ad cI cC cE n ln) A below ([.ref (ad 15), .int x1, .int x2] : List Value).toArray s) (F0 m 37 ls []) := by
    intro v2 v3 h H locs ls hw hl hP hS
    unfold wbHeap_reaches_37 at hw
    refine lv_iload_n S.1 S.2.1 dHeap_reaches_37 rfl (lv_at hl 1 rfl) ?_
    refine lv_iload_n S.1 S.2.1 dHeap_reaches_38 rfl (lv_at hl 0 rfl) ?_
    refine lv_icmp_ne S.1 S.2.1 dHeap_reaches_39 rfl (fun hc => ?_) (fun hc => ?_)
    · have hw := hw.1 hc
      refine lv_iconst (v := 0) S.1 S.2.1 dHeap_reaches_46 (by decide) ?_
      exact zr_iret S hr hlk hK hP hS rfl hw dHeap_reaches_47
    · have hw := hw.2 hc
      refine lv_iconst (v := 1) S.1 S.2.1 dHeap_reaches_42 (by decide) ?_
      refine lv_goto S.1 S.2.1 dHeap_reaches_43 rfl ?_
      exact zr_iret S hr hlk hK hP hS rfl hw dHeap_reaches_47
  have J5 : ∀ (fu : Nat) (v2 : Int32) (v3 : Int32) (v4 : Int32) (h : zM) (H : Heap) (locs : List Loc) (ls : Array Slot), zl (stHeap_reaches_5 n ln post) fu (v2, v3, v4, h) → lv_has ls 5 [(0, .ref (ad 15)), (2, .int v2), (3, .int v3), (4, .int v4)] → va_P D zcl (zW (34 + 4 * n) ad (zF ad cI cC cE n ln) h) H → va_S A s.heap H locs → W p l e rmHeap_reaches s m ([.ref (ad 15), .int x1, .int x2] : List Value).toArray below meth c H locs 0 0 (zQi post D (zty cI cC cE) (34 + 4 * n) ad (zF ad cI cC cE n ln) A below ([.ref (ad 15), .int x1, .int x2] : List Value).toArray s) (F0 m 5 ls []) := by
    intro fu5
    induction fu5 with
    | zero =>
      intro v2 v3 v4 h H locs ls hw
      exact (zl_0 hw).elim
    | succ fu5 ih5 =>
      intro v2 v3 v4 h H locs ls hw hl hP hS
      have hw := zl_s hw
      generalize zl (stHeap_reaches_5 n ln post) fu5 = L5 at hw ih5
      unfold stHeap_reaches_5 at hw
      dsimp only at hw
      refine lv_iload S.1 S.2.1 dHeap_reaches_5 (lv_at hl 3 rfl) ?_
      refine lv_aload_n S.1 S.2.1 dHeap_reaches_7 rfl (lv_at hl 0 rfl) ?_
      refine zr_get S hK hP (zk (by decide)) (zF_15 _) fHeap_count q105 rfl dHeap_reaches_8 ?_
      refine lv_icmp_ge S.1 S.2.1 dHeap_reaches_11 rfl (fun hc => ?_) (fun hc => ?_)
      · have hw := hw.1 hc
        exact J37 _ _ _ _ _ _ hw (lv_sub hl [1, 2] rfl) hP hS
      · have hw := hw.2 hc
        refine lv_iload_n S.1 S.2.1 dHeap_reaches_14 rfl (lv_at hl 2 rfl) ?_
        refine lv_iconst (v := (-1)) S.1 S.2.1 dHeap_reaches_15 (by decide) ?_
        refine lv_icmp_eq S.1 S.2.1 dHeap_reaches_16 rfl (fun hc => ?_) (fun hc => ?_)
        · have hw := hw.1 hc
          exact J37 _ _ _ _ _ _ hw (lv_sub hl [1, 2] rfl) hP hS
        · have hw := hw.2 hc
          refine lv_iload_n S.1 S.2.1 dHeap_reaches_19 rfl (lv_at hl 2 rfl) ?_
          refine lv_iload_n S.1 S.2.1 dHeap_reaches_20 rfl (lv_at hl 1 rfl) ?_
          refine lv_icmp_eq S.1 S.2.1 dHeap_reaches_21 rfl (fun hc => ?_) (fun hc => ?_)
          · have hw := hw.1 hc
            exact J37 _ _ _ _ _ _ hw (lv_sub hl [1, 2] rfl) hP hS
          · have hw := hw.2 hc
            refine lv_aload_n S.1 S.2.1 dHeap_reaches_24 rfl (lv_at hl 0 rfl) ?_
            refine zr_get S hK hP (zk (by decide)) (zF_15 _) fHeap_nexts q111 rfl dHeap_reaches_25 ?_
            refine lv_iload_n S.1 S.2.1 dHeap_reaches_28 rfl (lv_at hl 2 rfl) ?_
            obtain ⟨z29, hw⟩ := hw
            refine zr_ald S hK hP (zk (by decide)) (zF_18 _) 0 rfl z29 dHeap_reaches_29 ?_
            refine lv_topi (fun y30 e30 => ?_)
            have hw := hw y30 e30
            refine lv_istore_n (lv' := [(3, .int y30), (0, .ref (ad 15)), (2, .int v2), (4, .int v4)]) S.1 S.2.1 dHeap_reaches_30 rfl hl (by decide) rfl (fun ls hl => ?_)
            refine lv_iinc (v := (v4 + 1)) (lv' := [(4, .int (v4 + 1)), (3, .int y30), (0, .ref (ad 15)), (2, .int v2)]) (k := 3) S.1 S.2.1 dHeap_reaches_31 hl rfl rfl (by decide) rfl (fun ls hl => ?_)
            refine lv_goto S.1 S.2.1 dHeap_reaches_34 rfl ?_
            exact ih5 _ _ _ _ _ _ _ hw (lv_sub hl [2, 3, 1, 0] rfl) hP hS
  unfold wpHeap_reaches at hw
  refine lv_iload_n S.1 S.2.1 dHeap_reaches_0 rfl (lv_at hl 1 rfl) ?_
  refine lv_istore_n (lv' := [(3, .int x1), (0, .ref (ad 15)), (1, .int x1), (2, .int x2)]) S.1 S.2.1 dHeap_reaches_1 rfl hl (by decide) rfl (fun ls hl => ?_)
  refine lv_iconst (v := 0) S.1 S.2.1 dHeap_reaches_2 (by decide) ?_
  refine lv_istore (lv' := [(4, .int 0), (3, .int x1), (0, .ref (ad 15)), (1, .int x1), (2, .int x2)]) S.1 S.2.1 dHeap_reaches_3 hl (by decide) rfl (fun ls hl => ?_)
  obtain ⟨fu, hw⟩ := hw
  exact J5 fu _ _ _ _ _ _ _ hw (lv_sub hl [2, 4, 1, 0] rfl) hP hS
/-! Heap.chainLength -/
theorem dHeap_chainLength_0 : decode bHeap_chainLength 0 = .ok (.iconst 0, 1) := by decide +kernel
theorem dHeap_chainLength_1 : decode bHeap_chainLength 1 = .ok (.istore_n 2, 1) := by decide +kernel
theorem dHeap_chainLength_2 : decode bHeap_chainLength 2 = .ok (.iload_n 1, 1) := by decide +kernel
theorem dHeap_chainLength_3 : decode bHeap_chainLength 3 = .ok (.istore_n 3, 1) := by decide +kernel
theorem dHeap_chainLength_4 : decode bHeap_chainLength 4 = .ok (.iconst 0, 1) := by decide +kernel
theorem dHeap_chainLength_5 : decode bHeap_chainLength 5 = .ok (.istore 4, 2) := by decide +kernel
theorem dHeap_chainLength_7 : decode bHeap_chainLength 7 = .ok (.iload 4, 2) := by decide +kernel
theorem dHeap_chainLength_9 : decode bHeap_chainLength 9 = .ok (.aload_n 0, 1) := by decide +kernel
theorem dHeap_chainLength_10 : decode bHeap_chainLength 10 = .ok (.getfield 25, 3) := by decide +kernel
theorem dHeap_chainLength_13 : decode bHeap_chainLength 13 = .ok (.if_icmp .ge 24, 3) := by decide +kernel
theorem dHeap_chainLength_16 : decode bHeap_chainLength 16 = .ok (.iload_n 3, 1) := by decide +kernel
theorem dHeap_chainLength_17 : decode bHeap_chainLength 17 = .ok (.iconst (-1), 1) := by decide +kernel
theorem dHeap_chainLength_18 : decode bHeap_chainLength 18 = .ok (.if_icmp .eq 19, 3) := by decide +kernel
theorem dHeap_chainLength_21 : decode bHeap_chainLength 21 = .ok (.aload_n 0, 1) := by decide +kernel
theorem dHeap_chainLength_22 : decode bHeap_chainLength 22 = .ok (.getfield 18, 3) := by decide +kernel
theorem dHeap_chainLength_25 : decode bHeap_chainLength 25 = .ok (.iload_n 3, 1) := by decide +kernel
theorem dHeap_chainLength_26 : decode bHeap_chainLength 26 = .ok (.iaload, 1) := by decide +kernel
theorem dHeap_chainLength_27 : decode bHeap_chainLength 27 = .ok (.istore_n 3, 1) := by decide +kernel
theorem dHeap_chainLength_28 : decode bHeap_chainLength 28 = .ok (.iinc 2 1, 3) := by decide +kernel
theorem dHeap_chainLength_31 : decode bHeap_chainLength 31 = .ok (.iinc 4 1, 3) := by decide +kernel
theorem dHeap_chainLength_34 : decode bHeap_chainLength 34 = .ok (.goto (-27), 3) := by decide +kernel
theorem dHeap_chainLength_37 : decode bHeap_chainLength 37 = .ok (.iload_n 2, 1) := by decide +kernel
theorem dHeap_chainLength_38 : decode bHeap_chainLength 38 = .ok (.ireturn, 1) := by decide +kernel
def stHeap_chainLength_7 (n : Nat) (ln : Nat → Nat) (post : Int32 → zM → Prop) (L7 : (Int32 × Int32 × Int32 × zM) → Prop) : (Int32 × Int32 × Int32 × zM) → Prop := fun s => match s with
  | (v2, v3, v4, h) => ((((h 15 1) ≤ v4) → post v2 h) ∧ (¬ ((h 15 1) ≤ v4) → ((v3 = (-1) → post v2 h) ∧ (¬ v3 = (-1) → (vp_in v3 10 ∧ ∀ y27 : Int32, y27 = (h 18 (Int32.toNatClampNeg v3)) → L7 ((v2 + 1), y27, (v4 + 1), h))))))
def wpHeap_chainLength (n : Nat) (ln : Nat → Nat) (x1 : Int32) (h : zM) (post : Int32 → zM → Prop) : Prop := zL (stHeap_chainLength_7 n ln post) (0, x1, 0, h)
abbrev rmHeap_chainLength : Room := { frames := 0, cells := 0, slots := 0, locals := 0 }
set_option maxHeartbeats 4000000 in
set_option maxRecDepth 100000 in
theorem cHeap_chainLength (l : Launch) (D : va_G) (cI cC cE : ClassId) (ad : Nat → Nat) (n : Nat) (ln : Nat → Nat) (A : Nat → Prop) (hJ : zJ A (34 + 4 * n) ad) (x1 : Int32) (h : zM) (post : Int32 → zM → Prop) (hw : wpHeap_chainLength n ln x1 h post) : Met l yHeap_chainLength (.code yHeap_chainLength bHeap_chainLength 5 (some .int) :: zt) rmHeap_chainLength (va_Pc [.ref (ad 15), .int x1] (zPre D (zty cI cC cE) (34 + 4 * n) ad (zF ad cI cC cE n ln) A h)) (va_Qi post (zPst D (zty cI cC cE) (34 + 4 * n) ad (zF ad cI cC cE n ln)) A) 0 0 A := by
  refine Met.ofW (cc := bHeap_chainLength) (maxL := 5) (ret := (some .int)) (by decide) rfl ?_
  intro p e s m args below meth c s₁ B hml hv
  obtain ⟨rfl, hP, hK, hT, hN⟩ := hv
  have hr := B.returns
  have hlk := B.notSynchronized
  have S : zS p m c bHeap_chainLength 5 s _ "CallExplorer$Heap" := ⟨B.exec, B.bytes, hml, findClass_of_methodNamed B.named, fun w hw => atoms_spec (ws := .code yHeap_chainLength bHeap_chainLength 5 (some .int) :: zt) B.pre w (List.mem_cons_of_mem _ hw)⟩
  have hS : va_S A s.heap s.heap [] := va_S.rf
  have hl := lv_entry ([.ref (ad 15), .int x1]) (n := 5) (Nat.le_of_ble_eq_true rfl)
  rw [lg_entry_eq]
  generalize (lg_sl ([.ref (ad 15), .int x1]) ++ List.replicate (5 - (lg_sl ([.ref (ad 15), .int x1])).length) Slot.unset).toArray = ls at hl ⊢
  have hl : lv_has ls 5 [(0, .ref (ad 15)), (1, .int x1)] := hl
  show W p l e rmHeap_chainLength s m ([.ref (ad 15), .int x1] : List Value).toArray below meth c s.heap [] 0 0 (zQi post D (zty cI cC cE) (34 + 4 * n) ad (zF ad cI cC cE n ln) A below ([.ref (ad 15), .int x1] : List Value).toArray s) _
  have J7 : ∀ (fu : Nat) (v2 : Int32) (v3 : Int32) (v4 : Int32) (h : zM) (H : Heap) (locs : List Loc) (ls : Array Slot), zl (stHeap_chainLength_7 n ln post) fu (v2, v3, v4, h) → lv_has ls 5 [(0, .ref (ad 15)), (2, .int v2), (3, .int v3), (4, .int v4)] → va_P D zcl (zW (34 + 4 * n) ad (zF ad cI cC cE n ln) h) H → va_S A s.heap H locs → W p l e rmHeap_chainLength s m ([.ref (ad 15), .int x1] : List Value).toArray below meth c H locs 0 0 (zQi post D (zty cI cC cE) (34 + 4 * n) ad (zF ad cI cC cE n ln) A below ([.ref (ad 15), .int x1] : List Value).toArray s) (F0 m 7 ls []) := by
    intro fu7
    induction fu7 with
    | zero =>
      intro v2 v3 v4 h H locs ls hw
      exact (zl_0 hw).elim
    | succ fu7 ih7 =>
      intro v2 v3 v4 h H locs ls hw hl hP hS
      have hw := zl_s hw
      generalize zl (stHeap_chainLength_7 n ln post) fu7 = L7 at hw ih7
      unfold stHeap_chainLength_7 at hw
      dsimp only at hw
      refine lv_iload S.1 S.2.1 dHeap_chainLength_7 (lv_at hl 3 rfl) ?_
      refine lv_aload_n S.1 S.2.1 dHeap_chainLength_9 rfl (lv_at hl 0 rfl) ?_
      refine zr_get S hK hP (zk (by decide)) (zF_15 _) fHeap_count q105 rfl dHeap_chainLength_10 ?_
      refine lv_icmp_ge S.1 S.2.1 dHeap_chainLength_13 rfl (fun hc => ?_) (fun hc => ?_)
      · have hw := hw.1 hc
        refine lv_iload_n S.1 S.2.1 dHeap_chainLength_37 rfl (lv_at hl 1 rfl) ?_
        exact zr_iret S hr hlk hK hP hS rfl hw dHeap_chainLength_38
      · have hw := hw.2 hc
        refine lv_iload_n S.1 S.2.1 dHeap_chainLength_16 rfl (lv_at hl 2 rfl) ?_
        refine lv_iconst (v := (-1)) S.1 S.2.1 dHeap_chainLength_17 (by decide) ?_
        refine lv_icmp_eq S.1 S.2.1 dHeap_chainLength_18 rfl (fun hc => ?_) (fun hc => ?_)
        · have hw := hw.1 hc
          refine lv_iload_n S.1 S.2.1 dHeap_chainLength_37 rfl (lv_at hl 1 rfl) ?_
          exact zr_iret S hr hlk hK hP hS rfl hw dHeap_chainLength_38
        · have hw := hw.2 hc
          refine lv_aload_n S.1 S.2.1 dHeap_chainLength_21 rfl (lv_at hl 0 rfl) ?_
          refine zr_get S hK hP (zk (by decide)) (zF_15 _) fHeap_nexts q111 rfl dHeap_chainLength_22 ?_
          refine lv_iload_n S.1 S.2.1 dHeap_chainLength_25 rfl (lv_at hl 2 rfl) ?_
          obtain ⟨z26, hw⟩ := hw
          refine zr_ald S hK hP (zk (by decide)) (zF_18 _) 0 rfl z26 dHeap_chainLength_26 ?_
          refine lv_topi (fun y27 e27 => ?_)
          have hw := hw y27 e27
          refine lv_istore_n (lv' := [(3, .int y27), (0, .ref (ad 15)), (2, .int v2), (4, .int v4)]) S.1 S.2.1 dHeap_chainLength_27 rfl hl (by decide) rfl (fun ls hl => ?_)
          refine lv_iinc (v := (v2 + 1)) (lv' := [(2, .int (v2 + 1)), (3, .int y27), (0, .ref (ad 15)), (4, .int v4)]) (k := 2) S.1 S.2.1 dHeap_chainLength_28 hl rfl rfl (by decide) rfl (fun ls hl => ?_)
          refine lv_iinc (v := (v4 + 1)) (lv' := [(4, .int (v4 + 1)), (2, .int (v2 + 1)), (3, .int y27), (0, .ref (ad 15))]) (k := 3) S.1 S.2.1 dHeap_chainLength_31 hl rfl rfl (by decide) rfl (fun ls hl => ?_)
          refine lv_goto S.1 S.2.1 dHeap_chainLength_34 rfl ?_
          exact ih7 _ _ _ _ _ _ _ hw (lv_sub hl [3, 1, 2, 0] rfl) hP hS
  unfold wpHeap_chainLength at hw
  refine lv_iconst (v := 0) S.1 S.2.1 dHeap_chainLength_0 (by decide) ?_
  refine lv_istore_n (lv' := [(2, .int 0), (0, .ref (ad 15)), (1, .int x1)]) S.1 S.2.1 dHeap_chainLength_1 rfl hl (by decide) rfl (fun ls hl => ?_)
  refine lv_iload_n S.1 S.2.1 dHeap_chainLength_2 rfl (lv_at hl 2 rfl) ?_
  refine lv_istore_n (lv' := [(3, .int x1), (2, .int 0), (0, .ref (ad 15)), (1, .int x1)]) S.1 S.2.1 dHeap_chainLength_3 rfl hl (by decide) rfl (fun ls hl => ?_)
  refine lv_iconst (v := 0) S.1 S.2.1 dHeap_chainLength_4 (by decide) ?_
  refine lv_istore (lv' := [(4, .int 0), (3, .int x1), (2, .int 0), (0, .ref (ad 15)), (1, .int x1)]) S.1 S.2.1 dHeap_chainLength_5 hl (by decide) rfl (fun ls hl => ?_)
  obtain ⟨fu, hw⟩ := hw
  exact J7 fu _ _ _ _ _ _ _ hw (lv_sub hl [3, 2, 1, 0] rfl) hP hS
/-! Heap.equal -/
theorem dHeap_equal_0 : decode bHeap_equal 0 = .ok (.iload_n 1, 1) := by decide +kernel
theorem dHeap_equal_1 : decode bHeap_equal 1 = .ok (.istore_n 3, 1) := by decide +kernel
theorem dHeap_equal_2 : decode bHeap_equal 2 = .ok (.iload_n 2, 1) := by decide +kernel
theorem dHeap_equal_3 : decode bHeap_equal 3 = .ok (.istore 4, 2) := by decide +kernel
theorem dHeap_equal_5 : decode bHeap_equal 5 = .ok (.iconst 0, 1) := by decide +kernel
theorem dHeap_equal_6 : decode bHeap_equal 6 = .ok (.istore 5, 2) := by decide +kernel
theorem dHeap_equal_8 : decode bHeap_equal 8 = .ok (.iload 5, 2) := by decide +kernel
theorem dHeap_equal_10 : decode bHeap_equal 10 = .ok (.aload_n 0, 1) := by decide +kernel
theorem dHeap_equal_11 : decode bHeap_equal 11 = .ok (.getfield 25, 3) := by decide +kernel
theorem dHeap_equal_14 : decode bHeap_equal 14 = .ok (.if_icmp .ge 158, 3) := by decide +kernel
theorem dHeap_equal_17 : decode bHeap_equal 17 = .ok (.aload_n 0, 1) := by decide +kernel
theorem dHeap_equal_18 : decode bHeap_equal 18 = .ok (.getfield 21, 3) := by decide +kernel
theorem dHeap_equal_21 : decode bHeap_equal 21 = .ok (.getfield 29, 3) := by decide +kernel
theorem dHeap_equal_24 : decode bHeap_equal 24 = .ok (.aload_n 0, 1) := by decide +kernel
theorem dHeap_equal_25 : decode bHeap_equal 25 = .ok (.getfield 9, 3) := by decide +kernel
theorem dHeap_equal_28 : decode bHeap_equal 28 = .ok (.iload_n 3, 1) := by decide +kernel
theorem dHeap_equal_29 : decode bHeap_equal 29 = .ok (.iaload, 1) := by decide +kernel
theorem dHeap_equal_30 : decode bHeap_equal 30 = .ok (.iaload, 1) := by decide +kernel
theorem dHeap_equal_31 : decode bHeap_equal 31 = .ok (.istore 6, 2) := by decide +kernel
theorem dHeap_equal_33 : decode bHeap_equal 33 = .ok (.iload 6, 2) := by decide +kernel
theorem dHeap_equal_35 : decode bHeap_equal 35 = .ok (.ifCond .ne 15, 3) := by decide +kernel
theorem dHeap_equal_38 : decode bHeap_equal 38 = .ok (.iload_n 3, 1) := by decide +kernel
theorem dHeap_equal_39 : decode bHeap_equal 39 = .ok (.iload 4, 2) := by decide +kernel
theorem dHeap_equal_41 : decode bHeap_equal 41 = .ok (.if_icmp .ne 7, 3) := by decide +kernel
theorem dHeap_equal_44 : decode bHeap_equal 44 = .ok (.iconst 1, 1) := by decide +kernel
theorem dHeap_equal_45 : decode bHeap_equal 45 = .ok (.goto 4, 3) := by decide +kernel
theorem dHeap_equal_48 : decode bHeap_equal 48 = .ok (.iconst 0, 1) := by decide +kernel
theorem dHeap_equal_49 : decode bHeap_equal 49 = .ok (.ireturn, 1) := by decide +kernel
theorem dHeap_equal_50 : decode bHeap_equal 50 = .ok (.iload 6, 2) := by decide +kernel
theorem dHeap_equal_52 : decode bHeap_equal 52 = .ok (.iconst 4, 1) := by decide +kernel
theorem dHeap_equal_53 : decode bHeap_equal 53 = .ok (.if_icmp .eq 19, 3) := by decide +kernel
theorem dHeap_equal_56 : decode bHeap_equal 56 = .ok (.aload_n 0, 1) := by decide +kernel
theorem dHeap_equal_57 : decode bHeap_equal 57 = .ok (.getfield 15, 3) := by decide +kernel
theorem dHeap_equal_60 : decode bHeap_equal 60 = .ok (.iload_n 3, 1) := by decide +kernel
theorem dHeap_equal_61 : decode bHeap_equal 61 = .ok (.iaload, 1) := by decide +kernel
theorem dHeap_equal_62 : decode bHeap_equal 62 = .ok (.aload_n 0, 1) := by decide +kernel
theorem dHeap_equal_63 : decode bHeap_equal 63 = .ok (.getfield 15, 3) := by decide +kernel
theorem dHeap_equal_66 : decode bHeap_equal 66 = .ok (.iload 4, 2) := by decide +kernel
theorem dHeap_equal_68 : decode bHeap_equal 68 = .ok (.iaload, 1) := by decide +kernel
theorem dHeap_equal_69 : decode bHeap_equal 69 = .ok (.if_icmp .eq 5, 3) := by decide +kernel
theorem dHeap_equal_72 : decode bHeap_equal 72 = .ok (.iconst 0, 1) := by decide +kernel
theorem dHeap_equal_73 : decode bHeap_equal 73 = .ok (.ireturn, 1) := by decide +kernel
theorem dHeap_equal_74 : decode bHeap_equal 74 = .ok (.iload 6, 2) := by decide +kernel
theorem dHeap_equal_76 : decode bHeap_equal 76 = .ok (.iconst 3, 1) := by decide +kernel
theorem dHeap_equal_77 : decode bHeap_equal 77 = .ok (.if_icmp .ne 24, 3) := by decide +kernel
theorem dHeap_equal_80 : decode bHeap_equal 80 = .ok (.aload_n 0, 1) := by decide +kernel
theorem dHeap_equal_81 : decode bHeap_equal 81 = .ok (.getfield 21, 3) := by decide +kernel
theorem dHeap_equal_84 : decode bHeap_equal 84 = .ok (.aload_n 0, 1) := by decide +kernel
theorem dHeap_equal_85 : decode bHeap_equal 85 = .ok (.getfield 9, 3) := by decide +kernel
theorem dHeap_equal_88 : decode bHeap_equal 88 = .ok (.iload 4, 2) := by decide +kernel
theorem dHeap_equal_90 : decode bHeap_equal 90 = .ok (.iaload, 1) := by decide +kernel
theorem dHeap_equal_91 : decode bHeap_equal 91 = .ok (.aload_n 0, 1) := by decide +kernel
theorem dHeap_equal_92 : decode bHeap_equal 92 = .ok (.getfield 9, 3) := by decide +kernel
theorem dHeap_equal_95 : decode bHeap_equal 95 = .ok (.iload_n 3, 1) := by decide +kernel
theorem dHeap_equal_96 : decode bHeap_equal 96 = .ok (.iaload, 1) := by decide +kernel
theorem dHeap_equal_97 : decode bHeap_equal 97 = .ok (.invokevirtual 34, 3) := by decide +kernel
theorem dHeap_equal_100 : decode bHeap_equal 100 = .ok (.ireturn, 1) := by decide +kernel
theorem dHeap_equal_101 : decode bHeap_equal 101 = .ok (.aload_n 0, 1) := by decide +kernel
theorem dHeap_equal_102 : decode bHeap_equal 102 = .ok (.getfield 9, 3) := by decide +kernel
theorem dHeap_equal_105 : decode bHeap_equal 105 = .ok (.iload_n 3, 1) := by decide +kernel
theorem dHeap_equal_106 : decode bHeap_equal 106 = .ok (.iaload, 1) := by decide +kernel
theorem dHeap_equal_107 : decode bHeap_equal 107 = .ok (.aload_n 0, 1) := by decide +kernel
theorem dHeap_equal_108 : decode bHeap_equal 108 = .ok (.getfield 9, 3) := by decide +kernel
theorem dHeap_equal_111 : decode bHeap_equal 111 = .ok (.iload 4, 2) := by decide +kernel
theorem dHeap_equal_113 : decode bHeap_equal 113 = .ok (.iaload, 1) := by decide +kernel
theorem dHeap_equal_114 : decode bHeap_equal 114 = .ok (.if_icmp .eq 5, 3) := by decide +kernel
theorem dHeap_equal_117 : decode bHeap_equal 117 = .ok (.iconst 0, 1) := by decide +kernel
theorem dHeap_equal_118 : decode bHeap_equal 118 = .ok (.ireturn, 1) := by decide +kernel
theorem dHeap_equal_119 : decode bHeap_equal 119 = .ok (.iload 6, 2) := by decide +kernel
theorem dHeap_equal_121 : decode bHeap_equal 121 = .ok (.iconst 1, 1) := by decide +kernel
theorem dHeap_equal_122 : decode bHeap_equal 122 = .ok (.if_icmp .ne 5, 3) := by decide +kernel
theorem dHeap_equal_125 : decode bHeap_equal 125 = .ok (.iconst 1, 1) := by decide +kernel
theorem dHeap_equal_126 : decode bHeap_equal 126 = .ok (.ireturn, 1) := by decide +kernel
theorem dHeap_equal_127 : decode bHeap_equal 127 = .ok (.aload_n 0, 1) := by decide +kernel
theorem dHeap_equal_128 : decode bHeap_equal 128 = .ok (.getfield 18, 3) := by decide +kernel
theorem dHeap_equal_131 : decode bHeap_equal 131 = .ok (.iload_n 3, 1) := by decide +kernel
theorem dHeap_equal_132 : decode bHeap_equal 132 = .ok (.iaload, 1) := by decide +kernel
theorem dHeap_equal_133 : decode bHeap_equal 133 = .ok (.istore_n 3, 1) := by decide +kernel
theorem dHeap_equal_134 : decode bHeap_equal 134 = .ok (.aload_n 0, 1) := by decide +kernel
theorem dHeap_equal_135 : decode bHeap_equal 135 = .ok (.getfield 18, 3) := by decide +kernel
theorem dHeap_equal_138 : decode bHeap_equal 138 = .ok (.iload 4, 2) := by decide +kernel
theorem dHeap_equal_140 : decode bHeap_equal 140 = .ok (.iaload, 1) := by decide +kernel
theorem dHeap_equal_141 : decode bHeap_equal 141 = .ok (.istore 4, 2) := by decide +kernel
theorem dHeap_equal_143 : decode bHeap_equal 143 = .ok (.iload_n 3, 1) := by decide +kernel
theorem dHeap_equal_144 : decode bHeap_equal 144 = .ok (.iconst (-1), 1) := by decide +kernel
theorem dHeap_equal_145 : decode bHeap_equal 145 = .ok (.if_icmp .eq 9, 3) := by decide +kernel
theorem dHeap_equal_148 : decode bHeap_equal 148 = .ok (.iload 4, 2) := by decide +kernel
theorem dHeap_equal_150 : decode bHeap_equal 150 = .ok (.iconst (-1), 1) := by decide +kernel
theorem dHeap_equal_151 : decode bHeap_equal 151 = .ok (.if_icmp .ne 15, 3) := by decide +kernel
theorem dHeap_equal_154 : decode bHeap_equal 154 = .ok (.iload_n 3, 1) := by decide +kernel
theorem dHeap_equal_155 : decode bHeap_equal 155 = .ok (.iload 4, 2) := by decide +kernel
theorem dHeap_equal_157 : decode bHeap_equal 157 = .ok (.if_icmp .ne 7, 3) := by decide +kernel
theorem dHeap_equal_160 : decode bHeap_equal 160 = .ok (.iconst 1, 1) := by decide +kernel
theorem dHeap_equal_161 : decode bHeap_equal 161 = .ok (.goto 4, 3) := by decide +kernel
theorem dHeap_equal_164 : decode bHeap_equal 164 = .ok (.iconst 0, 1) := by decide +kernel
theorem dHeap_equal_165 : decode bHeap_equal 165 = .ok (.ireturn, 1) := by decide +kernel
theorem dHeap_equal_166 : decode bHeap_equal 166 = .ok (.iinc 5 1, 3) := by decide +kernel
theorem dHeap_equal_169 : decode bHeap_equal 169 = .ok (.goto (-161), 3) := by decide +kernel
theorem dHeap_equal_172 : decode bHeap_equal 172 = .ok (.iconst 0, 1) := by decide +kernel
theorem dHeap_equal_173 : decode bHeap_equal 173 = .ok (.ireturn, 1) := by decide +kernel
def wbHeap_equal_154 (n : Nat) (ln : Nat → Nat) (post : Int32 → zM → Prop) (v3 : Int32) (v4 : Int32) (h : zM) : Prop := ((¬ v3 = v4 → post 0 h) ∧ (v3 = v4 → post 1 h))
def stHeap_equal_8 (n : Nat) (ln : Nat → Nat) (post : Int32 → zM → Prop) (L8 : (Int32 × Int32 × Int32 × zM) → Prop) : (Int32 × Int32 × Int32 × zM) → Prop := fun s => match s with
  | (v3, v4, v5, h) => ((((h 15 1) ≤ v5) → post 0 h) ∧ (¬ ((h 15 1) ≤ v5) → (vp_in v3 10 ∧ (vp_in (h 16 (Int32.toNatClampNeg v3)) 5 ∧ ∀ y31 : Int32, y31 = (h 3 (Int32.toNatClampNeg (h 16 (Int32.toNatClampNeg v3)))) → ((¬ y31 = 0 → ((y31 = 4 → post 0 h) ∧ (¬ y31 = 4 → (vp_in v3 10 ∧ (vp_in v4 10 ∧ (((h 17 (Int32.toNatClampNeg v3)) = (h 17 (Int32.toNatClampNeg v4)) → ((¬ y31 = 3 → (vp_in v3 10 ∧ (vp_in v4 10 ∧ (((h 16 (Int32.toNatClampNeg v3)) = (h 16 (Int32.toNatClampNeg v4)) → ((¬ y31 = 1 → (vp_in v3 10 ∧ ∀ y133 : Int32, y133 = (h 18 (Int32.toNatClampNeg v3)) → (vp_in v4 10 ∧ ∀ y141 : Int32, y141 = (h 18 (Int32.toNatClampNeg v4)) → ((y133 = (-1) → wbHeap_equal_154 n ln post y133 y141 h) ∧ (¬ y133 = (-1) → ((¬ y141 = (-1) → L8 (y133, y141, (v5 + 1), h)) ∧ (y141 = (-1) → wbHeap_equal_154 n ln post y133 y141 h))))))) ∧ (y31 = 1 → post 1 h))) ∧ (¬ (h 16 (Int32.toNatClampNeg v3)) = (h 16 (Int32.toNatClampNeg v4)) → post 0 h))))) ∧ (y31 = 3 → (vp_in v4 10 ∧ (vp_in v3 10 ∧ wpCatalog_is n ln (h 16 (Int32.toNatClampNeg v4)) (h 16 (Int32.toNatClampNeg v3)) h (fun r97 h97 => ((r97 = 0 ∨ r97 = 1) ∧ post r97 h97))))))) ∧ (¬ (h 17 (Int32.toNatClampNeg v3)) = (h 17 (Int32.toNatClampNeg v4)) → post 0 h))))))) ∧ (y31 = 0 → ((¬ v3 = v4 → post 0 h) ∧ (v3 = v4 → post 1 h))))))))
def wpHeap_equal (n : Nat) (ln : Nat → Nat) (x1 : Int32) (x2 : Int32) (h : zM) (post : Int32 → zM → Prop) : Prop := zL (stHeap_equal_8 n ln post) (x1, x2, 0, h)
abbrev rmHeap_equal : Room := { frames := 1, cells := 0, slots := 0, locals := 24 }
set_option maxHeartbeats 4000000 in
set_option maxRecDepth 100000 in
theorem cHeap_equal (l : Launch) (D : va_G) (cI cC cE : ClassId) (ad : Nat → Nat) (n : Nat) (ln : Nat → Nat) (A : Nat → Prop) (hJ : zJ A (34 + 4 * n) ad) (x1 : Int32) (x2 : Int32) (h : zM) (post : Int32 → zM → Prop) (hw : wpHeap_equal n ln x1 x2 h post) : Met l yHeap_equal (.code yHeap_equal bHeap_equal 7 (some .boolean) :: zt) rmHeap_equal (va_Pc [.ref (ad 15), .int x1, .int x2] (zPre D (zty cI cC cE) (34 + 4 * n) ad (zF ad cI cC cE n ln) A h)) (va_Qi post (zPst D (zty cI cC cE) (34 + 4 * n) ad (zF ad cI cC cE n ln)) A) 0 0 A := by
  refine Met.ofW (cc := bHeap_equal) (maxL := 7) (ret := (some .boolean)) (by decide) rfl ?_
  intro p e s m args below meth c s₁ B hml hv
  obtain ⟨rfl, hP, hK, hT, hN⟩ := hv
  have hr := B.returns
  have hlk := B.notSynchronized
  have S : zS p m c bHeap_equal 7 s _ "CallExplorer$Heap" := ⟨B.exec, B.bytes, hml, findClass_of_methodNamed B.named, fun w hw => atoms_spec (ws := .code yHeap_equal bHeap_equal 7 (some .boolean) :: zt) B.pre w (List.mem_cons_of_mem _ hw)⟩
  have hS : va_S A s.heap s.heap [] := va_S.rf
  have hl := lv_entry ([.ref (ad 15), .int x1, .int x2]) (n := 7) (Nat.le_of_ble_eq_true rfl)
  rw [lg_entry_eq]
  generalize (lg_sl ([.ref (ad 15), .int x1, .int x2]) ++ List.replicate (7 - (lg_sl ([.ref (ad 15), .int x1, .int x2])).length) Slot.unset).toArray = ls at hl ⊢
  have hl : lv_has ls 7 [(0, .ref (ad 15)), (1, .int x1), (2, .int x2)] := hl
  show W p l e rmHeap_equal s m ([.ref (ad 15), .int x1, .int x2] : List Value).toArray below meth c s.heap [] 0 0 (zQi post D (zty cI cC cE) (34 + 4 * n) ad (zF ad cI cC cE n ln) A below ([.ref (ad 15), .int x1, .int x2] : List Value).toArray s) _
  have J154 : ∀ (v3 : Int32) (v4 : Int32) (h : zM) (H : Heap) (locs : List Loc) (ls : Array Slot), wbHeap_equal_154 n ln post v3 v4 h → lv_has ls 7 [(3, .int v3), (4, .int v4)] → va_P D zcl (zW (34 + 4 * n) ad (zF ad cI cC cE n ln) h) H → va_S A s.heap H locs → W p l e rmHeap_equal s m ([.ref (ad 15), .int x1, .int x2] : List Value).toArray below meth c H locs 0 0 (zQi post D (zty cI cC cE) (34 + 4 * n) ad (zF ad cI cC cE n ln) A below ([.ref (ad 15), .int x1, .int x2] : List Value).toArray s) (F0 m 154 ls []) := by
    intro v3 v4 h H locs ls hw hl hP hS
    unfold wbHeap_equal_154 at hw
    refine lv_iload_n S.1 S.2.1 dHeap_equal_154 rfl (lv_at hl 0 rfl) ?_
    refine lv_iload S.1 S.2.1 dHeap_equal_155 (lv_at hl 1 rfl) ?_
    refine lv_icmp_ne S.1 S.2.1 dHeap_equal_157 rfl (fun hc => ?_) (fun hc => ?_)
    · have hw := hw.1 hc
      refine lv_iconst (v := 0) S.1 S.2.1 dHeap_equal_164 (by decide) ?_
      exact zr_iret S hr hlk hK hP hS rfl hw dHeap_equal_165
    · have hw := hw.2 hc
      refine lv_iconst (v := 1) S.1 S.2.1 dHeap_equal_160 (by decide) ?_
      refine lv_goto S.1 S.2.1 dHeap_equal_161 rfl ?_
      exact zr_iret S hr hlk hK hP hS rfl hw dHeap_equal_165
  have J8 : ∀ (fu : Nat) (v3 : Int32) (v4 : Int32) (v5 : Int32) (h : zM) (H : Heap) (locs : List Loc) (ls : Array Slot), zl (stHeap_equal_8 n ln post) fu (v3, v4, v5, h) → lv_has ls 7 [(0, .ref (ad 15)), (3, .int v3), (4, .int v4), (5, .int v5)] → va_P D zcl (zW (34 + 4 * n) ad (zF ad cI cC cE n ln) h) H → va_S A s.heap H locs → W p l e rmHeap_equal s m ([.ref (ad 15), .int x1, .int x2] : List Value).toArray below meth c H locs 0 0 (zQi post D (zty cI cC cE) (34 + 4 * n) ad (zF ad cI cC cE n ln) A below ([.ref (ad 15), .int x1, .int x2] : List Value).toArray s) (F0 m 8 ls []) := by
    intro fu8
    induction fu8 with
    | zero =>
      intro v3 v4 v5 h H locs ls hw
      exact (zl_0 hw).elim
    | succ fu8 ih8 =>
      intro v3 v4 v5 h H locs ls hw hl hP hS
      have hw := zl_s hw
      generalize zl (stHeap_equal_8 n ln post) fu8 = L8 at hw ih8
      unfold stHeap_equal_8 at hw
      dsimp only at hw
      refine lv_iload S.1 S.2.1 dHeap_equal_8 (lv_at hl 3 rfl) ?_
      refine lv_aload_n S.1 S.2.1 dHeap_equal_10 rfl (lv_at hl 0 rfl) ?_
      refine zr_get S hK hP (zk (by decide)) (zF_15 _) fHeap_count q105 rfl dHeap_equal_11 ?_
      refine lv_icmp_ge S.1 S.2.1 dHeap_equal_14 rfl (fun hc => ?_) (fun hc => ?_)
      · have hw := hw.1 hc
        refine lv_iconst (v := 0) S.1 S.2.1 dHeap_equal_172 (by decide) ?_
        exact zr_iret S hr hlk hK hP hS rfl hw dHeap_equal_173
      · have hw := hw.2 hc
        refine lv_aload_n S.1 S.2.1 dHeap_equal_17 rfl (lv_at hl 0 rfl) ?_
        refine zr_get S hK hP (zk (by decide)) (zF_15 _) fHeap_catalog q104 rfl dHeap_equal_18 ?_
        refine zr_get S hK hP (zk (by decide)) (zF_1 _) fCatalog_senses q36 rfl dHeap_equal_21 ?_
        refine lv_aload_n S.1 S.2.1 dHeap_equal_24 rfl (lv_at hl 0 rfl) ?_
        refine zr_get S hK hP (zk (by decide)) (zF_15 _) fHeap_classes q107 rfl dHeap_equal_25 ?_
        refine lv_iload_n S.1 S.2.1 dHeap_equal_28 rfl (lv_at hl 1 rfl) ?_
        obtain ⟨z29, hw⟩ := hw
        refine zr_ald S hK hP (zk (by decide)) (zF_16 _) 0 rfl z29 dHeap_equal_29 ?_
        obtain ⟨z30, hw⟩ := hw
        refine zr_ald S hK hP (zk (by decide)) (zF_3 _) 0 rfl z30 dHeap_equal_30 ?_
        refine lv_topi (fun y31 e31 => ?_)
        have hw := hw y31 e31
        refine lv_istore (lv' := [(6, .int y31), (0, .ref (ad 15)), (3, .int v3), (4, .int v4), (5, .int v5)]) S.1 S.2.1 dHeap_equal_31 hl (by decide) rfl (fun ls hl => ?_)
        refine lv_iload S.1 S.2.1 dHeap_equal_33 (lv_at hl 0 rfl) ?_
        refine lv_if_ne S.1 S.2.1 dHeap_equal_35 rfl (fun hc => ?_) (fun hc => ?_)
        · have hw := hw.1 hc
          refine lv_iload S.1 S.2.1 dHeap_equal_50 (lv_at hl 0 rfl) ?_
          refine lv_iconst (v := 4) S.1 S.2.1 dHeap_equal_52 (by decide) ?_
          refine lv_icmp_eq S.1 S.2.1 dHeap_equal_53 rfl (fun hc => ?_) (fun hc => ?_)
          · have hw := hw.1 hc
            refine lv_iconst (v := 0) S.1 S.2.1 dHeap_equal_72 (by decide) ?_
            exact zr_iret S hr hlk hK hP hS rfl hw dHeap_equal_73
          · have hw := hw.2 hc
            refine lv_aload_n S.1 S.2.1 dHeap_equal_56 rfl (lv_at hl 1 rfl) ?_
            refine zr_get S hK hP (zk (by decide)) (zF_15 _) fHeap_values q109 rfl dHeap_equal_57 ?_
            refine lv_iload_n S.1 S.2.1 dHeap_equal_60 rfl (lv_at hl 2 rfl) ?_
            obtain ⟨z61, hw⟩ := hw
            refine zr_ald S hK hP (zk (by decide)) (zF_17 _) 0 rfl z61 dHeap_equal_61 ?_
            refine lv_aload_n S.1 S.2.1 dHeap_equal_62 rfl (lv_at hl 1 rfl) ?_
            refine zr_get S hK hP (zk (by decide)) (zF_15 _) fHeap_values q109 rfl dHeap_equal_63 ?_
            refine lv_iload S.1 S.2.1 dHeap_equal_66 (lv_at hl 3 rfl) ?_
            obtain ⟨z68, hw⟩ := hw
            refine zr_ald S hK hP (zk (by decide)) (zF_17 _) 0 rfl z68 dHeap_equal_68 ?_
            refine lv_icmp_eq S.1 S.2.1 dHeap_equal_69 rfl (fun hc => ?_) (fun hc => ?_)
            · have hw := hw.1 hc
              refine lv_iload S.1 S.2.1 dHeap_equal_74 (lv_at hl 0 rfl) ?_
              refine lv_iconst (v := 3) S.1 S.2.1 dHeap_equal_76 (by decide) ?_
              refine lv_icmp_ne S.1 S.2.1 dHeap_equal_77 rfl (fun hc => ?_) (fun hc => ?_)
              · have hw := hw.1 hc
                refine lv_aload_n S.1 S.2.1 dHeap_equal_101 rfl (lv_at hl 1 rfl) ?_
                refine zr_get S hK hP (zk (by decide)) (zF_15 _) fHeap_classes q107 rfl dHeap_equal_102 ?_
                refine lv_iload_n S.1 S.2.1 dHeap_equal_105 rfl (lv_at hl 2 rfl) ?_
                obtain ⟨z106, hw⟩ := hw
                refine zr_ald S hK hP (zk (by decide)) (zF_16 _) 0 rfl z106 dHeap_equal_106 ?_
                refine lv_aload_n S.1 S.2.1 dHeap_equal_107 rfl (lv_at hl 1 rfl) ?_
                refine zr_get S hK hP (zk (by decide)) (zF_15 _) fHeap_classes q107 rfl dHeap_equal_108 ?_
                refine lv_iload S.1 S.2.1 dHeap_equal_111 (lv_at hl 3 rfl) ?_
                obtain ⟨z113, hw⟩ := hw
                refine zr_ald S hK hP (zk (by decide)) (zF_16 _) 0 rfl z113 dHeap_equal_113 ?_
                refine lv_icmp_eq S.1 S.2.1 dHeap_equal_114 rfl (fun hc => ?_) (fun hc => ?_)
                · have hw := hw.1 hc
                  refine lv_iload S.1 S.2.1 dHeap_equal_119 (lv_at hl 0 rfl) ?_
                  refine lv_iconst (v := 1) S.1 S.2.1 dHeap_equal_121 (by decide) ?_
                  refine lv_icmp_ne S.1 S.2.1 dHeap_equal_122 rfl (fun hc => ?_) (fun hc => ?_)
                  · have hw := hw.1 hc
                    refine lv_aload_n S.1 S.2.1 dHeap_equal_127 rfl (lv_at hl 1 rfl) ?_
                    refine zr_get S hK hP (zk (by decide)) (zF_15 _) fHeap_nexts q111 rfl dHeap_equal_128 ?_
                    refine lv_iload_n S.1 S.2.1 dHeap_equal_131 rfl (lv_at hl 2 rfl) ?_
                    obtain ⟨z132, hw⟩ := hw
                    refine zr_ald S hK hP (zk (by decide)) (zF_18 _) 0 rfl z132 dHeap_equal_132 ?_
                    refine lv_topi (fun y133 e133 => ?_)
                    have hw := hw y133 e133
                    refine lv_istore_n (lv' := [(3, .int y133), (6, .int y31), (0, .ref (ad 15)), (4, .int v4), (5, .int v5)]) S.1 S.2.1 dHeap_equal_133 rfl hl (by decide) rfl (fun ls hl => ?_)
                    refine lv_aload_n S.1 S.2.1 dHeap_equal_134 rfl (lv_at hl 2 rfl) ?_
                    refine zr_get S hK hP (zk (by decide)) (zF_15 _) fHeap_nexts q111 rfl dHeap_equal_135 ?_
                    refine lv_iload S.1 S.2.1 dHeap_equal_138 (lv_at hl 3 rfl) ?_
                    obtain ⟨z140, hw⟩ := hw
                    refine zr_ald S hK hP (zk (by decide)) (zF_18 _) 0 rfl z140 dHeap_equal_140 ?_
                    refine lv_topi (fun y141 e141 => ?_)
                    have hw := hw y141 e141
                    refine lv_istore (lv' := [(4, .int y141), (3, .int y133), (6, .int y31), (0, .ref (ad 15)), (5, .int v5)]) S.1 S.2.1 dHeap_equal_141 hl (by decide) rfl (fun ls hl => ?_)
                    refine lv_iload_n S.1 S.2.1 dHeap_equal_143 rfl (lv_at hl 1 rfl) ?_
                    refine lv_iconst (v := (-1)) S.1 S.2.1 dHeap_equal_144 (by decide) ?_
                    refine lv_icmp_eq S.1 S.2.1 dHeap_equal_145 rfl (fun hc => ?_) (fun hc => ?_)
                    · have hw := hw.1 hc
                      exact J154 _ _ _ _ _ _ hw (lv_sub hl [1, 0] rfl) hP hS
                    · have hw := hw.2 hc
                      refine lv_iload S.1 S.2.1 dHeap_equal_148 (lv_at hl 0 rfl) ?_
                      refine lv_iconst (v := (-1)) S.1 S.2.1 dHeap_equal_150 (by decide) ?_
                      refine lv_icmp_ne S.1 S.2.1 dHeap_equal_151 rfl (fun hc => ?_) (fun hc => ?_)
                      · have hw := hw.1 hc
                        refine lv_iinc (v := (v5 + 1)) (lv' := [(5, .int (v5 + 1)), (4, .int y141), (3, .int y133), (6, .int y31), (0, .ref (ad 15))]) (k := 4) S.1 S.2.1 dHeap_equal_166 hl rfl rfl (by decide) rfl (fun ls hl => ?_)
                        refine lv_goto S.1 S.2.1 dHeap_equal_169 rfl ?_
                        exact ih8 _ _ _ _ _ _ _ hw (lv_sub hl [4, 2, 1, 0] rfl) hP hS
                      · have hw := hw.2 hc
                        exact J154 _ _ _ _ _ _ hw (lv_sub hl [1, 0] rfl) hP hS
                  · have hw := hw.2 hc
                    refine lv_iconst (v := 1) S.1 S.2.1 dHeap_equal_125 (by decide) ?_
                    exact zr_iret S hr hlk hK hP hS rfl hw dHeap_equal_126
                · have hw := hw.2 hc
                  refine lv_iconst (v := 0) S.1 S.2.1 dHeap_equal_117 (by decide) ?_
                  exact zr_iret S hr hlk hK hP hS rfl hw dHeap_equal_118
              · have hw := hw.2 hc
                refine lv_aload_n S.1 S.2.1 dHeap_equal_80 rfl (lv_at hl 1 rfl) ?_
                refine zr_get S hK hP (zk (by decide)) (zF_15 _) fHeap_catalog q104 rfl dHeap_equal_81 ?_
                refine lv_aload_n S.1 S.2.1 dHeap_equal_84 rfl (lv_at hl 1 rfl) ?_
                refine zr_get S hK hP (zk (by decide)) (zF_15 _) fHeap_classes q107 rfl dHeap_equal_85 ?_
                refine lv_iload S.1 S.2.1 dHeap_equal_88 (lv_at hl 3 rfl) ?_
                obtain ⟨z90, hw⟩ := hw
                refine zr_ald S hK hP (zk (by decide)) (zF_16 _) 0 rfl z90 dHeap_equal_90 ?_
                refine lv_aload_n S.1 S.2.1 dHeap_equal_91 rfl (lv_at hl 1 rfl) ?_
                refine zr_get S hK hP (zk (by decide)) (zF_15 _) fHeap_classes q107 rfl dHeap_equal_92 ?_
                refine lv_iload_n S.1 S.2.1 dHeap_equal_95 rfl (lv_at hl 2 rfl) ?_
                obtain ⟨z96, hw⟩ := hw
                refine zr_ald S hK hP (zk (by decide)) (zF_16 _) 0 rfl z96 dHeap_equal_96 ?_
                refine zr_i (zr_V (As := [.int (h 16 (Int32.toNatClampNeg v4)), .int (h 16 (Int32.toNatClampNeg v3))]) (rest := []) S hK hT hN hP hS (zk (by decide)) (zF_1 _) rfl (cCatalog_is l D cI cC cE ad n ln A hJ _ _ _ _ hw) caHeap_34 ⟨Nat.le_of_ble_eq_true rfl, Nat.le_of_ble_eq_true rfl⟩ ⟨rfl, rfl⟩ rfl hl.1 rfl (Nat.le_of_ble_eq_true rfl) dHeap_equal_97) hS (fun r97 h97 H locs hw hP hS => ?_)
                exact zr_iret S hr hlk hK hP hS (zbn hw.1) hw.2 dHeap_equal_100
            · have hw := hw.2 hc
              refine lv_iconst (v := 0) S.1 S.2.1 dHeap_equal_72 (by decide) ?_
              exact zr_iret S hr hlk hK hP hS rfl hw dHeap_equal_73
        · have hw := hw.2 hc
          refine lv_iload_n S.1 S.2.1 dHeap_equal_38 rfl (lv_at hl 2 rfl) ?_
          refine lv_iload S.1 S.2.1 dHeap_equal_39 (lv_at hl 3 rfl) ?_
          refine lv_icmp_ne S.1 S.2.1 dHeap_equal_41 rfl (fun hc => ?_) (fun hc => ?_)
          · have hw := hw.1 hc
            refine lv_iconst (v := 0) S.1 S.2.1 dHeap_equal_48 (by decide) ?_
            exact zr_iret S hr hlk hK hP hS rfl hw dHeap_equal_49
          · have hw := hw.2 hc
            refine lv_iconst (v := 1) S.1 S.2.1 dHeap_equal_44 (by decide) ?_
            refine lv_goto S.1 S.2.1 dHeap_equal_45 rfl ?_
            exact zr_iret S hr hlk hK hP hS rfl hw dHeap_equal_49
  unfold wpHeap_equal at hw
  refine lv_iload_n S.1 S.2.1 dHeap_equal_0 rfl (lv_at hl 1 rfl) ?_
  refine lv_istore_n (lv' := [(3, .int x1), (0, .ref (ad 15)), (1, .int x1), (2, .int x2)]) S.1 S.2.1 dHeap_equal_1 rfl hl (by decide) rfl (fun ls hl => ?_)
  refine lv_iload_n S.1 S.2.1 dHeap_equal_2 rfl (lv_at hl 3 rfl) ?_
  refine lv_istore (lv' := [(4, .int x2), (3, .int x1), (0, .ref (ad 15)), (1, .int x1), (2, .int x2)]) S.1 S.2.1 dHeap_equal_3 hl (by decide) rfl (fun ls hl => ?_)
  refine lv_iconst (v := 0) S.1 S.2.1 dHeap_equal_5 (by decide) ?_
  refine lv_istore (lv' := [(5, .int 0), (4, .int x2), (3, .int x1), (0, .ref (ad 15)), (1, .int x1), (2, .int x2)]) S.1 S.2.1 dHeap_equal_6 hl (by decide) rfl (fun ls hl => ?_)
  obtain ⟨fu, hw⟩ := hw
  exact J8 fu _ _ _ _ _ _ _ hw (lv_sub hl [3, 2, 1, 0] rfl) hP hS
/-! Heap.code -/
theorem dHeap_code_0 : decode bHeap_code 0 = .ok (.aload_n 0, 1) := by decide +kernel
theorem dHeap_code_1 : decode bHeap_code 1 = .ok (.getfield 21, 3) := by decide +kernel
theorem dHeap_code_4 : decode bHeap_code 4 = .ok (.getfield 38, 3) := by decide +kernel
theorem dHeap_code_7 : decode bHeap_code 7 = .ok (.aload_n 0, 1) := by decide +kernel
theorem dHeap_code_8 : decode bHeap_code 8 = .ok (.getfield 9, 3) := by decide +kernel
theorem dHeap_code_11 : decode bHeap_code 11 = .ok (.iload_n 1, 1) := by decide +kernel
theorem dHeap_code_12 : decode bHeap_code 12 = .ok (.iaload, 1) := by decide +kernel
theorem dHeap_code_13 : decode bHeap_code 13 = .ok (.iaload, 1) := by decide +kernel
theorem dHeap_code_14 : decode bHeap_code 14 = .ok (.tableswitch 38 0 2 #[26, 33, 36], 26) := by decide +kernel
theorem dHeap_code_40 : decode bHeap_code 40 = .ok (.aload_n 0, 1) := by decide +kernel
theorem dHeap_code_41 : decode bHeap_code 41 = .ok (.getfield 15, 3) := by decide +kernel
theorem dHeap_code_44 : decode bHeap_code 44 = .ok (.iload_n 1, 1) := by decide +kernel
theorem dHeap_code_45 : decode bHeap_code 45 = .ok (.iaload, 1) := by decide +kernel
theorem dHeap_code_46 : decode bHeap_code 46 = .ok (.ireturn, 1) := by decide +kernel
theorem dHeap_code_47 : decode bHeap_code 47 = .ok (.bipush 7, 2) := by decide +kernel
theorem dHeap_code_49 : decode bHeap_code 49 = .ok (.ireturn, 1) := by decide +kernel
theorem dHeap_code_50 : decode bHeap_code 50 = .ok (.iload_n 1, 1) := by decide +kernel
theorem dHeap_code_51 : decode bHeap_code 51 = .ok (.ireturn, 1) := by decide +kernel
theorem dHeap_code_52 : decode bHeap_code 52 = .ok (.bipush 31, 2) := by decide +kernel
theorem dHeap_code_54 : decode bHeap_code 54 = .ok (.aload_n 0, 1) := by decide +kernel
theorem dHeap_code_55 : decode bHeap_code 55 = .ok (.getfield 15, 3) := by decide +kernel
theorem dHeap_code_58 : decode bHeap_code 58 = .ok (.iload_n 1, 1) := by decide +kernel
theorem dHeap_code_59 : decode bHeap_code 59 = .ok (.iaload, 1) := by decide +kernel
theorem dHeap_code_60 : decode bHeap_code 60 = .ok (.imul, 1) := by decide +kernel
theorem dHeap_code_61 : decode bHeap_code 61 = .ok (.aload_n 0, 1) := by decide +kernel
theorem dHeap_code_62 : decode bHeap_code 62 = .ok (.getfield 9, 3) := by decide +kernel
theorem dHeap_code_65 : decode bHeap_code 65 = .ok (.iload_n 1, 1) := by decide +kernel
theorem dHeap_code_66 : decode bHeap_code 66 = .ok (.iaload, 1) := by decide +kernel
theorem dHeap_code_67 : decode bHeap_code 67 = .ok (.iadd, 1) := by decide +kernel
theorem dHeap_code_68 : decode bHeap_code 68 = .ok (.ireturn, 1) := by decide +kernel
def wpHeap_code (n : Nat) (ln : Nat → Nat) (x1 : Int32) (h : zM) (post : Int32 → zM → Prop) : Prop := (vp_in x1 10 ∧ (vp_in (h 16 (Int32.toNatClampNeg x1)) 5 ∧ (((h 4 (Int32.toNatClampNeg (h 16 (Int32.toNatClampNeg x1)))) = 0 → (vp_in x1 10 ∧ post (h 17 (Int32.toNatClampNeg x1)) h)) ∧ (¬ (h 4 (Int32.toNatClampNeg (h 16 (Int32.toNatClampNeg x1)))) = 0 → (((h 4 (Int32.toNatClampNeg (h 16 (Int32.toNatClampNeg x1)))) = 1 → post 7 h) ∧ (¬ (h 4 (Int32.toNatClampNeg (h 16 (Int32.toNatClampNeg x1)))) = 1 → (((h 4 (Int32.toNatClampNeg (h 16 (Int32.toNatClampNeg x1)))) = 2 → post x1 h) ∧ (¬ (h 4 (Int32.toNatClampNeg (h 16 (Int32.toNatClampNeg x1)))) = 2 → (vp_in x1 10 ∧ (vp_in x1 10 ∧ post ((31 * (h 17 (Int32.toNatClampNeg x1))) + (h 16 (Int32.toNatClampNeg x1))) h))))))))))
abbrev rmHeap_code : Room := { frames := 0, cells := 0, slots := 0, locals := 0 }
set_option maxHeartbeats 4000000 in
set_option maxRecDepth 100000 in
theorem cHeap_code (l : Launch) (D : va_G) (cI cC cE : ClassId) (ad : Nat → Nat) (n : Nat) (ln : Nat → Nat) (A : Nat → Prop) (hJ : zJ A (34 + 4 * n) ad) (x1 : Int32) (h : zM) (post : Int32 → zM → Prop) (hw : wpHeap_code n ln x1 h post) : Met l yHeap_code (.code yHeap_code bHeap_code 2 (some .int) :: zt) rmHeap_code (va_Pc [.ref (ad 15), .int x1] (zPre D (zty cI cC cE) (34 + 4 * n) ad (zF ad cI cC cE n ln) A h)) (va_Qi post (zPst D (zty cI cC cE) (34 + 4 * n) ad (zF ad cI cC cE n ln)) A) 0 0 A := by
  refine Met.ofW (cc := bHeap_code) (maxL := 2) (ret := (some .int)) (by decide) rfl ?_
  intro p e s m args below meth c s₁ B hml hv
  obtain ⟨rfl, hP, hK, hT, hN⟩ := hv
  have hr := B.returns
  have hlk := B.notSynchronized
  have S : zS p m c bHeap_code 2 s _ "CallExplorer$Heap" := ⟨B.exec, B.bytes, hml, findClass_of_methodNamed B.named, fun w hw => atoms_spec (ws := .code yHeap_code bHeap_code 2 (some .int) :: zt) B.pre w (List.mem_cons_of_mem _ hw)⟩
  have hS : va_S A s.heap s.heap [] := va_S.rf
  have hl := lv_entry ([.ref (ad 15), .int x1]) (n := 2) (Nat.le_of_ble_eq_true rfl)
  rw [lg_entry_eq]
  generalize (lg_sl ([.ref (ad 15), .int x1]) ++ List.replicate (2 - (lg_sl ([.ref (ad 15), .int x1])).length) Slot.unset).toArray = ls at hl ⊢
  have hl : lv_has ls 2 [(0, .ref (ad 15)), (1, .int x1)] := hl
  show W p l e rmHeap_code s m ([.ref (ad 15), .int x1] : List Value).toArray below meth c s.heap [] 0 0 (zQi post D (zty cI cC cE) (34 + 4 * n) ad (zF ad cI cC cE n ln) A below ([.ref (ad 15), .int x1] : List Value).toArray s) _
  unfold wpHeap_code at hw
  refine lv_aload_n S.1 S.2.1 dHeap_code_0 rfl (lv_at hl 0 rfl) ?_
  refine zr_get S hK hP (zk (by decide)) (zF_15 _) fHeap_catalog q104 rfl dHeap_code_1 ?_
  refine zr_get S hK hP (zk (by decide)) (zF_1 _) fCatalog_marks q38 rfl dHeap_code_4 ?_
  refine lv_aload_n S.1 S.2.1 dHeap_code_7 rfl (lv_at hl 0 rfl) ?_
  refine zr_get S hK hP (zk (by decide)) (zF_15 _) fHeap_classes q107 rfl dHeap_code_8 ?_
  refine lv_iload_n S.1 S.2.1 dHeap_code_11 rfl (lv_at hl 1 rfl) ?_
  obtain ⟨z12, hw⟩ := hw
  refine zr_ald S hK hP (zk (by decide)) (zF_16 _) 0 rfl z12 dHeap_code_12 ?_
  obtain ⟨z13, hw⟩ := hw
  refine zr_ald S hK hP (zk (by decide)) (zF_4 _) 0 rfl z13 dHeap_code_13 ?_
  by_cases c0 : (h 4 (Int32.toNatClampNeg (h 16 (Int32.toNatClampNeg x1)))) = 0
  · have hw := hw.1 c0
    refine lv_tableIn (off := 26) S.1 S.2.1 dHeap_code_14 (by rw [c0]; decide) (by rw [c0]; decide) (by rw [c0]; rfl) rfl ?_
    refine lv_aload_n S.1 S.2.1 dHeap_code_40 rfl (lv_at hl 0 rfl) ?_
    refine zr_get S hK hP (zk (by decide)) (zF_15 _) fHeap_values q109 rfl dHeap_code_41 ?_
    refine lv_iload_n S.1 S.2.1 dHeap_code_44 rfl (lv_at hl 1 rfl) ?_
    obtain ⟨z45, hw⟩ := hw
    refine zr_ald S hK hP (zk (by decide)) (zF_17 _) 0 rfl z45 dHeap_code_45 ?_
    exact zr_iret S hr hlk hK hP hS rfl hw dHeap_code_46
  · have hw := hw.2 c0
    by_cases c1 : (h 4 (Int32.toNatClampNeg (h 16 (Int32.toNatClampNeg x1)))) = 1
    · have hw := hw.1 c1
      refine lv_tableIn (off := 33) S.1 S.2.1 dHeap_code_14 (by rw [c1]; decide) (by rw [c1]; decide) (by rw [c1]; rfl) rfl ?_
      refine lv_bipush (v := 7) S.1 S.2.1 dHeap_code_47 (by decide) ?_
      exact zr_iret S hr hlk hK hP hS rfl hw dHeap_code_49
    · have hw := hw.2 c1
      by_cases c2 : (h 4 (Int32.toNatClampNeg (h 16 (Int32.toNatClampNeg x1)))) = 2
      · have hw := hw.1 c2
        refine lv_tableIn (off := 36) S.1 S.2.1 dHeap_code_14 (by rw [c2]; decide) (by rw [c2]; decide) (by rw [c2]; rfl) rfl ?_
        refine lv_iload_n S.1 S.2.1 dHeap_code_50 rfl (lv_at hl 1 rfl) ?_
        exact zr_iret S hr hlk hK hP hS rfl hw dHeap_code_51
      · have hw := hw.2 c2
        refine lv_tableOut S.1 S.2.1 dHeap_code_14 (by have n0 := lv_neT c0 (show (0 : Int32).toInt = 0 from by decide); have n1 := lv_neT c1 (show (1 : Int32).toInt = 1 from by decide); have n2 := lv_neT c2 (show (2 : Int32).toInt = 2 from by decide); omega) rfl ?_
        refine lv_bipush (v := 31) S.1 S.2.1 dHeap_code_52 (by decide) ?_
        refine lv_aload_n S.1 S.2.1 dHeap_code_54 rfl (lv_at hl 0 rfl) ?_
        refine zr_get S hK hP (zk (by decide)) (zF_15 _) fHeap_values q109 rfl dHeap_code_55 ?_
        refine lv_iload_n S.1 S.2.1 dHeap_code_58 rfl (lv_at hl 1 rfl) ?_
        obtain ⟨z59, hw⟩ := hw
        refine zr_ald S hK hP (zk (by decide)) (zF_17 _) 0 rfl z59 dHeap_code_59 ?_
        refine lv_imul S.1 S.2.1 dHeap_code_60 ?_
        refine lv_aload_n S.1 S.2.1 dHeap_code_61 rfl (lv_at hl 0 rfl) ?_
        refine zr_get S hK hP (zk (by decide)) (zF_15 _) fHeap_classes q107 rfl dHeap_code_62 ?_
        refine lv_iload_n S.1 S.2.1 dHeap_code_65 rfl (lv_at hl 1 rfl) ?_
        obtain ⟨z66, hw⟩ := hw
        refine zr_ald S hK hP (zk (by decide)) (zF_16 _) 0 rfl z66 dHeap_code_66 ?_
        refine lv_iadd S.1 S.2.1 dHeap_code_67 ?_
        exact zr_iret S hr hlk hK hP hS rfl hw dHeap_code_68
/-! Heap.faultOfPair -/
theorem dHeap_faultOfPair_0 : decode bHeap_faultOfPair 0 = .ok (.aload_n 0, 1) := by decide +kernel
theorem dHeap_faultOfPair_1 : decode bHeap_faultOfPair 1 = .ok (.iload_n 1, 1) := by decide +kernel
theorem dHeap_faultOfPair_2 : decode bHeap_faultOfPair 2 = .ok (.iload_n 2, 1) := by decide +kernel
theorem dHeap_faultOfPair_3 : decode bHeap_faultOfPair 3 = .ok (.invokevirtual 41, 3) := by decide +kernel
theorem dHeap_faultOfPair_6 : decode bHeap_faultOfPair 6 = .ok (.istore_n 3, 1) := by decide +kernel
theorem dHeap_faultOfPair_7 : decode bHeap_faultOfPair 7 = .ok (.aload_n 0, 1) := by decide +kernel
theorem dHeap_faultOfPair_8 : decode bHeap_faultOfPair 8 = .ok (.iload_n 2, 1) := by decide +kernel
theorem dHeap_faultOfPair_9 : decode bHeap_faultOfPair 9 = .ok (.iload_n 1, 1) := by decide +kernel
theorem dHeap_faultOfPair_10 : decode bHeap_faultOfPair 10 = .ok (.invokevirtual 41, 3) := by decide +kernel
theorem dHeap_faultOfPair_13 : decode bHeap_faultOfPair 13 = .ok (.istore 4, 2) := by decide +kernel
theorem dHeap_faultOfPair_15 : decode bHeap_faultOfPair 15 = .ok (.iload_n 3, 1) := by decide +kernel
theorem dHeap_faultOfPair_16 : decode bHeap_faultOfPair 16 = .ok (.iload 4, 2) := by decide +kernel
theorem dHeap_faultOfPair_18 : decode bHeap_faultOfPair 18 = .ok (.if_icmp .eq 5, 3) := by decide +kernel
theorem dHeap_faultOfPair_21 : decode bHeap_faultOfPair 21 = .ok (.iconst 2, 1) := by decide +kernel
theorem dHeap_faultOfPair_22 : decode bHeap_faultOfPair 22 = .ok (.ireturn, 1) := by decide +kernel
theorem dHeap_faultOfPair_23 : decode bHeap_faultOfPair 23 = .ok (.iload_n 3, 1) := by decide +kernel
theorem dHeap_faultOfPair_24 : decode bHeap_faultOfPair 24 = .ok (.ifCond .eq 20, 3) := by decide +kernel
theorem dHeap_faultOfPair_27 : decode bHeap_faultOfPair 27 = .ok (.aload_n 0, 1) := by decide +kernel
theorem dHeap_faultOfPair_28 : decode bHeap_faultOfPair 28 = .ok (.iload_n 1, 1) := by decide +kernel
theorem dHeap_faultOfPair_29 : decode bHeap_faultOfPair 29 = .ok (.invokevirtual 48, 3) := by decide +kernel
theorem dHeap_faultOfPair_32 : decode bHeap_faultOfPair 32 = .ok (.aload_n 0, 1) := by decide +kernel
theorem dHeap_faultOfPair_33 : decode bHeap_faultOfPair 33 = .ok (.iload_n 2, 1) := by decide +kernel
theorem dHeap_faultOfPair_34 : decode bHeap_faultOfPair 34 = .ok (.invokevirtual 48, 3) := by decide +kernel
theorem dHeap_faultOfPair_37 : decode bHeap_faultOfPair 37 = .ok (.if_icmp .eq 7, 3) := by decide +kernel
theorem dHeap_faultOfPair_40 : decode bHeap_faultOfPair 40 = .ok (.iconst 3, 1) := by decide +kernel
theorem dHeap_faultOfPair_41 : decode bHeap_faultOfPair 41 = .ok (.goto 4, 3) := by decide +kernel
theorem dHeap_faultOfPair_44 : decode bHeap_faultOfPair 44 = .ok (.iconst 0, 1) := by decide +kernel
theorem dHeap_faultOfPair_45 : decode bHeap_faultOfPair 45 = .ok (.ireturn, 1) := by decide +kernel
def wpHeap_faultOfPair (n : Nat) (ln : Nat → Nat) (x1 : Int32) (x2 : Int32) (h : zM) (post : Int32 → zM → Prop) : Prop := wpHeap_equal n ln x1 x2 h (fun r3 h3 => wpHeap_equal n ln x2 x1 h3 (fun r10 h10 => ((r3 = r10 → ((r3 = 0 → post 0 h10) ∧ (¬ r3 = 0 → wpHeap_code n ln x1 h10 (fun r29 h29 => wpHeap_code n ln x2 h29 (fun r34 h34 => ((r29 = r34 → post 0 h34) ∧ (¬ r29 = r34 → post 3 h34))))))) ∧ (¬ r3 = r10 → post 2 h10))))
abbrev rmHeap_faultOfPair : Room := { frames := 2, cells := 0, slots := 0, locals := 50 }
set_option maxHeartbeats 4000000 in
set_option maxRecDepth 100000 in
theorem cHeap_faultOfPair (l : Launch) (D : va_G) (cI cC cE : ClassId) (ad : Nat → Nat) (n : Nat) (ln : Nat → Nat) (A : Nat → Prop) (hJ : zJ A (34 + 4 * n) ad) (x1 : Int32) (x2 : Int32) (h : zM) (post : Int32 → zM → Prop) (hw : wpHeap_faultOfPair n ln x1 x2 h post) : Met l yHeap_faultOfPair (.code yHeap_faultOfPair bHeap_faultOfPair 5 (some .int) :: zt) rmHeap_faultOfPair (va_Pc [.ref (ad 15), .int x1, .int x2] (zPre D (zty cI cC cE) (34 + 4 * n) ad (zF ad cI cC cE n ln) A h)) (va_Qi post (zPst D (zty cI cC cE) (34 + 4 * n) ad (zF ad cI cC cE n ln)) A) 0 0 A := by
  refine Met.ofW (cc := bHeap_faultOfPair) (maxL := 5) (ret := (some .int)) (by decide) rfl ?_
  intro p e s m args below meth c s₁ B hml hv
  obtain ⟨rfl, hP, hK, hT, hN⟩ := hv
  have hr := B.returns
  have hlk := B.notSynchronized
  have S : zS p m c bHeap_faultOfPair 5 s _ "CallExplorer$Heap" := ⟨B.exec, B.bytes, hml, findClass_of_methodNamed B.named, fun w hw => atoms_spec (ws := .code yHeap_faultOfPair bHeap_faultOfPair 5 (some .int) :: zt) B.pre w (List.mem_cons_of_mem _ hw)⟩
  have hS : va_S A s.heap s.heap [] := va_S.rf
  have hl := lv_entry ([.ref (ad 15), .int x1, .int x2]) (n := 5) (Nat.le_of_ble_eq_true rfl)
  rw [lg_entry_eq]
  generalize (lg_sl ([.ref (ad 15), .int x1, .int x2]) ++ List.replicate (5 - (lg_sl ([.ref (ad 15), .int x1, .int x2])).length) Slot.unset).toArray = ls at hl ⊢
  have hl : lv_has ls 5 [(0, .ref (ad 15)), (1, .int x1), (2, .int x2)] := hl
  show W p l e rmHeap_faultOfPair s m ([.ref (ad 15), .int x1, .int x2] : List Value).toArray below meth c s.heap [] 0 0 (zQi post D (zty cI cC cE) (34 + 4 * n) ad (zF ad cI cC cE n ln) A below ([.ref (ad 15), .int x1, .int x2] : List Value).toArray s) _
  unfold wpHeap_faultOfPair at hw
  refine lv_aload_n S.1 S.2.1 dHeap_faultOfPair_0 rfl (lv_at hl 0 rfl) ?_
  refine lv_iload_n S.1 S.2.1 dHeap_faultOfPair_1 rfl (lv_at hl 1 rfl) ?_
  refine lv_iload_n S.1 S.2.1 dHeap_faultOfPair_2 rfl (lv_at hl 2 rfl) ?_
  refine zr_i (zr_V (As := [.int x1, .int x2]) (rest := []) S hK hT hN hP hS (zk (by decide)) (zF_15 _) rfl (cHeap_equal l D cI cC cE ad n ln A hJ _ _ _ _ hw) caHeap_41 ⟨Nat.le_of_ble_eq_true rfl, Nat.le_of_ble_eq_true rfl⟩ ⟨rfl, rfl⟩ rfl hl.1 rfl (Nat.le_of_ble_eq_true rfl) dHeap_faultOfPair_3) hS (fun r3 h3 H locs hw hP hS => ?_)
  refine lv_istore_n (lv' := [(3, .int r3), (0, .ref (ad 15)), (1, .int x1), (2, .int x2)]) S.1 S.2.1 dHeap_faultOfPair_6 rfl hl (by decide) rfl (fun ls hl => ?_)
  refine lv_aload_n S.1 S.2.1 dHeap_faultOfPair_7 rfl (lv_at hl 1 rfl) ?_
  refine lv_iload_n S.1 S.2.1 dHeap_faultOfPair_8 rfl (lv_at hl 3 rfl) ?_
  refine lv_iload_n S.1 S.2.1 dHeap_faultOfPair_9 rfl (lv_at hl 2 rfl) ?_
  refine zr_i (zr_V (As := [.int x2, .int x1]) (rest := []) S hK hT hN hP hS (zk (by decide)) (zF_15 _) rfl (cHeap_equal l D cI cC cE ad n ln A hJ _ _ _ _ hw) caHeap_41 ⟨Nat.le_of_ble_eq_true rfl, Nat.le_of_ble_eq_true rfl⟩ ⟨rfl, rfl⟩ rfl hl.1 rfl (Nat.le_of_ble_eq_true rfl) dHeap_faultOfPair_10) hS (fun r10 h10 H locs hw hP hS => ?_)
  refine lv_istore (lv' := [(4, .int r10), (3, .int r3), (0, .ref (ad 15)), (1, .int x1), (2, .int x2)]) S.1 S.2.1 dHeap_faultOfPair_13 hl (by decide) rfl (fun ls hl => ?_)
  refine lv_iload_n S.1 S.2.1 dHeap_faultOfPair_15 rfl (lv_at hl 1 rfl) ?_
  refine lv_iload S.1 S.2.1 dHeap_faultOfPair_16 (lv_at hl 0 rfl) ?_
  refine lv_icmp_eq S.1 S.2.1 dHeap_faultOfPair_18 rfl (fun hc => ?_) (fun hc => ?_)
  · have hw := hw.1 hc
    refine lv_iload_n S.1 S.2.1 dHeap_faultOfPair_23 rfl (lv_at hl 1 rfl) ?_
    refine lv_if_eq S.1 S.2.1 dHeap_faultOfPair_24 rfl (fun hc => ?_) (fun hc => ?_)
    · have hw := hw.1 hc
      refine lv_iconst (v := 0) S.1 S.2.1 dHeap_faultOfPair_44 (by decide) ?_
      exact zr_iret S hr hlk hK hP hS rfl hw dHeap_faultOfPair_45
    · have hw := hw.2 hc
      refine lv_aload_n S.1 S.2.1 dHeap_faultOfPair_27 rfl (lv_at hl 2 rfl) ?_
      refine lv_iload_n S.1 S.2.1 dHeap_faultOfPair_28 rfl (lv_at hl 3 rfl) ?_
      refine zr_i (zr_V (As := [.int x1]) (rest := []) S hK hT hN hP hS (zk (by decide)) (zF_15 _) rfl (cHeap_code l D cI cC cE ad n ln A hJ _ _ _ hw) caHeap_48 ⟨Nat.le_of_ble_eq_true rfl, Nat.le_of_ble_eq_true rfl⟩ ⟨rfl, rfl⟩ rfl hl.1 rfl (Nat.le_of_ble_eq_true rfl) dHeap_faultOfPair_29) hS (fun r29 h29 H locs hw hP hS => ?_)
      refine lv_aload_n S.1 S.2.1 dHeap_faultOfPair_32 rfl (lv_at hl 2 rfl) ?_
      refine lv_iload_n S.1 S.2.1 dHeap_faultOfPair_33 rfl (lv_at hl 4 rfl) ?_
      refine zr_i (zr_V (As := [.int x2]) (rest := [.int r29]) S hK hT hN hP hS (zk (by decide)) (zF_15 _) rfl (cHeap_code l D cI cC cE ad n ln A hJ _ _ _ hw) caHeap_48 ⟨Nat.le_of_ble_eq_true rfl, Nat.le_of_ble_eq_true rfl⟩ ⟨rfl, rfl⟩ rfl hl.1 rfl (Nat.le_of_ble_eq_true rfl) dHeap_faultOfPair_34) hS (fun r34 h34 H locs hw hP hS => ?_)
      refine lv_icmp_eq S.1 S.2.1 dHeap_faultOfPair_37 rfl (fun hc => ?_) (fun hc => ?_)
      · have hw := hw.1 hc
        refine lv_iconst (v := 0) S.1 S.2.1 dHeap_faultOfPair_44 (by decide) ?_
        exact zr_iret S hr hlk hK hP hS rfl hw dHeap_faultOfPair_45
      · have hw := hw.2 hc
        refine lv_iconst (v := 3) S.1 S.2.1 dHeap_faultOfPair_40 (by decide) ?_
        refine lv_goto S.1 S.2.1 dHeap_faultOfPair_41 rfl ?_
        exact zr_iret S hr hlk hK hP hS rfl hw dHeap_faultOfPair_45
  · have hw := hw.2 hc
    refine lv_iconst (v := 2) S.1 S.2.1 dHeap_faultOfPair_21 (by decide) ?_
    exact zr_iret S hr hlk hK hP hS rfl hw dHeap_faultOfPair_22
/-! Heap.findFault -/
theorem dHeap_findFault_0 : decode bHeap_findFault 0 = .ok (.iconst 0, 1) := by decide +kernel
theorem dHeap_findFault_1 : decode bHeap_findFault 1 = .ok (.istore_n 1, 1) := by decide +kernel
theorem dHeap_findFault_2 : decode bHeap_findFault 2 = .ok (.iload_n 1, 1) := by decide +kernel
theorem dHeap_findFault_3 : decode bHeap_findFault 3 = .ok (.aload_n 0, 1) := by decide +kernel
theorem dHeap_findFault_4 : decode bHeap_findFault 4 = .ok (.getfield 25, 3) := by decide +kernel
theorem dHeap_findFault_7 : decode bHeap_findFault 7 = .ok (.if_icmp .ge 20, 3) := by decide +kernel
theorem dHeap_findFault_10 : decode bHeap_findFault 10 = .ok (.aload_n 0, 1) := by decide +kernel
theorem dHeap_findFault_11 : decode bHeap_findFault 11 = .ok (.iload_n 1, 1) := by decide +kernel
theorem dHeap_findFault_12 : decode bHeap_findFault 12 = .ok (.iload_n 1, 1) := by decide +kernel
theorem dHeap_findFault_13 : decode bHeap_findFault 13 = .ok (.invokevirtual 41, 3) := by decide +kernel
theorem dHeap_findFault_16 : decode bHeap_findFault 16 = .ok (.ifCond .ne 5, 3) := by decide +kernel
theorem dHeap_findFault_19 : decode bHeap_findFault 19 = .ok (.iconst 1, 1) := by decide +kernel
theorem dHeap_findFault_20 : decode bHeap_findFault 20 = .ok (.ireturn, 1) := by decide +kernel
theorem dHeap_findFault_21 : decode bHeap_findFault 21 = .ok (.iinc 1 1, 3) := by decide +kernel
theorem dHeap_findFault_24 : decode bHeap_findFault 24 = .ok (.goto (-22), 3) := by decide +kernel
theorem dHeap_findFault_27 : decode bHeap_findFault 27 = .ok (.iconst 0, 1) := by decide +kernel
theorem dHeap_findFault_28 : decode bHeap_findFault 28 = .ok (.istore_n 1, 1) := by decide +kernel
theorem dHeap_findFault_29 : decode bHeap_findFault 29 = .ok (.iload_n 1, 1) := by decide +kernel
theorem dHeap_findFault_30 : decode bHeap_findFault 30 = .ok (.aload_n 0, 1) := by decide +kernel
theorem dHeap_findFault_31 : decode bHeap_findFault 31 = .ok (.getfield 25, 3) := by decide +kernel
theorem dHeap_findFault_34 : decode bHeap_findFault 34 = .ok (.if_icmp .ge 40, 3) := by decide +kernel
theorem dHeap_findFault_37 : decode bHeap_findFault 37 = .ok (.iload_n 1, 1) := by decide +kernel
theorem dHeap_findFault_38 : decode bHeap_findFault 38 = .ok (.iconst 1, 1) := by decide +kernel
theorem dHeap_findFault_39 : decode bHeap_findFault 39 = .ok (.iadd, 1) := by decide +kernel
theorem dHeap_findFault_40 : decode bHeap_findFault 40 = .ok (.istore_n 2, 1) := by decide +kernel
theorem dHeap_findFault_41 : decode bHeap_findFault 41 = .ok (.iload_n 2, 1) := by decide +kernel
theorem dHeap_findFault_42 : decode bHeap_findFault 42 = .ok (.aload_n 0, 1) := by decide +kernel
theorem dHeap_findFault_43 : decode bHeap_findFault 43 = .ok (.getfield 25, 3) := by decide +kernel
theorem dHeap_findFault_46 : decode bHeap_findFault 46 = .ok (.if_icmp .ge 22, 3) := by decide +kernel
theorem dHeap_findFault_49 : decode bHeap_findFault 49 = .ok (.aload_n 0, 1) := by decide +kernel
theorem dHeap_findFault_50 : decode bHeap_findFault 50 = .ok (.iload_n 1, 1) := by decide +kernel
theorem dHeap_findFault_51 : decode bHeap_findFault 51 = .ok (.iload_n 2, 1) := by decide +kernel
theorem dHeap_findFault_52 : decode bHeap_findFault 52 = .ok (.invokevirtual 44, 3) := by decide +kernel
theorem dHeap_findFault_55 : decode bHeap_findFault 55 = .ok (.istore_n 3, 1) := by decide +kernel
theorem dHeap_findFault_56 : decode bHeap_findFault 56 = .ok (.iload_n 3, 1) := by decide +kernel
theorem dHeap_findFault_57 : decode bHeap_findFault 57 = .ok (.ifCond .eq 5, 3) := by decide +kernel
theorem dHeap_findFault_60 : decode bHeap_findFault 60 = .ok (.iload_n 3, 1) := by decide +kernel
theorem dHeap_findFault_61 : decode bHeap_findFault 61 = .ok (.ireturn, 1) := by decide +kernel
theorem dHeap_findFault_62 : decode bHeap_findFault 62 = .ok (.iinc 2 1, 3) := by decide +kernel
theorem dHeap_findFault_65 : decode bHeap_findFault 65 = .ok (.goto (-24), 3) := by decide +kernel
theorem dHeap_findFault_68 : decode bHeap_findFault 68 = .ok (.iinc 1 1, 3) := by decide +kernel
theorem dHeap_findFault_71 : decode bHeap_findFault 71 = .ok (.goto (-42), 3) := by decide +kernel
theorem dHeap_findFault_74 : decode bHeap_findFault 74 = .ok (.iconst 0, 1) := by decide +kernel
theorem dHeap_findFault_75 : decode bHeap_findFault 75 = .ok (.ireturn, 1) := by decide +kernel
def stHeap_findFault_41 (n : Nat) (ln : Nat → Nat) (post : Int32 → zM → Prop) (L29 : (Int32 × zM) → Prop) (L41 : (Int32 × Int32 × zM) → Prop) : (Int32 × Int32 × zM) → Prop := fun s => match s with
  | (v1, v2, h) => ((((h 15 1) ≤ v2) → L29 ((v1 + 1), h)) ∧ (¬ ((h 15 1) ≤ v2) → wpHeap_faultOfPair n ln v1 v2 h (fun r52 h52 => ((r52 = 0 → L41 (v1, (v2 + 1), h52)) ∧ (¬ r52 = 0 → post r52 h52)))))
def stHeap_findFault_29 (n : Nat) (ln : Nat → Nat) (post : Int32 → zM → Prop) (L29 : (Int32 × zM) → Prop) : (Int32 × zM) → Prop := fun s => match s with
  | (v1, h) => ((((h 15 1) ≤ v1) → post 0 h) ∧ (¬ ((h 15 1) ≤ v1) → ∀ y40 : Int32, y40 = (v1 + 1) → zL (stHeap_findFault_41 n ln post L29) (v1, y40, h)))
def stHeap_findFault_2 (n : Nat) (ln : Nat → Nat) (post : Int32 → zM → Prop) (L2 : (Int32 × zM) → Prop) : (Int32 × zM) → Prop := fun s => match s with
  | (v1, h) => ((((h 15 1) ≤ v1) → zL (stHeap_findFault_29 n ln post) (0, h)) ∧ (¬ ((h 15 1) ≤ v1) → wpHeap_equal n ln v1 v1 h (fun r13 h13 => ((¬ r13 = 0 → L2 ((v1 + 1), h13)) ∧ (r13 = 0 → post 1 h13)))))
def wpHeap_findFault (n : Nat) (ln : Nat → Nat) (h : zM) (post : Int32 → zM → Prop) : Prop := zL (stHeap_findFault_2 n ln post) (0, h)
abbrev rmHeap_findFault : Room := { frames := 3, cells := 0, slots := 0, locals := 74 }
set_option maxHeartbeats 4000000 in
set_option maxRecDepth 100000 in
theorem cHeap_findFault (l : Launch) (D : va_G) (cI cC cE : ClassId) (ad : Nat → Nat) (n : Nat) (ln : Nat → Nat) (A : Nat → Prop) (hJ : zJ A (34 + 4 * n) ad) (h : zM) (post : Int32 → zM → Prop) (hw : wpHeap_findFault n ln h post) : Met l yHeap_findFault (.code yHeap_findFault bHeap_findFault 4 (some .int) :: zt) rmHeap_findFault (va_Pc [.ref (ad 15)] (zPre D (zty cI cC cE) (34 + 4 * n) ad (zF ad cI cC cE n ln) A h)) (va_Qi post (zPst D (zty cI cC cE) (34 + 4 * n) ad (zF ad cI cC cE n ln)) A) 0 0 A := by
  refine Met.ofW (cc := bHeap_findFault) (maxL := 4) (ret := (some .int)) (by decide) rfl ?_
  intro p e s m args below meth c s₁ B hml hv
  obtain ⟨rfl, hP, hK, hT, hN⟩ := hv
  have hr := B.returns
  have hlk := B.notSynchronized
  have S : zS p m c bHeap_findFault 4 s _ "CallExplorer$Heap" := ⟨B.exec, B.bytes, hml, findClass_of_methodNamed B.named, fun w hw => atoms_spec (ws := .code yHeap_findFault bHeap_findFault 4 (some .int) :: zt) B.pre w (List.mem_cons_of_mem _ hw)⟩
  have hS : va_S A s.heap s.heap [] := va_S.rf
  have hl := lv_entry ([.ref (ad 15)]) (n := 4) (Nat.le_of_ble_eq_true rfl)
  rw [lg_entry_eq]
  generalize (lg_sl ([.ref (ad 15)]) ++ List.replicate (4 - (lg_sl ([.ref (ad 15)])).length) Slot.unset).toArray = ls at hl ⊢
  have hl : lv_has ls 4 [(0, .ref (ad 15))] := hl
  show W p l e rmHeap_findFault s m ([.ref (ad 15)] : List Value).toArray below meth c s.heap [] 0 0 (zQi post D (zty cI cC cE) (34 + 4 * n) ad (zF ad cI cC cE n ln) A below ([.ref (ad 15)] : List Value).toArray s) _
  have J29 : ∀ (fu : Nat) (v1 : Int32) (h : zM) (H : Heap) (locs : List Loc) (ls : Array Slot), zl (stHeap_findFault_29 n ln post) fu (v1, h) → lv_has ls 4 [(0, .ref (ad 15)), (1, .int v1)] → va_P D zcl (zW (34 + 4 * n) ad (zF ad cI cC cE n ln) h) H → va_S A s.heap H locs → W p l e rmHeap_findFault s m ([.ref (ad 15)] : List Value).toArray below meth c H locs 0 0 (zQi post D (zty cI cC cE) (34 + 4 * n) ad (zF ad cI cC cE n ln) A below ([.ref (ad 15)] : List Value).toArray s) (F0 m 29 ls []) := by
    intro fu29
    induction fu29 with
    | zero =>
      intro v1 h H locs ls hw
      exact (zl_0 hw).elim
    | succ fu29 ih29 =>
      intro v1 h H locs ls hw hl hP hS
      have hw := zl_s hw
      generalize zl (stHeap_findFault_29 n ln post) fu29 = L29 at hw ih29
      have J41 : ∀ (fu : Nat) (v1 : Int32) (v2 : Int32) (h : zM) (H : Heap) (locs : List Loc) (ls : Array Slot), zl (stHeap_findFault_41 n ln post L29) fu (v1, v2, h) → lv_has ls 4 [(0, .ref (ad 15)), (1, .int v1), (2, .int v2)] → va_P D zcl (zW (34 + 4 * n) ad (zF ad cI cC cE n ln) h) H → va_S A s.heap H locs → W p l e rmHeap_findFault s m ([.ref (ad 15)] : List Value).toArray below meth c H locs 0 0 (zQi post D (zty cI cC cE) (34 + 4 * n) ad (zF ad cI cC cE n ln) A below ([.ref (ad 15)] : List Value).toArray s) (F0 m 41 ls []) := by
        intro fu41
        induction fu41 with
        | zero =>
          intro v1 v2 h H locs ls hw
          exact (zl_0 hw).elim
        | succ fu41 ih41 =>
          intro v1 v2 h H locs ls hw hl hP hS
          have hw := zl_s hw
          generalize zl (stHeap_findFault_41 n ln post L29) fu41 = L41 at hw ih41
          unfold stHeap_findFault_41 at hw
          dsimp only at hw
          refine lv_iload_n S.1 S.2.1 dHeap_findFault_41 rfl (lv_at hl 2 rfl) ?_
          refine lv_aload_n S.1 S.2.1 dHeap_findFault_42 rfl (lv_at hl 0 rfl) ?_
          refine zr_get S hK hP (zk (by decide)) (zF_15 _) fHeap_count q105 rfl dHeap_findFault_43 ?_
          refine lv_icmp_ge S.1 S.2.1 dHeap_findFault_46 rfl (fun hc => ?_) (fun hc => ?_)
          · have hw := hw.1 hc
            refine lv_iinc (v := (v1 + 1)) (lv' := [(1, .int (v1 + 1)), (0, .ref (ad 15)), (2, .int v2)]) (k := 1) S.1 S.2.1 dHeap_findFault_68 hl rfl rfl (by decide) rfl (fun ls hl => ?_)
            refine lv_goto S.1 S.2.1 dHeap_findFault_71 rfl ?_
            exact ih29 _ _ _ _ _ hw (lv_sub hl [1, 0] rfl) hP hS
          · have hw := hw.2 hc
            refine lv_aload_n S.1 S.2.1 dHeap_findFault_49 rfl (lv_at hl 0 rfl) ?_
            refine lv_iload_n S.1 S.2.1 dHeap_findFault_50 rfl (lv_at hl 1 rfl) ?_
            refine lv_iload_n S.1 S.2.1 dHeap_findFault_51 rfl (lv_at hl 2 rfl) ?_
            refine zr_i (zr_V (As := [.int v1, .int v2]) (rest := []) S hK hT hN hP hS (zk (by decide)) (zF_15 _) rfl (cHeap_faultOfPair l D cI cC cE ad n ln A hJ _ _ _ _ hw) caHeap_44 ⟨Nat.le_of_ble_eq_true rfl, Nat.le_of_ble_eq_true rfl⟩ ⟨rfl, rfl⟩ rfl hl.1 rfl (Nat.le_of_ble_eq_true rfl) dHeap_findFault_52) hS (fun r52 h52 H locs hw hP hS => ?_)
            refine lv_istore_n (lv' := [(3, .int r52), (0, .ref (ad 15)), (1, .int v1), (2, .int v2)]) S.1 S.2.1 dHeap_findFault_55 rfl hl (by decide) rfl (fun ls hl => ?_)
            refine lv_iload_n S.1 S.2.1 dHeap_findFault_56 rfl (lv_at hl 0 rfl) ?_
            refine lv_if_eq S.1 S.2.1 dHeap_findFault_57 rfl (fun hc => ?_) (fun hc => ?_)
            · have hw := hw.1 hc
              refine lv_iinc (v := (v2 + 1)) (lv' := [(2, .int (v2 + 1)), (3, .int r52), (0, .ref (ad 15)), (1, .int v1)]) (k := 3) S.1 S.2.1 dHeap_findFault_62 hl rfl rfl (by decide) rfl (fun ls hl => ?_)
              refine lv_goto S.1 S.2.1 dHeap_findFault_65 rfl ?_
              exact ih41 _ _ _ _ _ _ hw (lv_sub hl [2, 3, 0] rfl) hP hS
            · have hw := hw.2 hc
              refine lv_iload_n S.1 S.2.1 dHeap_findFault_60 rfl (lv_at hl 0 rfl) ?_
              exact zr_iret S hr hlk hK hP hS rfl hw dHeap_findFault_61
      unfold stHeap_findFault_29 at hw
      dsimp only at hw
      refine lv_iload_n S.1 S.2.1 dHeap_findFault_29 rfl (lv_at hl 1 rfl) ?_
      refine lv_aload_n S.1 S.2.1 dHeap_findFault_30 rfl (lv_at hl 0 rfl) ?_
      refine zr_get S hK hP (zk (by decide)) (zF_15 _) fHeap_count q105 rfl dHeap_findFault_31 ?_
      refine lv_icmp_ge S.1 S.2.1 dHeap_findFault_34 rfl (fun hc => ?_) (fun hc => ?_)
      · have hw := hw.1 hc
        refine lv_iconst (v := 0) S.1 S.2.1 dHeap_findFault_74 (by decide) ?_
        exact zr_iret S hr hlk hK hP hS rfl hw dHeap_findFault_75
      · have hw := hw.2 hc
        refine lv_iload_n S.1 S.2.1 dHeap_findFault_37 rfl (lv_at hl 1 rfl) ?_
        refine lv_iconst (v := 1) S.1 S.2.1 dHeap_findFault_38 (by decide) ?_
        refine lv_iadd S.1 S.2.1 dHeap_findFault_39 ?_
        refine lv_topi (fun y40 e40 => ?_)
        have hw := hw y40 e40
        refine lv_istore_n (lv' := [(2, .int y40), (0, .ref (ad 15)), (1, .int v1)]) S.1 S.2.1 dHeap_findFault_40 rfl hl (by decide) rfl (fun ls hl => ?_)
        obtain ⟨fu, hw⟩ := hw
        exact J41 fu _ _ _ _ _ _ hw (lv_sub hl [1, 2, 0] rfl) hP hS
  have J2 : ∀ (fu : Nat) (v1 : Int32) (h : zM) (H : Heap) (locs : List Loc) (ls : Array Slot), zl (stHeap_findFault_2 n ln post) fu (v1, h) → lv_has ls 4 [(0, .ref (ad 15)), (1, .int v1)] → va_P D zcl (zW (34 + 4 * n) ad (zF ad cI cC cE n ln) h) H → va_S A s.heap H locs → W p l e rmHeap_findFault s m ([.ref (ad 15)] : List Value).toArray below meth c H locs 0 0 (zQi post D (zty cI cC cE) (34 + 4 * n) ad (zF ad cI cC cE n ln) A below ([.ref (ad 15)] : List Value).toArray s) (F0 m 2 ls []) := by
    intro fu2
    induction fu2 with
    | zero =>
      intro v1 h H locs ls hw
      exact (zl_0 hw).elim
    | succ fu2 ih2 =>
      intro v1 h H locs ls hw hl hP hS
      have hw := zl_s hw
      generalize zl (stHeap_findFault_2 n ln post) fu2 = L2 at hw ih2
      unfold stHeap_findFault_2 at hw
      dsimp only at hw
      refine lv_iload_n S.1 S.2.1 dHeap_findFault_2 rfl (lv_at hl 1 rfl) ?_
      refine lv_aload_n S.1 S.2.1 dHeap_findFault_3 rfl (lv_at hl 0 rfl) ?_
      refine zr_get S hK hP (zk (by decide)) (zF_15 _) fHeap_count q105 rfl dHeap_findFault_4 ?_
      refine lv_icmp_ge S.1 S.2.1 dHeap_findFault_7 rfl (fun hc => ?_) (fun hc => ?_)
      · have hw := hw.1 hc
        refine lv_iconst (v := 0) S.1 S.2.1 dHeap_findFault_27 (by decide) ?_
        refine lv_istore_n (lv' := [(1, .int 0), (0, .ref (ad 15))]) S.1 S.2.1 dHeap_findFault_28 rfl hl (by decide) rfl (fun ls hl => ?_)
        obtain ⟨fu, hw⟩ := hw
        exact J29 fu _ _ _ _ _ hw (lv_sub hl [1, 0] rfl) hP hS
      · have hw := hw.2 hc
        refine lv_aload_n S.1 S.2.1 dHeap_findFault_10 rfl (lv_at hl 0 rfl) ?_
        refine lv_iload_n S.1 S.2.1 dHeap_findFault_11 rfl (lv_at hl 1 rfl) ?_
        refine lv_iload_n S.1 S.2.1 dHeap_findFault_12 rfl (lv_at hl 1 rfl) ?_
        refine zr_i (zr_V (As := [.int v1, .int v1]) (rest := []) S hK hT hN hP hS (zk (by decide)) (zF_15 _) rfl (cHeap_equal l D cI cC cE ad n ln A hJ _ _ _ _ hw) caHeap_41 ⟨Nat.le_of_ble_eq_true rfl, Nat.le_of_ble_eq_true rfl⟩ ⟨rfl, rfl⟩ rfl hl.1 rfl (Nat.le_of_ble_eq_true rfl) dHeap_findFault_13) hS (fun r13 h13 H locs hw hP hS => ?_)
        refine lv_if_ne S.1 S.2.1 dHeap_findFault_16 rfl (fun hc => ?_) (fun hc => ?_)
        · have hw := hw.1 hc
          refine lv_iinc (v := (v1 + 1)) (lv' := [(1, .int (v1 + 1)), (0, .ref (ad 15))]) (k := 1) S.1 S.2.1 dHeap_findFault_21 hl rfl rfl (by decide) rfl (fun ls hl => ?_)
          refine lv_goto S.1 S.2.1 dHeap_findFault_24 rfl ?_
          exact ih2 _ _ _ _ _ hw (lv_sub hl [1, 0] rfl) hP hS
        · have hw := hw.2 hc
          refine lv_iconst (v := 1) S.1 S.2.1 dHeap_findFault_19 (by decide) ?_
          exact zr_iret S hr hlk hK hP hS rfl hw dHeap_findFault_20
  unfold wpHeap_findFault at hw
  refine lv_iconst (v := 0) S.1 S.2.1 dHeap_findFault_0 (by decide) ?_
  refine lv_istore_n (lv' := [(1, .int 0), (0, .ref (ad 15))]) S.1 S.2.1 dHeap_findFault_1 rfl hl (by decide) rfl (fun ls hl => ?_)
  obtain ⟨fu, hw⟩ := hw
  exact J2 fu _ _ _ _ _ hw (lv_sub hl [1, 0] rfl) hP hS
