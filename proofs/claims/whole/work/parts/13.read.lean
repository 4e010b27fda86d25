/-! predicates and contracts, printed by wip/whole/gen -/
/-! Reader.byteOf -/
theorem dReader_byteOf_0 : decode bReader_byteOf 0 = .ok (.lload_n 1, 1) := by decide +kernel
theorem dReader_byteOf_1 : decode bReader_byteOf 1 = .ok (.bipush 8, 2) := by decide +kernel
theorem dReader_byteOf_3 : decode bReader_byteOf 3 = .ok (.iload_n 3, 1) := by decide +kernel
theorem dReader_byteOf_4 : decode bReader_byteOf 4 = .ok (.imul, 1) := by decide +kernel
theorem dReader_byteOf_5 : decode bReader_byteOf 5 = .ok (.lushr, 1) := by decide +kernel
theorem dReader_byteOf_6 : decode bReader_byteOf 6 = .ok (.ldc2_w 38, 3) := by decide +kernel
theorem dReader_byteOf_9 : decode bReader_byteOf 9 = .ok (.land, 1) := by decide +kernel
theorem dReader_byteOf_10 : decode bReader_byteOf 10 = .ok (.l2i, 1) := by decide +kernel
theorem dReader_byteOf_11 : decode bReader_byteOf 11 = .ok (.ireturn, 1) := by decide +kernel
def wpReader_byteOf (n : Nat) (ln : Nat → Nat) (w1 : Int64) (x3 : Int32) (h : zM) (post : Int32 → zM → Prop) : Prop := post (Int64.toInt32 (((Int64.toUInt64 w1 >>> ((Int32.toInt64 (8 * x3)).toUInt64 &&& Int64.toUInt64 63)).toInt64) &&& 255)) h
abbrev rmReader_byteOf : Room := { frames := 0, cells := 0, slots := 0, locals := 0 }
set_option maxHeartbeats 4000000 in
set_option maxRecDepth 100000 in
theorem cReader_byteOf (l : Launch) (D : va_G) (cI cC cE : ClassId) (ad : Nat → Nat) (n : Nat) (ln : Nat → Nat) (A : Nat → Prop) (hJ : zJ A (34 + 4 * n) ad) (w1 : Int64) (x3 : Int32) (h : zM) (post : Int32 → zM → Prop) (hw : wpReader_byteOf n ln w1 x3 h post) : Met l yReader_byteOf (.code yReader_byteOf bReader_byteOf 4 (some .int) :: zt) rmReader_byteOf (va_Pc [.ref (ad 30), .long w1, .int x3] (zPre D (zty cI cC cE) (34 + 4 * n) ad (zF ad cI cC cE n ln) A h)) (va_Qi post (zPst D (zty cI cC cE) (34 + 4 * n) ad (zF ad cI cC cE n ln)) A) 0 0 A := by
  refine Met.ofW (cc := bReader_byteOf) (maxL := 4) (ret := (some .int)) (by decide) rfl ?_
  intro p e s m args below meth c s₁ B hml hv
  obtain ⟨rfl, hP, hK, hT, hN⟩ := hv
  have hr := B.returns
  have hlk := B.notSynchronized
  have S : zS p m c bReader_byteOf 4 s _ "CallExplorer$Reader" := ⟨B.exec, B.bytes, hml, findClass_of_methodNamed B.named, fun w hw => atoms_spec (ws := .code yReader_byteOf bReader_byteOf 4 (some .int) :: zt) B.pre w (List.mem_cons_of_mem _ hw)⟩
  have hS : va_S A s.heap s.heap [] := va_S.rf
  have hl := lv_entry ([.ref (ad 30), .long w1, .int x3]) (n := 4) (Nat.le_of_ble_eq_true rfl)
  rw [lg_entry_eq]
  generalize (lg_sl ([.ref (ad 30), .long w1, .int x3]) ++ List.replicate (4 - (lg_sl ([.ref (ad 30), .long w1, .int x3])).length) Slot.unset).toArray = ls at hl ⊢
  have hl : lv_has ls 4 [(0, .ref (ad 30)), (1, .long w1), (3, .int x3)] := hl
  show W p l e rmReader_byteOf s m ([.ref (ad 30), .long w1, .int x3] : List Value).toArray below meth c s.heap [] 0 0 (zQi post D (zty cI cC cE) (34 + 4 * n) ad (zF ad cI cC cE n ln) A below ([.ref (ad 30), .long w1, .int x3] : List Value).toArray s) _
  unfold wpReader_byteOf at hw
  refine lv_lload_n S.1 S.2.1 dReader_byteOf_0 rfl (lv_at hl 1 rfl) ?_
  refine lv_bipush (v := 8) S.1 S.2.1 dReader_byteOf_1 (by decide) ?_
  refine lv_iload_n S.1 S.2.1 dReader_byteOf_3 rfl (lv_at hl 2 rfl) ?_
  refine lv_imul S.1 S.2.1 dReader_byteOf_4 ?_
  refine lv_lushr S.1 S.2.1 dReader_byteOf_5 rfl ?_
  refine lv_ldc2 (v := 255) S.1 S.2.1 S.2.2.2.1 (S.2.2.2.2 _ q750) dReader_byteOf_6 ?_
  refine lv_land S.1 S.2.1 dReader_byteOf_9 ?_
  refine lv_l2i S.1 S.2.1 dReader_byteOf_10 rfl ?_
  exact zr_iret S hr hlk hK hP hS rfl hw dReader_byteOf_11
/-! Reader.countBytes -/
theorem dReader_countBytes_0 : decode bReader_countBytes 0 = .ok (.iconst 0, 1) := by decide +kernel
theorem dReader_countBytes_1 : decode bReader_countBytes 1 = .ok (.istore_n 3, 1) := by decide +kernel
theorem dReader_countBytes_2 : decode bReader_countBytes 2 = .ok (.iload_n 3, 1) := by decide +kernel
theorem dReader_countBytes_3 : decode bReader_countBytes 3 = .ok (.bipush 8, 2) := by decide +kernel
theorem dReader_countBytes_5 : decode bReader_countBytes 5 = .ok (.if_icmp .ge 18, 3) := by decide +kernel
theorem dReader_countBytes_8 : decode bReader_countBytes 8 = .ok (.aload_n 0, 1) := by decide +kernel
theorem dReader_countBytes_9 : decode bReader_countBytes 9 = .ok (.lload_n 1, 1) := by decide +kernel
theorem dReader_countBytes_10 : decode bReader_countBytes 10 = .ok (.iload_n 3, 1) := by decide +kernel
theorem dReader_countBytes_11 : decode bReader_countBytes 11 = .ok (.invokevirtual 34, 3) := by decide +kernel
theorem dReader_countBytes_14 : decode bReader_countBytes 14 = .ok (.ifCond .eq 9, 3) := by decide +kernel
theorem dReader_countBytes_17 : decode bReader_countBytes 17 = .ok (.iinc 3 1, 3) := by decide +kernel
theorem dReader_countBytes_20 : decode bReader_countBytes 20 = .ok (.goto (-18), 3) := by decide +kernel
theorem dReader_countBytes_23 : decode bReader_countBytes 23 = .ok (.iload_n 3, 1) := by decide +kernel
theorem dReader_countBytes_24 : decode bReader_countBytes 24 = .ok (.ireturn, 1) := by decide +kernel
def stReader_countBytes_2 (n : Nat) (ln : Nat → Nat) (post : Int32 → zM → Prop) (L2 : (Int64 × Int32 × zM) → Prop) : (Int64 × Int32 × zM) → Prop := fun s => match s with
  | (u1, v3, h) => (((8 ≤ v3) → post v3 h) ∧ (¬ (8 ≤ v3) → wpReader_byteOf n ln u1 v3 h (fun r11 h11 => ((r11 = 0 → post v3 h11) ∧ (¬ r11 = 0 → L2 (u1, (v3 + 1), h11))))))
def wpReader_countBytes (n : Nat) (ln : Nat → Nat) (w1 : Int64) (h : zM) (post : Int32 → zM → Prop) : Prop := zL (stReader_countBytes_2 n ln post) (w1, 0, h)
abbrev rmReader_countBytes : Room := { frames := 1, cells := 0, slots := 0, locals := 23 }
set_option maxHeartbeats 4000000 in
set_option maxRecDepth 100000 in
theorem cReader_countBytes (l : Launch) (D : va_G) (cI cC cE : ClassId) (ad : Nat → Nat) (n : Nat) (ln : Nat → Nat) (A : Nat → Prop) (hJ : zJ A (34 + 4 * n) ad) (w1 : Int64) (h : zM) (post : Int32 → zM → Prop) (hw : wpReader_countBytes n ln w1 h post) : Met l yReader_countBytes (.code yReader_countBytes bReader_countBytes 4 (some .int) :: zt) rmReader_countBytes (va_Pc [.ref (ad 30), .long w1] (zPre D (zty cI cC cE) (34 + 4 * n) ad (zF ad cI cC cE n ln) A h)) (va_Qi post (zPst D (zty cI cC cE) (34 + 4 * n) ad (zF ad cI cC cE n ln)) A) 0 0 A := by
  refine Met.ofW (cc := bReader_countBytes) (maxL := 4) (ret := (some .int)) (by decide) rfl ?_
  intro p e s m args below meth c s₁ B hml hv
  obtain ⟨rfl, hP, hK, hT, hN⟩ := hv
  have hr := B.returns
  have hlk := B.notSynchronized
  have S : zS p m c bReader_countBytes 4 s _ "CallExplorer$Reader" := ⟨B.exec, B.bytes, hml, findClass_of_methodNamed B.named, fun w hw => atoms_spec (ws := .code yReader_countBytes bReader_countBytes 4 (some .int) :: zt) B.pre w (List.mem_cons_of_mem _ hw)⟩
  have hS : va_S A s.heap s.heap [] := va_S.rf
  have hl := lv_entry ([.ref (ad 30), .long w1]) (n := 4) (Nat.le_of_ble_eq_true rfl)
  rw [lg_entry_eq]
  generalize (lg_sl ([.ref (ad 30), .long w1]) ++ List.replicate (4 - (lg_sl ([.ref (ad 30), .long w1])).length) Slot.unset).toArray = ls at hl ⊢
  have hl : lv_has ls 4 [(0, .ref (ad 30)), (1, .long w1)] := hl
  show W p l e rmReader_countBytes s m ([.ref (ad 30), .long w1] : List Value).toArray below meth c s.heap [] 0 0 (zQi post D (zty cI cC cE) (34 + 4 * n) ad (zF ad cI cC cE n ln) A below ([.ref (ad 30), .long w1] : List Value).toArray s) _
  have J2 : ∀ (fu : Nat) (u1 : Int64) (v3 : Int32) (h : zM) (H : Heap) (locs : List Loc) (ls : Array Slot), zl (stReader_countBytes_2 n ln post) fu (u1, v3, h) → lv_has ls 4 [(0, .ref (ad 30)), (1, .long u1), (3, .int v3)] → va_P D zcl (zW (34 + 4 * n) ad (zF ad cI cC cE n ln) h) H → va_S A s.heap H locs → W p l e rmReader_countBytes s m ([.ref (ad 30), .long w1] : List Value).toArray below meth c H locs 0 0 (zQi post D (zty cI cC cE) (34 + 4 * n) ad (zF ad cI cC cE n ln) A below ([.ref (ad 30), .long w1] : List Value).toArray s) (F0 m 2 ls []) := by
    intro fu2
    induction fu2 with
    | zero =>
      intro u1 v3 h H locs ls hw
      exact (zl_0 hw).elim
    | succ fu2 ih2 =>
      intro u1 v3 h H locs ls hw hl hP hS
      have hw := zl_s hw
      generalize zl (stReader_countBytes_2 n ln post) fu2 = L2 at hw ih2
      unfold stReader_countBytes_2 at hw
      dsimp only at hw
      refine lv_iload_n S.1 S.2.1 dReader_countBytes_2 rfl (lv_at hl 2 rfl) ?_
      refine lv_bipush (v := 8) S.1 S.2.1 dReader_countBytes_3 (by decide) ?_
      refine lv_icmp_ge S.1 S.2.1 dReader_countBytes_5 rfl (fun hc => ?_) (fun hc => ?_)
      · have hw := hw.1 hc
        refine lv_iload_n S.1 S.2.1 dReader_countBytes_23 rfl (lv_at hl 2 rfl) ?_
        exact zr_iret S hr hlk hK hP hS rfl hw dReader_countBytes_24
      · have hw := hw.2 hc
        refine lv_aload_n S.1 S.2.1 dReader_countBytes_8 rfl (lv_at hl 0 rfl) ?_
        refine lv_lload_n S.1 S.2.1 dReader_countBytes_9 rfl (lv_at hl 1 rfl) ?_
        refine lv_iload_n S.1 S.2.1 dReader_countBytes_10 rfl (lv_at hl 2 rfl) ?_
        refine zr_i (zr_V (As := [.long u1, .int v3]) (rest := []) S hK hT hN hP hS (zk (by decide)) (zF_30 _) rfl (cReader_byteOf l D cI cC cE ad n ln A hJ _ _ _ _ hw) caReader_34 ⟨Nat.le_of_ble_eq_true rfl, Nat.le_of_ble_eq_true rfl⟩ ⟨rfl, rfl⟩ rfl hl.1 rfl (Nat.le_of_ble_eq_true rfl) dReader_countBytes_11) hS (fun r11 h11 H locs hw hP hS => ?_)
        refine lv_if_eq S.1 S.2.1 dReader_countBytes_14 rfl (fun hc => ?_) (fun hc => ?_)
        · have hw := hw.1 hc
          refine lv_iload_n S.1 S.2.1 dReader_countBytes_23 rfl (lv_at hl 2 rfl) ?_
          exact zr_iret S hr hlk hK hP hS rfl hw dReader_countBytes_24
        · have hw := hw.2 hc
          refine lv_iinc (v := (v3 + 1)) (lv' := [(3, .int (v3 + 1)), (0, .ref (ad 30)), (1, .long u1)]) (k := 2) S.1 S.2.1 dReader_countBytes_17 hl rfl rfl (by decide) rfl (fun ls hl => ?_)
          refine lv_goto S.1 S.2.1 dReader_countBytes_20 rfl ?_
          exact ih2 _ _ _ _ _ _ hw (lv_sub hl [1, 2, 0] rfl) hP hS
  unfold wpReader_countBytes at hw
  refine lv_iconst (v := 0) S.1 S.2.1 dReader_countBytes_0 (by decide) ?_
  refine lv_istore_n (lv' := [(3, .int 0), (0, .ref (ad 30)), (1, .long w1)]) S.1 S.2.1 dReader_countBytes_1 rfl hl (by decide) rfl (fun ls hl => ?_)
  obtain ⟨fu, hw⟩ := hw
  exact J2 fu _ _ _ _ _ _ hw (lv_sub hl [1, 2, 0] rfl) hP hS
/-! Reader.addToDraft -/
theorem dReader_addToDraft_0 : decode bReader_addToDraft 0 = .ok (.lload_n 1, 1) := by decide +kernel
theorem dReader_addToDraft_1 : decode bReader_addToDraft 1 = .ok (.lconst 0, 1) := by decide +kernel
theorem dReader_addToDraft_2 : decode bReader_addToDraft 2 = .ok (.lcmp, 1) := by decide +kernel
theorem dReader_addToDraft_3 : decode bReader_addToDraft 3 = .ok (.ifCond .ne 10, 3) := by decide +kernel
theorem dReader_addToDraft_6 : decode bReader_addToDraft 6 = .ok (.aload_n 0, 1) := by decide +kernel
theorem dReader_addToDraft_7 : decode bReader_addToDraft 7 = .ok (.iconst 0, 1) := by decide +kernel
theorem dReader_addToDraft_8 : decode bReader_addToDraft 8 = .ok (.putfield 26, 3) := by decide +kernel
theorem dReader_addToDraft_11 : decode bReader_addToDraft 11 = .ok (.iconst 1, 1) := by decide +kernel
theorem dReader_addToDraft_12 : decode bReader_addToDraft 12 = .ok (.ireturn, 1) := by decide +kernel
theorem dReader_addToDraft_13 : decode bReader_addToDraft 13 = .ok (.aload_n 0, 1) := by decide +kernel
theorem dReader_addToDraft_14 : decode bReader_addToDraft 14 = .ok (.lload_n 1, 1) := by decide +kernel
theorem dReader_addToDraft_15 : decode bReader_addToDraft 15 = .ok (.invokevirtual 30, 3) := by decide +kernel
theorem dReader_addToDraft_18 : decode bReader_addToDraft 18 = .ok (.istore_n 3, 1) := by decide +kernel
theorem dReader_addToDraft_19 : decode bReader_addToDraft 19 = .ok (.iload_n 3, 1) := by decide +kernel
theorem dReader_addToDraft_20 : decode bReader_addToDraft 20 = .ok (.ifCond .eq 15, 3) := by decide +kernel
theorem dReader_addToDraft_23 : decode bReader_addToDraft 23 = .ok (.aload_n 0, 1) := by decide +kernel
theorem dReader_addToDraft_24 : decode bReader_addToDraft 24 = .ok (.getfield 26, 3) := by decide +kernel
theorem dReader_addToDraft_27 : decode bReader_addToDraft 27 = .ok (.iload_n 3, 1) := by decide +kernel
theorem dReader_addToDraft_28 : decode bReader_addToDraft 28 = .ok (.iadd, 1) := by decide +kernel
theorem dReader_addToDraft_29 : decode bReader_addToDraft 29 = .ok (.sipush 200, 3) := by decide +kernel
theorem dReader_addToDraft_32 : decode bReader_addToDraft 32 = .ok (.if_icmp .le 5, 3) := by decide +kernel
theorem dReader_addToDraft_35 : decode bReader_addToDraft 35 = .ok (.iconst 0, 1) := by decide +kernel
theorem dReader_addToDraft_36 : decode bReader_addToDraft 36 = .ok (.ireturn, 1) := by decide +kernel
theorem dReader_addToDraft_37 : decode bReader_addToDraft 37 = .ok (.iconst 0, 1) := by decide +kernel
theorem dReader_addToDraft_38 : decode bReader_addToDraft 38 = .ok (.istore 4, 2) := by decide +kernel
theorem dReader_addToDraft_40 : decode bReader_addToDraft 40 = .ok (.iload 4, 2) := by decide +kernel
theorem dReader_addToDraft_42 : decode bReader_addToDraft 42 = .ok (.iload_n 3, 1) := by decide +kernel
theorem dReader_addToDraft_43 : decode bReader_addToDraft 43 = .ok (.if_icmp .ge 35, 3) := by decide +kernel
theorem dReader_addToDraft_46 : decode bReader_addToDraft 46 = .ok (.aload_n 0, 1) := by decide +kernel
theorem dReader_addToDraft_47 : decode bReader_addToDraft 47 = .ok (.lload_n 1, 1) := by decide +kernel
theorem dReader_addToDraft_48 : decode bReader_addToDraft 48 = .ok (.iload 4, 2) := by decide +kernel
theorem dReader_addToDraft_50 : decode bReader_addToDraft 50 = .ok (.invokevirtual 34, 3) := by decide +kernel
theorem dReader_addToDraft_53 : decode bReader_addToDraft 53 = .ok (.bipush 32, 2) := by decide +kernel
theorem dReader_addToDraft_55 : decode bReader_addToDraft 55 = .ok (.if_icmp .lt 15, 3) := by decide +kernel
theorem dReader_addToDraft_58 : decode bReader_addToDraft 58 = .ok (.aload_n 0, 1) := by decide +kernel
theorem dReader_addToDraft_59 : decode bReader_addToDraft 59 = .ok (.lload_n 1, 1) := by decide +kernel
theorem dReader_addToDraft_60 : decode bReader_addToDraft 60 = .ok (.iload 4, 2) := by decide +kernel
theorem dReader_addToDraft_62 : decode bReader_addToDraft 62 = .ok (.invokevirtual 34, 3) := by decide +kernel
theorem dReader_addToDraft_65 : decode bReader_addToDraft 65 = .ok (.bipush 126, 2) := by decide +kernel
theorem dReader_addToDraft_67 : decode bReader_addToDraft 67 = .ok (.if_icmp .le 5, 3) := by decide +kernel
theorem dReader_addToDraft_70 : decode bReader_addToDraft 70 = .ok (.iconst 0, 1) := by decide +kernel
theorem dReader_addToDraft_71 : decode bReader_addToDraft 71 = .ok (.ireturn, 1) := by decide +kernel
theorem dReader_addToDraft_72 : decode bReader_addToDraft 72 = .ok (.iinc 4 1, 3) := by decide +kernel
theorem dReader_addToDraft_75 : decode bReader_addToDraft 75 = .ok (.goto (-35), 3) := by decide +kernel
theorem dReader_addToDraft_78 : decode bReader_addToDraft 78 = .ok (.iconst 0, 1) := by decide +kernel
theorem dReader_addToDraft_79 : decode bReader_addToDraft 79 = .ok (.istore 4, 2) := by decide +kernel
theorem dReader_addToDraft_81 : decode bReader_addToDraft 81 = .ok (.iload 4, 2) := by decide +kernel
theorem dReader_addToDraft_83 : decode bReader_addToDraft 83 = .ok (.iload_n 3, 1) := by decide +kernel
theorem dReader_addToDraft_84 : decode bReader_addToDraft 84 = .ok (.if_icmp .ge 29, 3) := by decide +kernel
theorem dReader_addToDraft_87 : decode bReader_addToDraft 87 = .ok (.aload_n 0, 1) := by decide +kernel
theorem dReader_addToDraft_88 : decode bReader_addToDraft 88 = .ok (.getfield 9, 3) := by decide +kernel
theorem dReader_addToDraft_91 : decode bReader_addToDraft 91 = .ok (.aload_n 0, 1) := by decide +kernel
theorem dReader_addToDraft_92 : decode bReader_addToDraft 92 = .ok (.getfield 26, 3) := by decide +kernel
theorem dReader_addToDraft_95 : decode bReader_addToDraft 95 = .ok (.iload 4, 2) := by decide +kernel
theorem dReader_addToDraft_97 : decode bReader_addToDraft 97 = .ok (.iadd, 1) := by decide +kernel
theorem dReader_addToDraft_98 : decode bReader_addToDraft 98 = .ok (.aload_n 0, 1) := by decide +kernel
theorem dReader_addToDraft_99 : decode bReader_addToDraft 99 = .ok (.lload_n 1, 1) := by decide +kernel
theorem dReader_addToDraft_100 : decode bReader_addToDraft 100 = .ok (.iload 4, 2) := by decide +kernel
theorem dReader_addToDraft_102 : decode bReader_addToDraft 102 = .ok (.invokevirtual 34, 3) := by decide +kernel
theorem dReader_addToDraft_105 : decode bReader_addToDraft 105 = .ok (.i2c, 1) := by decide +kernel
theorem dReader_addToDraft_106 : decode bReader_addToDraft 106 = .ok (.castore, 1) := by decide +kernel
theorem dReader_addToDraft_107 : decode bReader_addToDraft 107 = .ok (.iinc 4 1, 3) := by decide +kernel
theorem dReader_addToDraft_110 : decode bReader_addToDraft 110 = .ok (.goto (-29), 3) := by decide +kernel
theorem dReader_addToDraft_113 : decode bReader_addToDraft 113 = .ok (.aload_n 0, 1) := by decide +kernel
theorem dReader_addToDraft_114 : decode bReader_addToDraft 114 = .ok (.dup, 1) := by decide +kernel
theorem dReader_addToDraft_115 : decode bReader_addToDraft 115 = .ok (.getfield 26, 3) := by decide +kernel
theorem dReader_addToDraft_118 : decode bReader_addToDraft 118 = .ok (.iload_n 3, 1) := by decide +kernel
theorem dReader_addToDraft_119 : decode bReader_addToDraft 119 = .ok (.iadd, 1) := by decide +kernel
theorem dReader_addToDraft_120 : decode bReader_addToDraft 120 = .ok (.putfield 26, 3) := by decide +kernel
theorem dReader_addToDraft_123 : decode bReader_addToDraft 123 = .ok (.iconst 1, 1) := by decide +kernel
theorem dReader_addToDraft_124 : decode bReader_addToDraft 124 = .ok (.ireturn, 1) := by decide +kernel
def stReader_addToDraft_81 (n : Nat) (ln : Nat → Nat) (post : Int32 → zM → Prop) (L81 : (Int64 × Int32 × Int32 × zM) → Prop) : (Int64 × Int32 × Int32 × zM) → Prop := fun s => match s with
  | (u1, v3, v4, h) => (((v3 ≤ v4) → ∀ h120 : zM, h120 = zu h 30 2 ((h 30 2) + v3) → post 1 h120) ∧ (¬ (v3 ≤ v4) → wpReader_byteOf n ln u1 v4 h (fun r102 h102 => (vp_in ((h 30 2) + v4) 200 ∧ ∀ h106 : zM, h106 = zu h102 31 (Int32.toNatClampNeg ((h 30 2) + v4)) (vp_nar .char ((Int32.toUInt32 r102 % 65536).toInt32)) → L81 (u1, v3, (v4 + 1), h106)))))
def stReader_addToDraft_40 (n : Nat) (ln : Nat → Nat) (post : Int32 → zM → Prop) (L40 : (Int64 × Int32 × Int32 × zM) → Prop) : (Int64 × Int32 × Int32 × zM) → Prop := fun s => match s with
  | (u1, v3, v4, h) => (((v3 ≤ v4) → zL (stReader_addToDraft_81 n ln post) (u1, v3, 0, h)) ∧ (¬ (v3 ≤ v4) → wpReader_byteOf n ln u1 v4 h (fun r50 h50 => (((r50 < 32) → post 0 h50) ∧ (¬ (r50 < 32) → wpReader_byteOf n ln u1 v4 h50 (fun r62 h62 => (((r62 ≤ 126) → L40 (u1, v3, (v4 + 1), h62)) ∧ (¬ (r62 ≤ 126) → post 0 h62))))))))
def wpReader_addToDraft (n : Nat) (ln : Nat → Nat) (w1 : Int64) (h : zM) (post : Int32 → zM → Prop) : Prop := ((¬ (lg_cmp w1 0) = 0 → wpReader_countBytes n ln w1 h (fun r15 h15 => ((r15 = 0 → post 0 h15) ∧ (¬ r15 = 0 → (((((h15 30 2) + r15) ≤ 200) → zL (stReader_addToDraft_40 n ln post) (w1, r15, 0, h15)) ∧ (¬ (((h15 30 2) + r15) ≤ 200) → post 0 h15)))))) ∧ ((lg_cmp w1 0) = 0 → ∀ h8 : zM, h8 = zu h 30 2 0 → post 1 h8))
abbrev rmReader_addToDraft : Room := { frames := 2, cells := 0, slots := 0, locals := 46 }
set_option maxHeartbeats 4000000 in
set_option maxRecDepth 100000 in
theorem cReader_addToDraft (l : Launch) (D : va_G) (cI cC cE : ClassId) (ad : Nat → Nat) (n : Nat) (ln : Nat → Nat) (A : Nat → Prop) (hJ : zJ A (34 + 4 * n) ad) (w1 : Int64) (h : zM) (post : Int32 → zM → Prop) (hw : wpReader_addToDraft n ln w1 h post) : Met l yReader_addToDraft (.code yReader_addToDraft bReader_addToDraft 5 (some .boolean) :: zt) rmReader_addToDraft (va_Pc [.ref (ad 30), .long w1] (zPre D (zty cI cC cE) (34 + 4 * n) ad (zF ad cI cC cE n ln) A h)) (va_Qi post (zPst D (zty cI cC cE) (34 + 4 * n) ad (zF ad cI cC cE n ln)) A) 0 0 A := by
  refine Met.ofW (cc := bReader_addToDraft) (maxL := 5) (ret := (some .boolean)) (by decide) rfl ?_
  intro p e s m args below meth c s₁ B hml hv
  obtain ⟨rfl, hP, hK, hT, hN⟩ := hv
  have hr := B.returns
  have hlk := B.notSynchronized
  have S : zS p m c bReader_addToDraft 5 s _ "CallExplorer$Reader" := ⟨B.exec, B.bytes, hml, findClass_of_methodNamed B.named, fun w hw => atoms_spec (ws := .code yReader_addToDraft bReader_addToDraft 5 (some .boolean) :: zt) B.pre w (List.mem_cons_of_mem _ hw)⟩
  have hS : va_S A s.heap s.heap [] := va_S.rf
  have hl := lv_entry ([.ref (ad 30), .long w1]) (n := 5) (Nat.le_of_ble_eq_true rfl)
  rw [lg_entry_eq]
  generalize (lg_sl ([.ref (ad 30), .long w1]) ++ List.replicate (5 - (lg_sl ([.ref (ad 30), .long w1])).length) Slot.unset).toArray = ls at hl ⊢
  have hl : lv_has ls 5 [(0, .ref (ad 30)), (1, .long w1)] := hl
  show W p l e rmReader_addToDraft s m ([.ref (ad 30), .long w1] : List Value).toArray below meth c s.heap [] 0 0 (zQi post D (zty cI cC cE) (34 + 4 * n) ad (zF ad cI cC cE n ln) A below ([.ref (ad 30), .long w1] : List Value).toArray s) _
  have J81 : ∀ (fu : Nat) (u1 : Int64) (v3 : Int32) (v4 : Int32) (h : zM) (H : Heap) (locs : List Loc) (ls : Array Slot), zl (stReader_addToDraft_81 n ln post) fu (u1, v3, v4, h) → lv_has ls 5 [(0, .ref (ad 30)), (1, .long u1), (3, .int v3), (4, .int v4)] → va_P D zcl (zW (34 + 4 * n) ad (zF ad cI cC cE n ln) h) H → va_S A s.heap H locs → W p l e rmReader_addToDraft s m ([.ref (ad 30), .long w1] : List Value).toArray below meth c H locs 0 0 (zQi post D (zty cI cC cE) (34 + 4 * n) ad (zF ad cI cC cE n ln) A below ([.ref (ad 30), .long w1] : List Value).toArray s) (F0 m 81 ls []) := by
    intro fu81
    induction fu81 with
    | zero =>
      intro u1 v3 v4 h H locs ls hw
      exact (zl_0 hw).elim
    | succ fu81 ih81 =>
      intro u1 v3 v4 h H locs ls hw hl hP hS
      have hw := zl_s hw
      generalize zl (stReader_addToDraft_81 n ln post) fu81 = L81 at hw ih81
      unfold stReader_addToDraft_81 at hw
      dsimp only at hw
      refine lv_iload S.1 S.2.1 dReader_addToDraft_81 (lv_at hl 3 rfl) ?_
      refine lv_iload_n S.1 S.2.1 dReader_addToDraft_83 rfl (lv_at hl 2 rfl) ?_
      refine lv_icmp_ge S.1 S.2.1 dReader_addToDraft_84 rfl (fun hc => ?_) (fun hc => ?_)
      · have hw := hw.1 hc
        refine lv_aload_n S.1 S.2.1 dReader_addToDraft_113 rfl (lv_at hl 0 rfl) ?_
        refine lv_dup S.1 S.2.1 dReader_addToDraft_114 rfl ?_
        refine zr_get S hK hP (zk (by decide)) (zF_30 _) fReader_length q265 rfl dReader_addToDraft_115 ?_
        refine lv_iload_n S.1 S.2.1 dReader_addToDraft_118 rfl (lv_at hl 2 rfl) ?_
        refine lv_iadd S.1 S.2.1 dReader_addToDraft_119 ?_
        refine zr_put S hK hJ hP hS (zk (by decide)) (zF_30 _) fReader_length q265 rfl rfl (Nat.le_of_ble_eq_true rfl) (zF_30 _) dReader_addToDraft_120 (fun h120 H locs e120 hP hS => ?_)
        have hw := hw h120 e120
        refine lv_iconst (v := 1) S.1 S.2.1 dReader_addToDraft_123 (by decide) ?_
        exact zr_iret S hr hlk hK hP hS rfl hw dReader_addToDraft_124
      · have hw := hw.2 hc
        refine lv_aload_n S.1 S.2.1 dReader_addToDraft_87 rfl (lv_at hl 0 rfl) ?_
        refine zr_get S hK hP (zk (by decide)) (zF_30 _) fReader_letters q264 rfl dReader_addToDraft_88 ?_
        refine lv_aload_n S.1 S.2.1 dReader_addToDraft_91 rfl (lv_at hl 0 rfl) ?_
        refine zr_get S hK hP (zk (by decide)) (zF_30 _) fReader_length q265 rfl dReader_addToDraft_92 ?_
        refine lv_iload S.1 S.2.1 dReader_addToDraft_95 (lv_at hl 3 rfl) ?_
        refine lv_iadd S.1 S.2.1 dReader_addToDraft_97 ?_
        refine lv_aload_n S.1 S.2.1 dReader_addToDraft_98 rfl (lv_at hl 0 rfl) ?_
        refine lv_lload_n S.1 S.2.1 dReader_addToDraft_99 rfl (lv_at hl 1 rfl) ?_
        refine lv_iload S.1 S.2.1 dReader_addToDraft_100 (lv_at hl 3 rfl) ?_
        refine zr_i (zr_V (As := [.long u1, .int v4]) (rest := [.int ((h 30 2) + v4), .ref (ad 31)]) S hK hT hN hP hS (zk (by decide)) (zF_30 _) rfl (cReader_byteOf l D cI cC cE ad n ln A hJ _ _ _ _ hw) caReader_34 ⟨Nat.le_of_ble_eq_true rfl, Nat.le_of_ble_eq_true rfl⟩ ⟨rfl, rfl⟩ rfl hl.1 rfl (Nat.le_of_ble_eq_true rfl) dReader_addToDraft_102) hS (fun r102 h102 H locs hw hP hS => ?_)
        refine lv_i2c S.1 S.2.1 dReader_addToDraft_105 rfl ?_
        obtain ⟨z106, hw⟩ := hw
        refine zr_cst S hK hJ hP hS (zk (by decide)) zF_31 1 rfl z106 dReader_addToDraft_106 (fun h106 H locs e106 hP hS => ?_)
        have hw := hw h106 e106
        refine lv_iinc (v := (v4 + 1)) (lv' := [(4, .int (v4 + 1)), (0, .ref (ad 30)), (1, .long u1), (3, .int v3)]) (k := 3) S.1 S.2.1 dReader_addToDraft_107 hl rfl rfl (by decide) rfl (fun ls hl => ?_)
        refine lv_goto S.1 S.2.1 dReader_addToDraft_110 rfl ?_
        exact ih81 _ _ _ _ _ _ _ hw (lv_sub hl [1, 2, 3, 0] rfl) hP hS
  have J40 : ∀ (fu : Nat) (u1 : Int64) (v3 : Int32) (v4 : Int32) (h : zM) (H : Heap) (locs : List Loc) (ls : Array Slot), zl (stReader_addToDraft_40 n ln post) fu (u1, v3, v4, h) → lv_has ls 5 [(0, .ref (ad 30)), (1, .long u1), (3, .int v3), (4, .int v4)] → va_P D zcl (zW (34 + 4 * n) ad (zF ad cI cC cE n ln) h) H → va_S A s.heap H locs → W p l e rmReader_addToDraft s m ([.ref (ad 30), .long w1] : List Value).toArray below meth c H locs 0 0 (zQi post D (zty cI cC cE) (34 + 4 * n) ad (zF ad cI cC cE n ln) A below ([.ref (ad 30), .long w1] : List Value).toArray s) (F0 m 40 ls []) := by
    intro fu40
    induction fu40 with
    | zero =>
      intro u1 v3 v4 h H locs ls hw
      exact (zl_0 hw).elim
    | succ fu40 ih40 =>
      intro u1 v3 v4 h H locs ls hw hl hP hS
      have hw := zl_s hw
      generalize zl (stReader_addToDraft_40 n ln post) fu40 = L40 at hw ih40
      unfold stReader_addToDraft_40 at hw
      dsimp only at hw
      refine lv_iload S.1 S.2.1 dReader_addToDraft_40 (lv_at hl 3 rfl) ?_
      refine lv_iload_n S.1 S.2.1 dReader_addToDraft_42 rfl (lv_at hl 2 rfl) ?_
      refine lv_icmp_ge S.1 S.2.1 dReader_addToDraft_43 rfl (fun hc => ?_) (fun hc => ?_)
      · have hw := hw.1 hc
        refine lv_iconst (v := 0) S.1 S.2.1 dReader_addToDraft_78 (by decide) ?_
        refine lv_istore (lv' := [(4, .int 0), (0, .ref (ad 30)), (1, .long u1), (3, .int v3)]) S.1 S.2.1 dReader_addToDraft_79 hl (by decide) rfl (fun ls hl => ?_)
        obtain ⟨fu, hw⟩ := hw
        exact J81 fu _ _ _ _ _ _ _ hw (lv_sub hl [1, 2, 3, 0] rfl) hP hS
      · have hw := hw.2 hc
        refine lv_aload_n S.1 S.2.1 dReader_addToDraft_46 rfl (lv_at hl 0 rfl) ?_
        refine lv_lload_n S.1 S.2.1 dReader_addToDraft_47 rfl (lv_at hl 1 rfl) ?_
        refine lv_iload S.1 S.2.1 dReader_addToDraft_48 (lv_at hl 3 rfl) ?_
        refine zr_i (zr_V (As := [.long u1, .int v4]) (rest := []) S hK hT hN hP hS (zk (by decide)) (zF_30 _) rfl (cReader_byteOf l D cI cC cE ad n ln A hJ _ _ _ _ hw) caReader_34 ⟨Nat.le_of_ble_eq_true rfl, Nat.le_of_ble_eq_true rfl⟩ ⟨rfl, rfl⟩ rfl hl.1 rfl (Nat.le_of_ble_eq_true rfl) dReader_addToDraft_50) hS (fun r50 h50 H locs hw hP hS => ?_)
        refine lv_bipush (v := 32) S.1 S.2.1 dReader_addToDraft_53 (by decide) ?_
        refine lv_icmp_lt S.1 S.2.1 dReader_addToDraft_55 rfl (fun hc => ?_) (fun hc => ?_)
        · have hw := hw.1 hc
          refine lv_iconst (v := 0) S.1 S.2.1 dReader_addToDraft_70 (by decide) ?_
          exact zr_iret S hr hlk hK hP hS rfl hw dReader_addToDraft_71
        · have hw := hw.2 hc
          refine lv_aload_n S.1 S.2.1 dReader_addToDraft_58 rfl (lv_at hl 0 rfl) ?_
          refine lv_lload_n S.1 S.2.1 dReader_addToDraft_59 rfl (lv_at hl 1 rfl) ?_
          refine lv_iload S.1 S.2.1 dReader_addToDraft_60 (lv_at hl 3 rfl) ?_
          refine zr_i (zr_V (As := [.long u1, .int v4]) (rest := []) S hK hT hN hP hS (zk (by decide)) (zF_30 _) rfl (cReader_byteOf l D cI cC cE ad n ln A hJ _ _ _ _ hw) caReader_34 ⟨Nat.le_of_ble_eq_true rfl, Nat.le_of_ble_eq_true rfl⟩ ⟨rfl, rfl⟩ rfl hl.1 rfl (Nat.le_of_ble_eq_true rfl) dReader_addToDraft_62) hS (fun r62 h62 H locs hw hP hS => ?_)
          refine lv_bipush (v := 126) S.1 S.2.1 dReader_addToDraft_65 (by decide) ?_
          refine lv_icmp_le S.1 S.2.1 dReader_addToDraft_67 rfl (fun hc => ?_) (fun hc => ?_)
          · have hw := hw.1 hc
            refine lv_iinc (v := (v4 + 1)) (lv' := [(4, .int (v4 + 1)), (0, .ref (ad 30)), (1, .long u1), (3, .int v3)]) (k := 3) S.1 S.2.1 dReader_addToDraft_72 hl rfl rfl (by decide) rfl (fun ls hl => ?_)
            refine lv_goto S.1 S.2.1 dReader_addToDraft_75 rfl ?_
            exact ih40 _ _ _ _ _ _ _ hw (lv_sub hl [1, 2, 3, 0] rfl) hP hS
          · have hw := hw.2 hc
            refine lv_iconst (v := 0) S.1 S.2.1 dReader_addToDraft_70 (by decide) ?_
            exact zr_iret S hr hlk hK hP hS rfl hw dReader_addToDraft_71
  unfold wpReader_addToDraft at hw
  refine lv_lload_n S.1 S.2.1 dReader_addToDraft_0 rfl (lv_at hl 1 rfl) ?_
  refine lv_lconst (v := 0) S.1 S.2.1 dReader_addToDraft_1 (by decide) ?_
  refine W.lcmp S.1 S.2.1 dReader_addToDraft_2 ?_
  refine lv_if_ne S.1 S.2.1 dReader_addToDraft_3 rfl (fun hc => ?_) (fun hc => ?_)
  · have hw := hw.1 hc
    refine lv_aload_n S.1 S.2.1 dReader_addToDraft_13 rfl (lv_at hl 0 rfl) ?_
    refine lv_lload_n S.1 S.2.1 dReader_addToDraft_14 rfl (lv_at hl 1 rfl) ?_
    refine zr_i (zr_V (As := [.long w1]) (rest := []) S hK hT hN hP hS (zk (by decide)) (zF_30 _) rfl (cReader_countBytes l D cI cC cE ad n ln A hJ _ _ _ hw) caReader_30 ⟨Nat.le_of_ble_eq_true rfl, Nat.le_of_ble_eq_true rfl⟩ ⟨rfl, rfl⟩ rfl hl.1 rfl (Nat.le_of_ble_eq_true rfl) dReader_addToDraft_15) hS (fun r15 h15 H locs hw hP hS => ?_)
    refine lv_istore_n (lv' := [(3, .int r15), (0, .ref (ad 30)), (1, .long w1)]) S.1 S.2.1 dReader_addToDraft_18 rfl hl (by decide) rfl (fun ls hl => ?_)
    refine lv_iload_n S.1 S.2.1 dReader_addToDraft_19 rfl (lv_at hl 0 rfl) ?_
    refine lv_if_eq S.1 S.2.1 dReader_addToDraft_20 rfl (fun hc => ?_) (fun hc => ?_)
    · have hw := hw.1 hc
      refine lv_iconst (v := 0) S.1 S.2.1 dReader_addToDraft_35 (by decide) ?_
      exact zr_iret S hr hlk hK hP hS rfl hw dReader_addToDraft_36
    · have hw := hw.2 hc
      refine lv_aload_n S.1 S.2.1 dReader_addToDraft_23 rfl (lv_at hl 1 rfl) ?_
      refine zr_get S hK hP (zk (by decide)) (zF_30 _) fReader_length q265 rfl dReader_addToDraft_24 ?_
      refine lv_iload_n S.1 S.2.1 dReader_addToDraft_27 rfl (lv_at hl 0 rfl) ?_
      refine lv_iadd S.1 S.2.1 dReader_addToDraft_28 ?_
      refine lv_sipush (v := 200) S.1 S.2.1 dReader_addToDraft_29 (by decide) ?_
      refine lv_icmp_le S.1 S.2.1 dReader_addToDraft_32 rfl (fun hc => ?_) (fun hc => ?_)
      · have hw := hw.1 hc
        refine lv_iconst (v := 0) S.1 S.2.1 dReader_addToDraft_37 (by decide) ?_
        refine lv_istore (lv' := [(4, .int 0), (3, .int r15), (0, .ref (ad 30)), (1, .long w1)]) S.1 S.2.1 dReader_addToDraft_38 hl (by decide) rfl (fun ls hl => ?_)
        obtain ⟨fu, hw⟩ := hw
        exact J40 fu _ _ _ _ _ _ _ hw (lv_sub hl [2, 3, 1, 0] rfl) hP hS
      · have hw := hw.2 hc
        refine lv_iconst (v := 0) S.1 S.2.1 dReader_addToDraft_35 (by decide) ?_
        exact zr_iret S hr hlk hK hP hS rfl hw dReader_addToDraft_36
  · have hw := hw.2 hc
    refine lv_aload_n S.1 S.2.1 dReader_addToDraft_6 rfl (lv_at hl 0 rfl) ?_
    refine lv_iconst (v := 0) S.1 S.2.1 dReader_addToDraft_7 (by decide) ?_
    refine zr_put S hK hJ hP hS (zk (by decide)) (zF_30 _) fReader_length q265 rfl rfl (Nat.le_of_ble_eq_true rfl) (zF_30 _) dReader_addToDraft_8 (fun h8 H locs e8 hP hS => ?_)
    have hw := hw h8 e8
    refine lv_iconst (v := 1) S.1 S.2.1 dReader_addToDraft_11 (by decide) ?_
    exact zr_iret S hr hlk hK hP hS rfl hw dReader_addToDraft_12
/-! Reader.peek -/
theorem dReader_peek_0 : decode bReader_peek 0 = .ok (.aload_n 0, 1) := by decide +kernel
theorem dReader_peek_1 : decode bReader_peek 1 = .ok (.getfield 40, 3) := by decide +kernel
theorem dReader_peek_4 : decode bReader_peek 4 = .ok (.aload_n 0, 1) := by decide +kernel
theorem dReader_peek_5 : decode bReader_peek 5 = .ok (.getfield 26, 3) := by decide +kernel
theorem dReader_peek_8 : decode bReader_peek 8 = .ok (.if_icmp .ge 15, 3) := by decide +kernel
theorem dReader_peek_11 : decode bReader_peek 11 = .ok (.aload_n 0, 1) := by decide +kernel
theorem dReader_peek_12 : decode bReader_peek 12 = .ok (.getfield 9, 3) := by decide +kernel
theorem dReader_peek_15 : decode bReader_peek 15 = .ok (.aload_n 0, 1) := by decide +kernel
theorem dReader_peek_16 : decode bReader_peek 16 = .ok (.getfield 40, 3) := by decide +kernel
theorem dReader_peek_19 : decode bReader_peek 19 = .ok (.caload, 1) := by decide +kernel
theorem dReader_peek_20 : decode bReader_peek 20 = .ok (.goto 4, 3) := by decide +kernel
theorem dReader_peek_23 : decode bReader_peek 23 = .ok (.iconst 0, 1) := by decide +kernel
theorem dReader_peek_24 : decode bReader_peek 24 = .ok (.ireturn, 1) := by decide +kernel
def wpReader_peek (n : Nat) (ln : Nat → Nat) (h : zM) (post : Int32 → zM → Prop) : Prop := ((((h 30 2) ≤ (h 30 4)) → post 0 h) ∧ (¬ ((h 30 2) ≤ (h 30 4)) → (vp_in (h 30 4) 200 ∧ (narrow .char (.int (h 31 (Int32.toNatClampNeg (h 30 4)))) = .int (h 31 (Int32.toNatClampNeg (h 30 4))) ∧ post (h 31 (Int32.toNatClampNeg (h 30 4))) h))))
abbrev rmReader_peek : Room := { frames := 0, cells := 0, slots := 0, locals := 0 }
set_option maxHeartbeats 4000000 in
set_option maxRecDepth 100000 in
theorem cReader_peek (l : Launch) (D : va_G) (cI cC cE : ClassId) (ad : Nat → Nat) (n : Nat) (ln : Nat → Nat) (A : Nat → Prop) (hJ : zJ A (34 + 4 * n) ad) (h : zM) (post : Int32 → zM → Prop) (hw : wpReader_peek n ln h post) : Met l yReader_peek (.code yReader_peek bReader_peek 1 (some .char) :: zt) rmReader_peek (va_Pc [.ref (ad 30)] (zPre D (zty cI cC cE) (34 + 4 * n) ad (zF ad cI cC cE n ln) A h)) (va_Qi post (zPst D (zty cI cC cE) (34 + 4 * n) ad (zF ad cI cC cE n ln)) A) 0 0 A := by
  refine Met.ofW (cc := bReader_peek) (maxL := 1) (ret := (some .char)) (by decide) rfl ?_
  intro p e s m args below meth c s₁ B hml hv
  obtain ⟨rfl, hP, hK, hT, hN⟩ := hv
  have hr := B.returns
  have hlk := B.notSynchronized
  have S : zS p m c bReader_peek 1 s _ "CallExplorer$Reader" := ⟨B.exec, B.bytes, hml, findClass_of_methodNamed B.named, fun w hw => atoms_spec (ws := .code yReader_peek bReader_peek 1 (some .char) :: zt) B.pre w (List.mem_cons_of_mem _ hw)⟩
  have hS : va_S A s.heap s.heap [] := va_S.rf
  have hl := lv_entry ([.ref (ad 30)]) (n := 1) (Nat.le_of_ble_eq_true rfl)
  rw [lg_entry_eq]
  generalize (lg_sl ([.ref (ad 30)]) ++ List.replicate (1 - (lg_sl ([.ref (ad 30)])).length) Slot.unset).toArray = ls at hl ⊢
  have hl : lv_has ls 1 [(0, .ref (ad 30))] := hl
  show W p l e rmReader_peek s m ([.ref (ad 30)] : List Value).toArray below meth c s.heap [] 0 0 (zQi post D (zty cI cC cE) (34 + 4 * n) ad (zF ad cI cC cE n ln) A below ([.ref (ad 30)] : List Value).toArray s) _
  unfold wpReader_peek at hw
  refine lv_aload_n S.1 S.2.1 dReader_peek_0 rfl (lv_at hl 0 rfl) ?_
  refine zr_get S hK hP (zk (by decide)) (zF_30 _) fReader_at q268 rfl dReader_peek_1 ?_
  refine lv_aload_n S.1 S.2.1 dReader_peek_4 rfl (lv_at hl 0 rfl) ?_
  refine zr_get S hK hP (zk (by decide)) (zF_30 _) fReader_length q265 rfl dReader_peek_5 ?_
  refine lv_icmp_ge S.1 S.2.1 dReader_peek_8 rfl (fun hc => ?_) (fun hc => ?_)
  · have hw := hw.1 hc
    refine lv_iconst (v := 0) S.1 S.2.1 dReader_peek_23 (by decide) ?_
    exact zr_iret S hr hlk hK hP hS rfl hw dReader_peek_24
  · have hw := hw.2 hc
    refine lv_aload_n S.1 S.2.1 dReader_peek_11 rfl (lv_at hl 0 rfl) ?_
    refine zr_get S hK hP (zk (by decide)) (zF_30 _) fReader_letters q264 rfl dReader_peek_12 ?_
    refine lv_aload_n S.1 S.2.1 dReader_peek_15 rfl (lv_at hl 0 rfl) ?_
    refine zr_get S hK hP (zk (by decide)) (zF_30 _) fReader_at q268 rfl dReader_peek_16 ?_
    obtain ⟨z19, hw⟩ := hw
    refine zr_cld S hK hP (zk (by decide)) (zF_31 _) 1 rfl z19 dReader_peek_19 ?_
    refine lv_goto S.1 S.2.1 dReader_peek_20 rfl ?_
    exact zr_iret S hr hlk hK hP hS hw.1 hw.2 dReader_peek_24
/-! Reader.accept -/
theorem dReader_accept_0 : decode bReader_accept 0 = .ok (.aload_n 0, 1) := by decide +kernel
theorem dReader_accept_1 : decode bReader_accept 1 = .ok (.invokevirtual 77, 3) := by decide +kernel
theorem dReader_accept_4 : decode bReader_accept 4 = .ok (.iload_n 1, 1) := by decide +kernel
theorem dReader_accept_5 : decode bReader_accept 5 = .ok (.if_icmp .eq 5, 3) := by decide +kernel
theorem dReader_accept_8 : decode bReader_accept 8 = .ok (.iconst 0, 1) := by decide +kernel
theorem dReader_accept_9 : decode bReader_accept 9 = .ok (.ireturn, 1) := by decide +kernel
theorem dReader_accept_10 : decode bReader_accept 10 = .ok (.aload_n 0, 1) := by decide +kernel
theorem dReader_accept_11 : decode bReader_accept 11 = .ok (.dup, 1) := by decide +kernel
theorem dReader_accept_12 : decode bReader_accept 12 = .ok (.getfield 40, 3) := by decide +kernel
theorem dReader_accept_15 : decode bReader_accept 15 = .ok (.iconst 1, 1) := by decide +kernel
theorem dReader_accept_16 : decode bReader_accept 16 = .ok (.iadd, 1) := by decide +kernel
theorem dReader_accept_17 : decode bReader_accept 17 = .ok (.putfield 40, 3) := by decide +kernel
theorem dReader_accept_20 : decode bReader_accept 20 = .ok (.iconst 1, 1) := by decide +kernel
theorem dReader_accept_21 : decode bReader_accept 21 = .ok (.ireturn, 1) := by decide +kernel
def wpReader_accept (n : Nat) (ln : Nat → Nat) (x1 : Int32) (h : zM) (post : Int32 → zM → Prop) : Prop := wpReader_peek n ln h (fun r1 h1 => ((r1 = x1 → ∀ h17 : zM, h17 = zu h1 30 4 ((h1 30 4) + 1) → post 1 h17) ∧ (¬ r1 = x1 → post 0 h1)))
abbrev rmReader_accept : Room := { frames := 1, cells := 0, slots := 0, locals := 20 }
set_option maxHeartbeats 4000000 in
set_option maxRecDepth 100000 in
theorem cReader_accept (l : Launch) (D : va_G) (cI cC cE : ClassId) (ad : Nat → Nat) (n : Nat) (ln : Nat → Nat) (A : Nat → Prop) (hJ : zJ A (34 + 4 * n) ad) (x1 : Int32) (h : zM) (post : Int32 → zM → Prop) (hw : wpReader_accept n ln x1 h post) : Met l yReader_accept (.code yReader_accept bReader_accept 2 (some .boolean) :: zt) rmReader_accept (va_Pc [.ref (ad 30), .int x1] (zPre D (zty cI cC cE) (34 + 4 * n) ad (zF ad cI cC cE n ln) A h)) (va_Qi post (zPst D (zty cI cC cE) (34 + 4 * n) ad (zF ad cI cC cE n ln)) A) 0 0 A := by
  refine Met.ofW (cc := bReader_accept) (maxL := 2) (ret := (some .boolean)) (by decide) rfl ?_
  intro p e s m args below meth c s₁ B hml hv
  obtain ⟨rfl, hP, hK, hT, hN⟩ := hv
  have hr := B.returns
  have hlk := B.notSynchronized
  have S : zS p m c bReader_accept 2 s _ "CallExplorer$Reader" := ⟨B.exec, B.bytes, hml, findClass_of_methodNamed B.named, fun w hw => atoms_spec (ws := .code yReader_accept bReader_accept 2 (some .boolean) :: zt) B.pre w (List.mem_cons_of_mem _ hw)⟩
  have hS : va_S A s.heap s.heap [] := va_S.rf
  have hl := lv_entry ([.ref (ad 30), .int x1]) (n := 2) (Nat.le_of_ble_eq_true rfl)
  rw [lg_entry_eq]
  generalize (lg_sl ([.ref (ad 30), .int x1]) ++ List.replicate (2 - (lg_sl ([.ref (ad 30), .int x1])).length) Slot.unset).toArray = ls at hl ⊢
  have hl : lv_has ls 2 [(0, .ref (ad 30)), (1, .int x1)] := hl
  show W p l e rmReader_accept s m ([.ref (ad 30), .int x1] : List Value).toArray below meth c s.heap [] 0 0 (zQi post D (zty cI cC cE) (34 + 4 * n) ad (zF ad cI cC cE n ln) A below ([.ref (ad 30), .int x1] : List Value).toArray s) _
  unfold wpReader_accept at hw
  refine lv_aload_n S.1 S.2.1 dReader_accept_0 rfl (lv_at hl 0 rfl) ?_
  refine zr_i (zr_V (As := []) (rest := []) S hK hT hN hP hS (zk (by decide)) (zF_30 _) rfl (cReader_peek l D cI cC cE ad n ln A hJ _ _ hw) caReader_77 ⟨Nat.le_of_ble_eq_true rfl, Nat.le_of_ble_eq_true rfl⟩ ⟨rfl, rfl⟩ rfl hl.1 rfl (Nat.le_of_ble_eq_true rfl) dReader_accept_1) hS (fun r1 h1 H locs hw hP hS => ?_)
  refine lv_iload_n S.1 S.2.1 dReader_accept_4 rfl (lv_at hl 1 rfl) ?_
  refine lv_icmp_eq S.1 S.2.1 dReader_accept_5 rfl (fun hc => ?_) (fun hc => ?_)
  · have hw := hw.1 hc
    refine lv_aload_n S.1 S.2.1 dReader_accept_10 rfl (lv_at hl 0 rfl) ?_
    refine lv_dup S.1 S.2.1 dReader_accept_11 rfl ?_
    refine zr_get S hK hP (zk (by decide)) (zF_30 _) fReader_at q268 rfl dReader_accept_12 ?_
    refine lv_iconst (v := 1) S.1 S.2.1 dReader_accept_15 (by decide) ?_
    refine lv_iadd S.1 S.2.1 dReader_accept_16 ?_
    refine zr_put S hK hJ hP hS (zk (by decide)) (zF_30 _) fReader_at q268 rfl rfl (Nat.le_of_ble_eq_true rfl) (zF_30 _) dReader_accept_17 (fun h17 H locs e17 hP hS => ?_)
    have hw := hw h17 e17
    refine lv_iconst (v := 1) S.1 S.2.1 dReader_accept_20 (by decide) ?_
    exact zr_iret S hr hlk hK hP hS rfl hw dReader_accept_21
  · have hw := hw.2 hc
    refine lv_iconst (v := 0) S.1 S.2.1 dReader_accept_8 (by decide) ?_
    exact zr_iret S hr hlk hK hP hS rfl hw dReader_accept_9
/-! Reader.isAtEnd -/
theorem dReader_isAtEnd_0 : decode bReader_isAtEnd 0 = .ok (.aload_n 0, 1) := by decide +kernel
theorem dReader_isAtEnd_1 : decode bReader_isAtEnd 1 = .ok (.invokevirtual 77, 3) := by decide +kernel
theorem dReader_isAtEnd_4 : decode bReader_isAtEnd 4 = .ok (.istore_n 1, 1) := by decide +kernel
theorem dReader_isAtEnd_5 : decode bReader_isAtEnd 5 = .ok (.iload_n 1, 1) := by decide +kernel
theorem dReader_isAtEnd_6 : decode bReader_isAtEnd 6 = .ok (.bipush 61, 2) := by decide +kernel
theorem dReader_isAtEnd_8 : decode bReader_isAtEnd 8 = .ok (.if_icmp .eq 15, 3) := by decide +kernel
theorem dReader_isAtEnd_11 : decode bReader_isAtEnd 11 = .ok (.iload_n 1, 1) := by decide +kernel
theorem dReader_isAtEnd_12 : decode bReader_isAtEnd 12 = .ok (.bipush 33, 2) := by decide +kernel
theorem dReader_isAtEnd_14 : decode bReader_isAtEnd 14 = .ok (.if_icmp .eq 9, 3) := by decide +kernel
theorem dReader_isAtEnd_17 : decode bReader_isAtEnd 17 = .ok (.iload_n 1, 1) := by decide +kernel
theorem dReader_isAtEnd_18 : decode bReader_isAtEnd 18 = .ok (.bipush 63, 2) := by decide +kernel
theorem dReader_isAtEnd_20 : decode bReader_isAtEnd 20 = .ok (.if_icmp .ne 7, 3) := by decide +kernel
theorem dReader_isAtEnd_23 : decode bReader_isAtEnd 23 = .ok (.iconst 1, 1) := by decide +kernel
theorem dReader_isAtEnd_24 : decode bReader_isAtEnd 24 = .ok (.goto 4, 3) := by decide +kernel
theorem dReader_isAtEnd_27 : decode bReader_isAtEnd 27 = .ok (.iconst 0, 1) := by decide +kernel
theorem dReader_isAtEnd_28 : decode bReader_isAtEnd 28 = .ok (.ireturn, 1) := by decide +kernel
def wpReader_isAtEnd (n : Nat) (ln : Nat → Nat) (h : zM) (post : Int32 → zM → Prop) : Prop := wpReader_peek n ln h (fun r1 h1 => ((r1 = 61 → post 1 h1) ∧ (¬ r1 = 61 → ((r1 = 33 → post 1 h1) ∧ (¬ r1 = 33 → ((¬ r1 = 63 → post 0 h1) ∧ (r1 = 63 → post 1 h1)))))))
abbrev rmReader_isAtEnd : Room := { frames := 1, cells := 0, slots := 0, locals := 20 }
set_option maxHeartbeats 4000000 in
set_option maxRecDepth 100000 in
theorem cReader_isAtEnd (l : Launch) (D : va_G) (cI cC cE : ClassId) (ad : Nat → Nat) (n : Nat) (ln : Nat → Nat) (A : Nat → Prop) (hJ : zJ A (34 + 4 * n) ad) (h : zM) (post : Int32 → zM → Prop) (hw : wpReader_isAtEnd n ln h post) : Met l yReader_isAtEnd (.code yReader_isAtEnd bReader_isAtEnd 2 (some .boolean) :: zt) rmReader_isAtEnd (va_Pc [.ref (ad 30)] (zPre D (zty cI cC cE) (34 + 4 * n) ad (zF ad cI cC cE n ln) A h)) (va_Qi post (zPst D (zty cI cC cE) (34 + 4 * n) ad (zF ad cI cC cE n ln)) A) 0 0 A := by
  refine Met.ofW (cc := bReader_isAtEnd) (maxL := 2) (ret := (some .boolean)) (by decide) rfl ?_
  intro p e s m args below meth c s₁ B hml hv
  obtain ⟨rfl, hP, hK, hT, hN⟩ := hv
  have hr := B.returns
  have hlk := B.notSynchronized
  have S : zS p m c bReader_isAtEnd 2 s _ "CallExplorer$Reader" := ⟨B.exec, B.bytes, hml, findClass_of_methodNamed B.named, fun w hw => atoms_spec (ws := .code yReader_isAtEnd bReader_isAtEnd 2 (some .boolean) :: zt) B.pre w (List.mem_cons_of_mem _ hw)⟩
  have hS : va_S A s.heap s.heap [] := va_S.rf
  have hl := lv_entry ([.ref (ad 30)]) (n := 2) (Nat.le_of_ble_eq_true rfl)
  rw [lg_entry_eq]
  generalize (lg_sl ([.ref (ad 30)]) ++ List.replicate (2 - (lg_sl ([.ref (ad 30)])).length) Slot.unset).toArray = ls at hl ⊢
  have hl : lv_has ls 2 [(0, .ref (ad 30))] := hl
  show W p l e rmReader_isAtEnd s m ([.ref (ad 30)] : List Value).toArray below meth c s.heap [] 0 0 (zQi post D (zty cI cC cE) (34 + 4 * n) ad (zF ad cI cC cE n ln) A below ([.ref (ad 30)] : List Value).toArray s) _
  unfold wpReader_isAtEnd at hw
  refine lv_aload_n S.1 S.2.1 dReader_isAtEnd_0 rfl (lv_at hl 0 rfl) ?_
  refine zr_i (zr_V (As := []) (rest := []) S hK hT hN hP hS (zk (by decide)) (zF_30 _) rfl (cReader_peek l D cI cC cE ad n ln A hJ _ _ hw) caReader_77 ⟨Nat.le_of_ble_eq_true rfl, Nat.le_of_ble_eq_true rfl⟩ ⟨rfl, rfl⟩ rfl hl.1 rfl (Nat.le_of_ble_eq_true rfl) dReader_isAtEnd_1) hS (fun r1 h1 H locs hw hP hS => ?_)
  refine lv_istore_n (lv' := [(1, .int r1), (0, .ref (ad 30))]) S.1 S.2.1 dReader_isAtEnd_4 rfl hl (by decide) rfl (fun ls hl => ?_)
  refine lv_iload_n S.1 S.2.1 dReader_isAtEnd_5 rfl (lv_at hl 0 rfl) ?_
  refine lv_bipush (v := 61) S.1 S.2.1 dReader_isAtEnd_6 (by decide) ?_
  refine lv_icmp_eq S.1 S.2.1 dReader_isAtEnd_8 rfl (fun hc => ?_) (fun hc => ?_)
  · have hw := hw.1 hc
    refine lv_iconst (v := 1) S.1 S.2.1 dReader_isAtEnd_23 (by decide) ?_
    refine lv_goto S.1 S.2.1 dReader_isAtEnd_24 rfl ?_
    exact zr_iret S hr hlk hK hP hS rfl hw dReader_isAtEnd_28
  · have hw := hw.2 hc
    refine lv_iload_n S.1 S.2.1 dReader_isAtEnd_11 rfl (lv_at hl 0 rfl) ?_
    refine lv_bipush (v := 33) S.1 S.2.1 dReader_isAtEnd_12 (by decide) ?_
    refine lv_icmp_eq S.1 S.2.1 dReader_isAtEnd_14 rfl (fun hc => ?_) (fun hc => ?_)
    · have hw := hw.1 hc
      refine lv_iconst (v := 1) S.1 S.2.1 dReader_isAtEnd_23 (by decide) ?_
      refine lv_goto S.1 S.2.1 dReader_isAtEnd_24 rfl ?_
      exact zr_iret S hr hlk hK hP hS rfl hw dReader_isAtEnd_28
    · have hw := hw.2 hc
      refine lv_iload_n S.1 S.2.1 dReader_isAtEnd_17 rfl (lv_at hl 0 rfl) ?_
      refine lv_bipush (v := 63) S.1 S.2.1 dReader_isAtEnd_18 (by decide) ?_
      refine lv_icmp_ne S.1 S.2.1 dReader_isAtEnd_20 rfl (fun hc => ?_) (fun hc => ?_)
      · have hw := hw.1 hc
        refine lv_iconst (v := 0) S.1 S.2.1 dReader_isAtEnd_27 (by decide) ?_
        exact zr_iret S hr hlk hK hP hS rfl hw dReader_isAtEnd_28
      · have hw := hw.2 hc
        refine lv_iconst (v := 1) S.1 S.2.1 dReader_isAtEnd_23 (by decide) ?_
        refine lv_goto S.1 S.2.1 dReader_isAtEnd_24 rfl ?_
        exact zr_iret S hr hlk hK hP hS rfl hw dReader_isAtEnd_28
/-! Reader.isAtDigit -/
theorem dReader_isAtDigit_0 : decode bReader_isAtDigit 0 = .ok (.aload_n 0, 1) := by decide +kernel
theorem dReader_isAtDigit_1 : decode bReader_isAtDigit 1 = .ok (.invokevirtual 77, 3) := by decide +kernel
theorem dReader_isAtDigit_4 : decode bReader_isAtDigit 4 = .ok (.bipush 48, 2) := by decide +kernel
theorem dReader_isAtDigit_6 : decode bReader_isAtDigit 6 = .ok (.if_icmp .lt 16, 3) := by decide +kernel
theorem dReader_isAtDigit_9 : decode bReader_isAtDigit 9 = .ok (.aload_n 0, 1) := by decide +kernel
theorem dReader_isAtDigit_10 : decode bReader_isAtDigit 10 = .ok (.invokevirtual 77, 3) := by decide +kernel
theorem dReader_isAtDigit_13 : decode bReader_isAtDigit 13 = .ok (.bipush 57, 2) := by decide +kernel
theorem dReader_isAtDigit_15 : decode bReader_isAtDigit 15 = .ok (.if_icmp .gt 7, 3) := by decide +kernel
theorem dReader_isAtDigit_18 : decode bReader_isAtDigit 18 = .ok (.iconst 1, 1) := by decide +kernel
theorem dReader_isAtDigit_19 : decode bReader_isAtDigit 19 = .ok (.goto 4, 3) := by decide +kernel
theorem dReader_isAtDigit_22 : decode bReader_isAtDigit 22 = .ok (.iconst 0, 1) := by decide +kernel
theorem dReader_isAtDigit_23 : decode bReader_isAtDigit 23 = .ok (.ireturn, 1) := by decide +kernel
def wpReader_isAtDigit (n : Nat) (ln : Nat → Nat) (h : zM) (post : Int32 → zM → Prop) : Prop := wpReader_peek n ln h (fun r1 h1 => (((r1 < 48) → post 0 h1) ∧ (¬ (r1 < 48) → wpReader_peek n ln h1 (fun r10 h10 => (((57 < r10) → post 0 h10) ∧ (¬ (57 < r10) → post 1 h10))))))
abbrev rmReader_isAtDigit : Room := { frames := 1, cells := 0, slots := 0, locals := 20 }
set_option maxHeartbeats 4000000 in
set_option maxRecDepth 100000 in
theorem cReader_isAtDigit (l : Launch) (D : va_G) (cI cC cE : ClassId) (ad : Nat → Nat) (n : Nat) (ln : Nat → Nat) (A : Nat → Prop) (hJ : zJ A (34 + 4 * n) ad) (h : zM) (post : Int32 → zM → Prop) (hw : wpReader_isAtDigit n ln h post) : Met l yReader_isAtDigit (.code yReader_isAtDigit bReader_isAtDigit 1 (some .boolean) :: zt) rmReader_isAtDigit (va_Pc [.ref (ad 30)] (zPre D (zty cI cC cE) (34 + 4 * n) ad (zF ad cI cC cE n ln) A h)) (va_Qi post (zPst D (zty cI cC cE) (34 + 4 * n) ad (zF ad cI cC cE n ln)) A) 0 0 A := by
  refine Met.ofW (cc := bReader_isAtDigit) (maxL := 1) (ret := (some .boolean)) (by decide) rfl ?_
  intro p e s m args below meth c s₁ B hml hv
  obtain ⟨rfl, hP, hK, hT, hN⟩ := hv
  have hr := B.returns
  have hlk := B.notSynchronized
  have S : zS p m c bReader_isAtDigit 1 s _ "CallExplorer$Reader" := ⟨B.exec, B.bytes, hml, findClass_of_methodNamed B.named, fun w hw => atoms_spec (ws := .code yReader_isAtDigit bReader_isAtDigit 1 (some .boolean) :: zt) B.pre w (List.mem_cons_of_mem _ hw)⟩
  have hS : va_S A s.heap s.heap [] := va_S.rf
  have hl := lv_entry ([.ref (ad 30)]) (n := 1) (Nat.le_of_ble_eq_true rfl)
  rw [lg_entry_eq]
  generalize (lg_sl ([.ref (ad 30)]) ++ List.replicate (1 - (lg_sl ([.ref (ad 30)])).length) Slot.unset).toArray = ls at hl ⊢
  have hl : lv_has ls 1 [(0, .ref (ad 30))] := hl
  show W p l e rmReader_isAtDigit s m ([.ref (ad 30)] : List Value).toArray below meth c s.heap [] 0 0 (zQi post D (zty cI cC cE) (34 + 4 * n) ad (zF ad cI cC cE n ln) A below ([.ref (ad 30)] : List Value).toArray s) _
  unfold wpReader_isAtDigit at hw
  refine lv_aload_n S.1 S.2.1 dReader_isAtDigit_0 rfl (lv_at hl 0 rfl) ?_
  refine zr_i (zr_V (As := []) (rest := []) S hK hT hN hP hS (zk (by decide)) (zF_30 _) rfl (cReader_peek l D cI cC cE ad n ln A hJ _ _ hw) caReader_77 ⟨Nat.le_of_ble_eq_true rfl, Nat.le_of_ble_eq_true rfl⟩ ⟨rfl, rfl⟩ rfl hl.1 rfl (Nat.le_of_ble_eq_true rfl) dReader_isAtDigit_1) hS (fun r1 h1 H locs hw hP hS => ?_)
  refine lv_bipush (v := 48) S.1 S.2.1 dReader_isAtDigit_4 (by decide) ?_
  refine lv_icmp_lt S.1 S.2.1 dReader_isAtDigit_6 rfl (fun hc => ?_) (fun hc => ?_)
  · have hw := hw.1 hc
    refine lv_iconst (v := 0) S.1 S.2.1 dReader_isAtDigit_22 (by decide) ?_
    exact zr_iret S hr hlk hK hP hS rfl hw dReader_isAtDigit_23
  · have hw := hw.2 hc
    refine lv_aload_n S.1 S.2.1 dReader_isAtDigit_9 rfl (lv_at hl 0 rfl) ?_
    refine zr_i (zr_V (As := []) (rest := []) S hK hT hN hP hS (zk (by decide)) (zF_30 _) rfl (cReader_peek l D cI cC cE ad n ln A hJ _ _ hw) caReader_77 ⟨Nat.le_of_ble_eq_true rfl, Nat.le_of_ble_eq_true rfl⟩ ⟨rfl, rfl⟩ rfl hl.1 rfl (Nat.le_of_ble_eq_true rfl) dReader_isAtDigit_10) hS (fun r10 h10 H locs hw hP hS => ?_)
    refine lv_bipush (v := 57) S.1 S.2.1 dReader_isAtDigit_13 (by decide) ?_
    refine lv_icmp_gt S.1 S.2.1 dReader_isAtDigit_15 rfl (fun hc => ?_) (fun hc => ?_)
    · have hw := hw.1 hc
      refine lv_iconst (v := 0) S.1 S.2.1 dReader_isAtDigit_22 (by decide) ?_
      exact zr_iret S hr hlk hK hP hS rfl hw dReader_isAtDigit_23
    · have hw := hw.2 hc
      refine lv_iconst (v := 1) S.1 S.2.1 dReader_isAtDigit_18 (by decide) ?_
      refine lv_goto S.1 S.2.1 dReader_isAtDigit_19 rfl ?_
      exact zr_iret S hr hlk hK hP hS rfl hw dReader_isAtDigit_23
/-! Reader.readNumber -/
theorem dReader_readNumber_0 : decode bReader_readNumber 0 = .ok (.aload_n 0, 1) := by decide +kernel
theorem dReader_readNumber_1 : decode bReader_readNumber 1 = .ok (.bipush 45, 2) := by decide +kernel
theorem dReader_readNumber_3 : decode bReader_readNumber 3 = .ok (.invokevirtual 90, 3) := by decide +kernel
theorem dReader_readNumber_6 : decode bReader_readNumber 6 = .ok (.istore_n 1, 1) := by decide +kernel
theorem dReader_readNumber_7 : decode bReader_readNumber 7 = .ok (.aload_n 0, 1) := by decide +kernel
theorem dReader_readNumber_8 : decode bReader_readNumber 8 = .ok (.invokevirtual 77, 3) := by decide +kernel
theorem dReader_readNumber_11 : decode bReader_readNumber 11 = .ok (.bipush 48, 2) := by decide +kernel
theorem dReader_readNumber_13 : decode bReader_readNumber 13 = .ok (.if_icmp .ne 7, 3) := by decide +kernel
theorem dReader_readNumber_16 : decode bReader_readNumber 16 = .ok (.iconst 1, 1) := by decide +kernel
theorem dReader_readNumber_17 : decode bReader_readNumber 17 = .ok (.goto 4, 3) := by decide +kernel
theorem dReader_readNumber_20 : decode bReader_readNumber 20 = .ok (.iconst 0, 1) := by decide +kernel
theorem dReader_readNumber_21 : decode bReader_readNumber 21 = .ok (.istore_n 2, 1) := by decide +kernel
theorem dReader_readNumber_22 : decode bReader_readNumber 22 = .ok (.lconst 0, 1) := by decide +kernel
theorem dReader_readNumber_23 : decode bReader_readNumber 23 = .ok (.lstore_n 3, 1) := by decide +kernel
theorem dReader_readNumber_24 : decode bReader_readNumber 24 = .ok (.iconst 0, 1) := by decide +kernel
theorem dReader_readNumber_25 : decode bReader_readNumber 25 = .ok (.istore 5, 2) := by decide +kernel
theorem dReader_readNumber_27 : decode bReader_readNumber 27 = .ok (.iload 5, 2) := by decide +kernel
theorem dReader_readNumber_29 : decode bReader_readNumber 29 = .ok (.bipush 11, 2) := by decide +kernel
theorem dReader_readNumber_31 : decode bReader_readNumber 31 = .ok (.if_icmp .ge 41, 3) := by decide +kernel
theorem dReader_readNumber_34 : decode bReader_readNumber 34 = .ok (.aload_n 0, 1) := by decide +kernel
theorem dReader_readNumber_35 : decode bReader_readNumber 35 = .ok (.invokevirtual 119, 3) := by decide +kernel
theorem dReader_readNumber_38 : decode bReader_readNumber 38 = .ok (.ifCond .eq 34, 3) := by decide +kernel
theorem dReader_readNumber_41 : decode bReader_readNumber 41 = .ok (.ldc2_w 129, 3) := by decide +kernel
theorem dReader_readNumber_44 : decode bReader_readNumber 44 = .ok (.lload_n 3, 1) := by decide +kernel
theorem dReader_readNumber_45 : decode bReader_readNumber 45 = .ok (.lmul, 1) := by decide +kernel
theorem dReader_readNumber_46 : decode bReader_readNumber 46 = .ok (.aload_n 0, 1) := by decide +kernel
theorem dReader_readNumber_47 : decode bReader_readNumber 47 = .ok (.invokevirtual 77, 3) := by decide +kernel
theorem dReader_readNumber_50 : decode bReader_readNumber 50 = .ok (.bipush 48, 2) := by decide +kernel
theorem dReader_readNumber_52 : decode bReader_readNumber 52 = .ok (.isub, 1) := by decide +kernel
theorem dReader_readNumber_53 : decode bReader_readNumber 53 = .ok (.i2l, 1) := by decide +kernel
theorem dReader_readNumber_54 : decode bReader_readNumber 54 = .ok (.ladd, 1) := by decide +kernel
theorem dReader_readNumber_55 : decode bReader_readNumber 55 = .ok (.lstore_n 3, 1) := by decide +kernel
theorem dReader_readNumber_56 : decode bReader_readNumber 56 = .ok (.aload_n 0, 1) := by decide +kernel
theorem dReader_readNumber_57 : decode bReader_readNumber 57 = .ok (.dup, 1) := by decide +kernel
theorem dReader_readNumber_58 : decode bReader_readNumber 58 = .ok (.getfield 40, 3) := by decide +kernel
theorem dReader_readNumber_61 : decode bReader_readNumber 61 = .ok (.iconst 1, 1) := by decide +kernel
theorem dReader_readNumber_62 : decode bReader_readNumber 62 = .ok (.iadd, 1) := by decide +kernel
theorem dReader_readNumber_63 : decode bReader_readNumber 63 = .ok (.putfield 40, 3) := by decide +kernel
theorem dReader_readNumber_66 : decode bReader_readNumber 66 = .ok (.iinc 5 1, 3) := by decide +kernel
theorem dReader_readNumber_69 : decode bReader_readNumber 69 = .ok (.goto (-42), 3) := by decide +kernel
theorem dReader_readNumber_72 : decode bReader_readNumber 72 = .ok (.iload_n 1, 1) := by decide +kernel
theorem dReader_readNumber_73 : decode bReader_readNumber 73 = .ok (.ifCond .eq 8, 3) := by decide +kernel
theorem dReader_readNumber_76 : decode bReader_readNumber 76 = .ok (.lload_n 3, 1) := by decide +kernel
theorem dReader_readNumber_77 : decode bReader_readNumber 77 = .ok (.lneg, 1) := by decide +kernel
theorem dReader_readNumber_78 : decode bReader_readNumber 78 = .ok (.goto 4, 3) := by decide +kernel
theorem dReader_readNumber_81 : decode bReader_readNumber 81 = .ok (.lload_n 3, 1) := by decide +kernel
theorem dReader_readNumber_82 : decode bReader_readNumber 82 = .ok (.lstore_n 3, 1) := by decide +kernel
theorem dReader_readNumber_83 : decode bReader_readNumber 83 = .ok (.aload_n 0, 1) := by decide +kernel
theorem dReader_readNumber_84 : decode bReader_readNumber 84 = .ok (.lload_n 3, 1) := by decide +kernel
theorem dReader_readNumber_85 : decode bReader_readNumber 85 = .ok (.l2i, 1) := by decide +kernel
theorem dReader_readNumber_86 : decode bReader_readNumber 86 = .ok (.putfield 116, 3) := by decide +kernel
theorem dReader_readNumber_89 : decode bReader_readNumber 89 = .ok (.iload 5, 2) := by decide +kernel
theorem dReader_readNumber_91 : decode bReader_readNumber 91 = .ok (.ifCond .le 31, 3) := by decide +kernel
theorem dReader_readNumber_94 : decode bReader_readNumber 94 = .ok (.lload_n 3, 1) := by decide +kernel
theorem dReader_readNumber_95 : decode bReader_readNumber 95 = .ok (.aload_n 0, 1) := by decide +kernel
theorem dReader_readNumber_96 : decode bReader_readNumber 96 = .ok (.getfield 116, 3) := by decide +kernel
theorem dReader_readNumber_99 : decode bReader_readNumber 99 = .ok (.i2l, 1) := by decide +kernel
theorem dReader_readNumber_100 : decode bReader_readNumber 100 = .ok (.lcmp, 1) := by decide +kernel
theorem dReader_readNumber_101 : decode bReader_readNumber 101 = .ok (.ifCond .ne 21, 3) := by decide +kernel
theorem dReader_readNumber_104 : decode bReader_readNumber 104 = .ok (.iload_n 2, 1) := by decide +kernel
theorem dReader_readNumber_105 : decode bReader_readNumber 105 = .ok (.ifCond .eq 13, 3) := by decide +kernel
theorem dReader_readNumber_108 : decode bReader_readNumber 108 = .ok (.iload_n 1, 1) := by decide +kernel
theorem dReader_readNumber_109 : decode bReader_readNumber 109 = .ok (.ifCond .ne 13, 3) := by decide +kernel
theorem dReader_readNumber_112 : decode bReader_readNumber 112 = .ok (.iload 5, 2) := by decide +kernel
theorem dReader_readNumber_114 : decode bReader_readNumber 114 = .ok (.iconst 1, 1) := by decide +kernel
theorem dReader_readNumber_115 : decode bReader_readNumber 115 = .ok (.if_icmp .gt 7, 3) := by decide +kernel
theorem dReader_readNumber_118 : decode bReader_readNumber 118 = .ok (.iconst 1, 1) := by decide +kernel
theorem dReader_readNumber_119 : decode bReader_readNumber 119 = .ok (.goto 4, 3) := by decide +kernel
theorem dReader_readNumber_122 : decode bReader_readNumber 122 = .ok (.iconst 0, 1) := by decide +kernel
theorem dReader_readNumber_123 : decode bReader_readNumber 123 = .ok (.ireturn, 1) := by decide +kernel
def wbReader_readNumber_82 (n : Nat) (ln : Nat → Nat) (post : Int32 → zM → Prop) (v1 : Int32) (v2 : Int32) (v5 : Int32) (k0 : Int64) (h : zM) : Prop := ∀ h86 : zM, h86 = zu h 30 5 (Int64.toInt32 k0) → (((v5 ≤ 0) → post 0 h86) ∧ (¬ (v5 ≤ 0) → ((¬ (lg_cmp k0 (Int32.toInt64 (h86 30 5))) = 0 → post 0 h86) ∧ ((lg_cmp k0 (Int32.toInt64 (h86 30 5))) = 0 → ((v2 = 0 → post 1 h86) ∧ (¬ v2 = 0 → ((¬ v1 = 0 → post 0 h86) ∧ (v1 = 0 → (((1 < v5) → post 0 h86) ∧ (¬ (1 < v5) → post 1 h86))))))))))
def wbReader_readNumber_72 (n : Nat) (ln : Nat → Nat) (post : Int32 → zM → Prop) (v1 : Int32) (v2 : Int32) (u3 : Int64) (v5 : Int32) (h : zM) : Prop := ((v1 = 0 → wbReader_readNumber_82 n ln post v1 v2 v5 u3 h) ∧ (¬ v1 = 0 → wbReader_readNumber_82 n ln post v1 v2 v5 (-u3) h))
def stReader_readNumber_27 (n : Nat) (ln : Nat → Nat) (post : Int32 → zM → Prop) (L27 : (Int32 × Int32 × Int64 × Int32 × zM) → Prop) : (Int32 × Int32 × Int64 × Int32 × zM) → Prop := fun s => match s with
  | (v1, v2, u3, v5, h) => (((11 ≤ v5) → wbReader_readNumber_72 n ln post v1 v2 u3 v5 h) ∧ (¬ (11 ≤ v5) → wpReader_isAtDigit n ln h (fun r35 h35 => ((r35 = 0 → wbReader_readNumber_72 n ln post v1 v2 u3 v5 h35) ∧ (¬ r35 = 0 → wpReader_peek n ln h35 (fun r47 h47 => ∀ y55 : Int64, y55 = ((10 * u3) + (Int32.toInt64 (r47 - 48))) → ∀ h63 : zM, h63 = zu h47 30 4 ((h47 30 4) + 1) → L27 (v1, v2, y55, (v5 + 1), h63)))))))
def wbReader_readNumber_21 (n : Nat) (ln : Nat → Nat) (post : Int32 → zM → Prop) (v1 : Int32) (k0 : Int32) (h : zM) : Prop := zL (stReader_readNumber_27 n ln post) (v1, k0, 0, 0, h)
def wpReader_readNumber (n : Nat) (ln : Nat → Nat) (h : zM) (post : Int32 → zM → Prop) : Prop := wpReader_accept n ln 45 h (fun r3 h3 => wpReader_peek n ln h3 (fun r8 h8 => ((¬ r8 = 48 → wbReader_readNumber_21 n ln post r3 0 h8) ∧ (r8 = 48 → wbReader_readNumber_21 n ln post r3 1 h8))))
abbrev rmReader_readNumber : Room := { frames := 2, cells := 0, slots := 0, locals := 41 }
set_option maxHeartbeats 4000000 in
set_option maxRecDepth 100000 in
theorem cReader_readNumber (l : Launch) (D : va_G) (cI cC cE : ClassId) (ad : Nat → Nat) (n : Nat) (ln : Nat → Nat) (A : Nat → Prop) (hJ : zJ A (34 + 4 * n) ad) (h : zM) (post : Int32 → zM → Prop) (hw : wpReader_readNumber n ln h post) : Met l yReader_readNumber (.code yReader_readNumber bReader_readNumber 6 (some .boolean) :: zt) rmReader_readNumber (va_Pc [.ref (ad 30)] (zPre D (zty cI cC cE) (34 + 4 * n) ad (zF ad cI cC cE n ln) A h)) (va_Qi post (zPst D (zty cI cC cE) (34 + 4 * n) ad (zF ad cI cC cE n ln)) A) 0 0 A := by
  refine Met.ofW (cc := bReader_readNumber) (maxL := 6) (ret := (some .boolean)) (by decide) rfl ?_
  intro p e s m args below meth c s₁ B hml hv
  obtain ⟨rfl, hP, hK, hT, hN⟩ := hv
  have hr := B.returns
  have hlk := B.notSynchronized
  have S : zS p m c bReader_readNumber 6 s _ "CallExplorer$Reader" := ⟨B.exec, B.bytes, hml, findClass_of_methodNamed B.named, fun w hw => atoms_spec (ws := .code yReader_readNumber bReader_readNumber 6 (some .boolean) :: zt) B.pre w (List.mem_cons_of_mem _ hw)⟩
  have hS : va_S A s.heap s.heap [] := va_S.rf
  have hl := lv_entry ([.ref (ad 30)]) (n := 6) (Nat.le_of_ble_eq_true rfl)
  rw [lg_entry_eq]
  generalize (lg_sl ([.ref (ad 30)]) ++ List.replicate (6 - (lg_sl ([.ref (ad 30)])).length) Slot.unset).toArray = ls at hl ⊢
  have hl : lv_has ls 6 [(0, .ref (ad 30))] := hl
  show W p l e rmReader_readNumber s m ([.ref (ad 30)] : List Value).toArray below meth c s.heap [] 0 0 (zQi post D (zty cI cC cE) (34 + 4 * n) ad (zF ad cI cC cE n ln) A below ([.ref (ad 30)] : List Value).toArray s) _
  have J82 : ∀ (v1 : Int32) (v2 : Int32) (v5 : Int32) (k0 : Int64) (h : zM) (H : Heap) (locs : List Loc) (ls : Array Slot), wbReader_readNumber_82 n ln post v1 v2 v5 k0 h → lv_has ls 6 [(0, .ref (ad 30)), (1, .int v1), (2, .int v2), (5, .int v5)] → va_P D zcl (zW (34 + 4 * n) ad (zF ad cI cC cE n ln) h) H → va_S A s.heap H locs → W p l e rmReader_readNumber s m ([.ref (ad 30)] : List Value).toArray below meth c H locs 0 0 (zQi post D (zty cI cC cE) (34 + 4 * n) ad (zF ad cI cC cE n ln) A below ([.ref (ad 30)] : List Value).toArray s) (F0 m 82 ls [.long k0]) := by
    intro v1 v2 v5 k0 h H locs ls hw hl hP hS
    unfold wbReader_readNumber_82 at hw
    refine lv_lstore_n (lv' := [(3, .long k0), (0, .ref (ad 30)), (1, .int v1), (2, .int v2), (5, .int v5)]) S.1 S.2.1 dReader_readNumber_82 rfl hl (by decide) rfl (fun ls hl => ?_)
    refine lv_aload_n S.1 S.2.1 dReader_readNumber_83 rfl (lv_at hl 1 rfl) ?_
    refine lv_lload_n S.1 S.2.1 dReader_readNumber_84 rfl (lv_at hl 0 rfl) ?_
    refine lv_l2i S.1 S.2.1 dReader_readNumber_85 rfl ?_
    refine zr_put S hK hJ hP hS (zk (by decide)) (zF_30 _) fReader_numberRead q269 rfl rfl (Nat.le_of_ble_eq_true rfl) (zF_30 _) dReader_readNumber_86 (fun h86 H locs e86 hP hS => ?_)
    have hw := hw h86 e86
    refine lv_iload S.1 S.2.1 dReader_readNumber_89 (lv_at hl 4 rfl) ?_
    refine lv_if_le S.1 S.2.1 dReader_readNumber_91 rfl (fun hc => ?_) (fun hc => ?_)
    · have hw := hw.1 hc
      refine lv_iconst (v := 0) S.1 S.2.1 dReader_readNumber_122 (by decide) ?_
      exact zr_iret S hr hlk hK hP hS rfl hw dReader_readNumber_123
    · have hw := hw.2 hc
      refine lv_lload_n S.1 S.2.1 dReader_readNumber_94 rfl (lv_at hl 0 rfl) ?_
      refine lv_aload_n S.1 S.2.1 dReader_readNumber_95 rfl (lv_at hl 1 rfl) ?_
      refine zr_get S hK hP (zk (by decide)) (zF_30 _) fReader_numberRead q269 rfl dReader_readNumber_96 ?_
      refine lv_i2l S.1 S.2.1 dReader_readNumber_99 rfl ?_
      refine W.lcmp S.1 S.2.1 dReader_readNumber_100 ?_
      refine lv_if_ne S.1 S.2.1 dReader_readNumber_101 rfl (fun hc => ?_) (fun hc => ?_)
      · have hw := hw.1 hc
        refine lv_iconst (v := 0) S.1 S.2.1 dReader_readNumber_122 (by decide) ?_
        exact zr_iret S hr hlk hK hP hS rfl hw dReader_readNumber_123
      · have hw := hw.2 hc
        refine lv_iload_n S.1 S.2.1 dReader_readNumber_104 rfl (lv_at hl 3 rfl) ?_
        refine lv_if_eq S.1 S.2.1 dReader_readNumber_105 rfl (fun hc => ?_) (fun hc => ?_)
        · have hw := hw.1 hc
          refine lv_iconst (v := 1) S.1 S.2.1 dReader_readNumber_118 (by decide) ?_
          refine lv_goto S.1 S.2.1 dReader_readNumber_119 rfl ?_
          exact zr_iret S hr hlk hK hP hS rfl hw dReader_readNumber_123
        · have hw := hw.2 hc
          refine lv_iload_n S.1 S.2.1 dReader_readNumber_108 rfl (lv_at hl 2 rfl) ?_
          refine lv_if_ne S.1 S.2.1 dReader_readNumber_109 rfl (fun hc => ?_) (fun hc => ?_)
          · have hw := hw.1 hc
            refine lv_iconst (v := 0) S.1 S.2.1 dReader_readNumber_122 (by decide) ?_
            exact zr_iret S hr hlk hK hP hS rfl hw dReader_readNumber_123
          · have hw := hw.2 hc
            refine lv_iload S.1 S.2.1 dReader_readNumber_112 (lv_at hl 4 rfl) ?_
            refine lv_iconst (v := 1) S.1 S.2.1 dReader_readNumber_114 (by decide) ?_
            refine lv_icmp_gt S.1 S.2.1 dReader_readNumber_115 rfl (fun hc => ?_) (fun hc => ?_)
            · have hw := hw.1 hc
              refine lv_iconst (v := 0) S.1 S.2.1 dReader_readNumber_122 (by decide) ?_
              exact zr_iret S hr hlk hK hP hS rfl hw dReader_readNumber_123
            · have hw := hw.2 hc
              refine lv_iconst (v := 1) S.1 S.2.1 dReader_readNumber_118 (by decide) ?_
              refine lv_goto S.1 S.2.1 dReader_readNumber_119 rfl ?_
              exact zr_iret S hr hlk hK hP hS rfl hw dReader_readNumber_123
  have J72 : ∀ (v1 : Int32) (v2 : Int32) (u3 : Int64) (v5 : Int32) (h : zM) (H : Heap) (locs : List Loc) (ls : Array Slot), wbReader_readNumber_72 n ln post v1 v2 u3 v5 h → lv_has ls 6 [(0, .ref (ad 30)), (1, .int v1), (2, .int v2), (3, .long u3), (5, .int v5)] → va_P D zcl (zW (34 + 4 * n) ad (zF ad cI cC cE n ln) h) H → va_S A s.heap H locs → W p l e rmReader_readNumber s m ([.ref (ad 30)] : List Value).toArray below meth c H locs 0 0 (zQi post D (zty cI cC cE) (34 + 4 * n) ad (zF ad cI cC cE n ln) A below ([.ref (ad 30)] : List Value).toArray s) (F0 m 72 ls []) := by
    intro v1 v2 u3 v5 h H locs ls hw hl hP hS
    unfold wbReader_readNumber_72 at hw
    refine lv_iload_n S.1 S.2.1 dReader_readNumber_72 rfl (lv_at hl 1 rfl) ?_
    refine lv_if_eq S.1 S.2.1 dReader_readNumber_73 rfl (fun hc => ?_) (fun hc => ?_)
    · have hw := hw.1 hc
      refine lv_lload_n S.1 S.2.1 dReader_readNumber_81 rfl (lv_at hl 3 rfl) ?_
      exact J82 _ _ _ _ _ _ _ _ hw (lv_sub hl [0, 1, 2, 4] rfl) hP hS
    · have hw := hw.2 hc
      refine lv_lload_n S.1 S.2.1 dReader_readNumber_76 rfl (lv_at hl 3 rfl) ?_
      refine lv_lneg S.1 S.2.1 dReader_readNumber_77 ?_
      refine lv_goto S.1 S.2.1 dReader_readNumber_78 rfl ?_
      exact J82 _ _ _ _ _ _ _ _ hw (lv_sub hl [0, 1, 2, 4] rfl) hP hS
  have J27 : ∀ (fu : Nat) (v1 : Int32) (v2 : Int32) (u3 : Int64) (v5 : Int32) (h : zM) (H : Heap) (locs : List Loc) (ls : Array Slot), zl (stReader_readNumber_27 n ln post) fu (v1, v2, u3, v5, h) → lv_has ls 6 [(0, .ref (ad 30)), (1, .int v1), (2, .int v2), (3, .long u3), (5, .int v5)] → va_P D zcl (zW (34 + 4 * n) ad (zF ad cI cC cE n ln) h) H → va_S A s.heap H locs → W p l e rmReader_readNumber s m ([.ref (ad 30)] : List Value).toArray below meth c H locs 0 0 (zQi post D (zty cI cC cE) (34 + 4 * n) ad (zF ad cI cC cE n ln) A below ([.ref (ad 30)] : List Value).toArray s) (F0 m 27 ls []) := by
    intro fu27
    induction fu27 with
    | zero =>
      intro v1 v2 u3 v5 h H locs ls hw
      exact (zl_0 hw).elim
    | succ fu27 ih27 =>
      intro v1 v2 u3 v5 h H locs ls hw hl hP hS
      have hw := zl_s hw
      generalize zl (stReader_readNumber_27 n ln post) fu27 = L27 at hw ih27
      unfold stReader_readNumber_27 at hw
      dsimp only at hw
      refine lv_iload S.1 S.2.1 dReader_readNumber_27 (lv_at hl 4 rfl) ?_
      refine lv_bipush (v := 11) S.1 S.2.1 dReader_readNumber_29 (by decide) ?_
      refine lv_icmp_ge S.1 S.2.1 dReader_readNumber_31 rfl (fun hc => ?_) (fun hc => ?_)
      · have hw := hw.1 hc
        exact J72 _ _ _ _ _ _ _ _ hw (lv_sub hl [0, 1, 2, 3, 4] rfl) hP hS
      · have hw := hw.2 hc
        refine lv_aload_n S.1 S.2.1 dReader_readNumber_34 rfl (lv_at hl 0 rfl) ?_
        refine zr_i (zr_V (As := []) (rest := []) S hK hT hN hP hS (zk (by decide)) (zF_30 _) rfl (cReader_isAtDigit l D cI cC cE ad n ln A hJ _ _ hw) caReader_119 ⟨Nat.le_of_ble_eq_true rfl, Nat.le_of_ble_eq_true rfl⟩ ⟨rfl, rfl⟩ rfl hl.1 rfl (Nat.le_of_ble_eq_true rfl) dReader_readNumber_35) hS (fun r35 h35 H locs hw hP hS => ?_)
        refine lv_if_eq S.1 S.2.1 dReader_readNumber_38 rfl (fun hc => ?_) (fun hc => ?_)
        · have hw := hw.1 hc
          exact J72 _ _ _ _ _ _ _ _ hw (lv_sub hl [0, 1, 2, 3, 4] rfl) hP hS
        · have hw := hw.2 hc
          refine lv_ldc2 (v := 10) S.1 S.2.1 S.2.2.2.1 (S.2.2.2.2 _ q795) dReader_readNumber_41 ?_
          refine lv_lload_n S.1 S.2.1 dReader_readNumber_44 rfl (lv_at hl 3 rfl) ?_
          refine lv_lmul S.1 S.2.1 dReader_readNumber_45 ?_
          refine lv_aload_n S.1 S.2.1 dReader_readNumber_46 rfl (lv_at hl 0 rfl) ?_
          refine zr_i (zr_V (As := []) (rest := [.long (10 * u3)]) S hK hT hN hP hS (zk (by decide)) (zF_30 _) rfl (cReader_peek l D cI cC cE ad n ln A hJ _ _ hw) caReader_77 ⟨Nat.le_of_ble_eq_true rfl, Nat.le_of_ble_eq_true rfl⟩ ⟨rfl, rfl⟩ rfl hl.1 rfl (Nat.le_of_ble_eq_true rfl) dReader_readNumber_47) hS (fun r47 h47 H locs hw hP hS => ?_)
          refine lv_bipush (v := 48) S.1 S.2.1 dReader_readNumber_50 (by decide) ?_
          refine lv_isub S.1 S.2.1 dReader_readNumber_52 ?_
          refine lv_i2l S.1 S.2.1 dReader_readNumber_53 rfl ?_
          refine lv_ladd S.1 S.2.1 dReader_readNumber_54 ?_
          refine lv_topl (fun y55 e55 => ?_)
          have hw := hw y55 e55
          refine lv_lstore_n (lv' := [(3, .long y55), (0, .ref (ad 30)), (1, .int v1), (2, .int v2), (5, .int v5)]) S.1 S.2.1 dReader_readNumber_55 rfl hl (by decide) rfl (fun ls hl => ?_)
          refine lv_aload_n S.1 S.2.1 dReader_readNumber_56 rfl (lv_at hl 1 rfl) ?_
          refine lv_dup S.1 S.2.1 dReader_readNumber_57 rfl ?_
          refine zr_get S hK hP (zk (by decide)) (zF_30 _) fReader_at q268 rfl dReader_readNumber_58 ?_
          refine lv_iconst (v := 1) S.1 S.2.1 dReader_readNumber_61 (by decide) ?_
          refine lv_iadd S.1 S.2.1 dReader_readNumber_62 ?_
          refine zr_put S hK hJ hP hS (zk (by decide)) (zF_30 _) fReader_at q268 rfl rfl (Nat.le_of_ble_eq_true rfl) (zF_30 _) dReader_readNumber_63 (fun h63 H locs e63 hP hS => ?_)
          have hw := hw h63 e63
          refine lv_iinc (v := (v5 + 1)) (lv' := [(5, .int (v5 + 1)), (3, .long y55), (0, .ref (ad 30)), (1, .int v1), (2, .int v2)]) (k := 4) S.1 S.2.1 dReader_readNumber_66 hl rfl rfl (by decide) rfl (fun ls hl => ?_)
          refine lv_goto S.1 S.2.1 dReader_readNumber_69 rfl ?_
          exact ih27 _ _ _ _ _ _ _ _ hw (lv_sub hl [2, 3, 4, 1, 0] rfl) hP hS
  have J21 : ∀ (v1 : Int32) (k0 : Int32) (h : zM) (H : Heap) (locs : List Loc) (ls : Array Slot), wbReader_readNumber_21 n ln post v1 k0 h → lv_has ls 6 [(0, .ref (ad 30)), (1, .int v1)] → va_P D zcl (zW (34 + 4 * n) ad (zF ad cI cC cE n ln) h) H → va_S A s.heap H locs → W p l e rmReader_readNumber s m ([.ref (ad 30)] : List Value).toArray below meth c H locs 0 0 (zQi post D (zty cI cC cE) (34 + 4 * n) ad (zF ad cI cC cE n ln) A below ([.ref (ad 30)] : List Value).toArray s) (F0 m 21 ls [.int k0]) := by
    intro v1 k0 h H locs ls hw hl hP hS
    unfold wbReader_readNumber_21 at hw
    refine lv_istore_n (lv' := [(2, .int k0), (0, .ref (ad 30)), (1, .int v1)]) S.1 S.2.1 dReader_readNumber_21 rfl hl (by decide) rfl (fun ls hl => ?_)
    refine lv_lconst (v := 0) S.1 S.2.1 dReader_readNumber_22 (by decide) ?_
    refine lv_lstore_n (lv' := [(3, .long 0), (2, .int k0), (0, .ref (ad 30)), (1, .int v1)]) S.1 S.2.1 dReader_readNumber_23 rfl hl (by decide) rfl (fun ls hl => ?_)
    refine lv_iconst (v := 0) S.1 S.2.1 dReader_readNumber_24 (by decide) ?_
    refine lv_istore (lv' := [(5, .int 0), (3, .long 0), (2, .int k0), (0, .ref (ad 30)), (1, .int v1)]) S.1 S.2.1 dReader_readNumber_25 hl (by decide) rfl (fun ls hl => ?_)
    obtain ⟨fu, hw⟩ := hw
    exact J27 fu _ _ _ _ _ _ _ _ hw (lv_sub hl [3, 4, 2, 1, 0] rfl) hP hS
  unfold wpReader_readNumber at hw
  refine lv_aload_n S.1 S.2.1 dReader_readNumber_0 rfl (lv_at hl 0 rfl) ?_
  refine lv_bipush (v := 45) S.1 S.2.1 dReader_readNumber_1 (by decide) ?_
  refine zr_i (zr_V (As := [.int 45]) (rest := []) S hK hT hN hP hS (zk (by decide)) (zF_30 _) rfl (cReader_accept l D cI cC cE ad n ln A hJ _ _ _ hw) caReader_90 ⟨Nat.le_of_ble_eq_true rfl, Nat.le_of_ble_eq_true rfl⟩ ⟨rfl, rfl⟩ rfl hl.1 rfl (Nat.le_of_ble_eq_true rfl) dReader_readNumber_3) hS (fun r3 h3 H locs hw hP hS => ?_)
  refine lv_istore_n (lv' := [(1, .int r3), (0, .ref (ad 30))]) S.1 S.2.1 dReader_readNumber_6 rfl hl (by decide) rfl (fun ls hl => ?_)
  refine lv_aload_n S.1 S.2.1 dReader_readNumber_7 rfl (lv_at hl 1 rfl) ?_
  refine zr_i (zr_V (As := []) (rest := []) S hK hT hN hP hS (zk (by decide)) (zF_30 _) rfl (cReader_peek l D cI cC cE ad n ln A hJ _ _ hw) caReader_77 ⟨Nat.le_of_ble_eq_true rfl, Nat.le_of_ble_eq_true rfl⟩ ⟨rfl, rfl⟩ rfl hl.1 rfl (Nat.le_of_ble_eq_true rfl) dReader_readNumber_8) hS (fun r8 h8 H locs hw hP hS => ?_)
  refine lv_bipush (v := 48) S.1 S.2.1 dReader_readNumber_11 (by decide) ?_
  refine lv_icmp_ne S.1 S.2.1 dReader_readNumber_13 rfl (fun hc => ?_) (fun hc => ?_)
  · have hw := hw.1 hc
    refine lv_iconst (v := 0) S.1 S.2.1 dReader_readNumber_20 (by decide) ?_
    exact J21 _ _ _ _ _ _ hw (lv_sub hl [1, 0] rfl) hP hS
  · have hw := hw.2 hc
    refine lv_iconst (v := 1) S.1 S.2.1 dReader_readNumber_16 (by decide) ?_
    refine lv_goto S.1 S.2.1 dReader_readNumber_17 rfl ?_
    exact J21 _ _ _ _ _ _ hw (lv_sub hl [1, 0] rfl) hP hS
/-! Reader.readVariable -/
theorem dReader_readVariable_0 : decode bReader_readVariable 0 = .ok (.aload_n 0, 1) := by decide +kernel
theorem dReader_readVariable_1 : decode bReader_readVariable 1 = .ok (.invokevirtual 119, 3) := by decide +kernel
theorem dReader_readVariable_4 : decode bReader_readVariable 4 = .ok (.ifCond .eq 18, 3) := by decide +kernel
theorem dReader_readVariable_7 : decode bReader_readVariable 7 = .ok (.aload_n 0, 1) := by decide +kernel
theorem dReader_readVariable_8 : decode bReader_readVariable 8 = .ok (.invokevirtual 113, 3) := by decide +kernel
theorem dReader_readVariable_11 : decode bReader_readVariable 11 = .ok (.ifCond .eq 11, 3) := by decide +kernel
theorem dReader_readVariable_14 : decode bReader_readVariable 14 = .ok (.aload_n 0, 1) := by decide +kernel
theorem dReader_readVariable_15 : decode bReader_readVariable 15 = .ok (.getfield 116, 3) := by decide +kernel
theorem dReader_readVariable_18 : decode bReader_readVariable 18 = .ok (.iload_n 1, 1) := by decide +kernel
theorem dReader_readVariable_19 : decode bReader_readVariable 19 = .ok (.if_icmp .lt 5, 3) := by decide +kernel
theorem dReader_readVariable_22 : decode bReader_readVariable 22 = .ok (.iconst 0, 1) := by decide +kernel
theorem dReader_readVariable_23 : decode bReader_readVariable 23 = .ok (.ireturn, 1) := by decide +kernel
theorem dReader_readVariable_24 : decode bReader_readVariable 24 = .ok (.aload_n 0, 1) := by decide +kernel
theorem dReader_readVariable_25 : decode bReader_readVariable 25 = .ok (.getfield 18, 3) := by decide +kernel
theorem dReader_readVariable_28 : decode bReader_readVariable 28 = .ok (.iload_n 1, 1) := by decide +kernel
theorem dReader_readVariable_29 : decode bReader_readVariable 29 = .ok (.iload_n 2, 1) := by decide +kernel
theorem dReader_readVariable_30 : decode bReader_readVariable 30 = .ok (.iconst 0, 1) := by decide +kernel
theorem dReader_readVariable_31 : decode bReader_readVariable 31 = .ok (.aload_n 0, 1) := by decide +kernel
theorem dReader_readVariable_32 : decode bReader_readVariable 32 = .ok (.getfield 116, 3) := by decide +kernel
theorem dReader_readVariable_35 : decode bReader_readVariable 35 = .ok (.invokevirtual 109, 3) := by decide +kernel
theorem dReader_readVariable_38 : decode bReader_readVariable 38 = .ok (.aload_n 0, 1) := by decide +kernel
theorem dReader_readVariable_39 : decode bReader_readVariable 39 = .ok (.getfield 22, 3) := by decide +kernel
theorem dReader_readVariable_42 : decode bReader_readVariable 42 = .ok (.aload_n 0, 1) := by decide +kernel
theorem dReader_readVariable_43 : decode bReader_readVariable 43 = .ok (.getfield 22, 3) := by decide +kernel
theorem dReader_readVariable_46 : decode bReader_readVariable 46 = .ok (.getfield 122, 3) := by decide +kernel
theorem dReader_readVariable_49 : decode bReader_readVariable 49 = .ok (.aload_n 0, 1) := by decide +kernel
theorem dReader_readVariable_50 : decode bReader_readVariable 50 = .ok (.getfield 18, 3) := by decide +kernel
theorem dReader_readVariable_53 : decode bReader_readVariable 53 = .ok (.aload_n 0, 1) := by decide +kernel
theorem dReader_readVariable_54 : decode bReader_readVariable 54 = .ok (.getfield 116, 3) := by decide +kernel
theorem dReader_readVariable_57 : decode bReader_readVariable 57 = .ok (.invokevirtual 102, 3) := by decide +kernel
theorem dReader_readVariable_60 : decode bReader_readVariable 60 = .ok (.iaload, 1) := by decide +kernel
theorem dReader_readVariable_61 : decode bReader_readVariable 61 = .ok (.iload_n 3, 1) := by decide +kernel
theorem dReader_readVariable_62 : decode bReader_readVariable 62 = .ok (.invokevirtual 126, 3) := by decide +kernel
theorem dReader_readVariable_65 : decode bReader_readVariable 65 = .ok (.ireturn, 1) := by decide +kernel
def wpReader_readVariable (n : Nat) (ln : Nat → Nat) (x1 : Int32) (x2 : Int32) (x3 : Int32) (h : zM) (post : Int32 → zM → Prop) : Prop := wpReader_isAtDigit n ln h (fun r1 h1 => ((r1 = 0 → post 0 h1) ∧ (¬ r1 = 0 → wpReader_readNumber n ln h1 (fun r8 h8 => ((r8 = 0 → post 0 h8) ∧ (¬ r8 = 0 → ((((h8 30 5) < x1) → wpSequence_setArgument 32 x1 x2 0 (h8 30 5) h8 (fun h35 => wpSequence_operationOf 32 (h35 30 5) h35 (fun r57 h57 => (vp_in r57 10 ∧ wpCatalog_is n ln (h57 8 (Int32.toNatClampNeg r57)) x3 h57 (fun r62 h62 => ((r62 = 0 ∨ r62 = 1) ∧ post r62 h62)))))) ∧ (¬ ((h8 30 5) < x1) → post 0 h8))))))))
abbrev rmReader_readVariable : Room := { frames := 3, cells := 0, slots := 0, locals := 66 }
set_option maxHeartbeats 4000000 in
set_option maxRecDepth 100000 in
theorem cReader_readVariable (l : Launch) (D : va_G) (cI cC cE : ClassId) (ad : Nat → Nat) (n : Nat) (ln : Nat → Nat) (A : Nat → Prop) (hJ : zJ A (34 + 4 * n) ad) (x1 : Int32) (x2 : Int32) (x3 : Int32) (h : zM) (post : Int32 → zM → Prop) (hw : wpReader_readVariable n ln x1 x2 x3 h post) : Met l yReader_readVariable (.code yReader_readVariable bReader_readVariable 4 (some .boolean) :: zt) rmReader_readVariable (va_Pc [.ref (ad 30), .int x1, .int x2, .int x3] (zPre D (zty cI cC cE) (34 + 4 * n) ad (zF ad cI cC cE n ln) A h)) (va_Qi post (zPst D (zty cI cC cE) (34 + 4 * n) ad (zF ad cI cC cE n ln)) A) 0 0 A := by
  refine Met.ofW (cc := bReader_readVariable) (maxL := 4) (ret := (some .boolean)) (by decide) rfl ?_
  intro p e s m args below meth c s₁ B hml hv
  obtain ⟨rfl, hP, hK, hT, hN⟩ := hv
  have hr := B.returns
  have hlk := B.notSynchronized
  have S : zS p m c bReader_readVariable 4 s _ "CallExplorer$Reader" := ⟨B.exec, B.bytes, hml, findClass_of_methodNamed B.named, fun w hw => atoms_spec (ws := .code yReader_readVariable bReader_readVariable 4 (some .boolean) :: zt) B.pre w (List.mem_cons_of_mem _ hw)⟩
  have hS : va_S A s.heap s.heap [] := va_S.rf
  have hl := lv_entry ([.ref (ad 30), .int x1, .int x2, .int x3]) (n := 4) (Nat.le_of_ble_eq_true rfl)
  rw [lg_entry_eq]
  generalize (lg_sl ([.ref (ad 30), .int x1, .int x2, .int x3]) ++ List.replicate (4 - (lg_sl ([.ref (ad 30), .int x1, .int x2, .int x3])).length) Slot.unset).toArray = ls at hl ⊢
  have hl : lv_has ls 4 [(0, .ref (ad 30)), (1, .int x1), (2, .int x2), (3, .int x3)] := hl
  show W p l e rmReader_readVariable s m ([.ref (ad 30), .int x1, .int x2, .int x3] : List Value).toArray below meth c s.heap [] 0 0 (zQi post D (zty cI cC cE) (34 + 4 * n) ad (zF ad cI cC cE n ln) A below ([.ref (ad 30), .int x1, .int x2, .int x3] : List Value).toArray s) _
  unfold wpReader_readVariable at hw
  refine lv_aload_n S.1 S.2.1 dReader_readVariable_0 rfl (lv_at hl 0 rfl) ?_
  refine zr_i (zr_V (As := []) (rest := []) S hK hT hN hP hS (zk (by decide)) (zF_30 _) rfl (cReader_isAtDigit l D cI cC cE ad n ln A hJ _ _ hw) caReader_119 ⟨Nat.le_of_ble_eq_true rfl, Nat.le_of_ble_eq_true rfl⟩ ⟨rfl, rfl⟩ rfl hl.1 rfl (Nat.le_of_ble_eq_true rfl) dReader_readVariable_1) hS (fun r1 h1 H locs hw hP hS => ?_)
  refine lv_if_eq S.1 S.2.1 dReader_readVariable_4 rfl (fun hc => ?_) (fun hc => ?_)
  · have hw := hw.1 hc
    refine lv_iconst (v := 0) S.1 S.2.1 dReader_readVariable_22 (by decide) ?_
    exact zr_iret S hr hlk hK hP hS rfl hw dReader_readVariable_23
  · have hw := hw.2 hc
    refine lv_aload_n S.1 S.2.1 dReader_readVariable_7 rfl (lv_at hl 0 rfl) ?_
    refine zr_i (zr_V (As := []) (rest := []) S hK hT hN hP hS (zk (by decide)) (zF_30 _) rfl (cReader_readNumber l D cI cC cE ad n ln A hJ _ _ hw) caReader_113 ⟨Nat.le_of_ble_eq_true rfl, Nat.le_of_ble_eq_true rfl⟩ ⟨rfl, rfl⟩ rfl hl.1 rfl (Nat.le_of_ble_eq_true rfl) dReader_readVariable_8) hS (fun r8 h8 H locs hw hP hS => ?_)
    refine lv_if_eq S.1 S.2.1 dReader_readVariable_11 rfl (fun hc => ?_) (fun hc => ?_)
    · have hw := hw.1 hc
      refine lv_iconst (v := 0) S.1 S.2.1 dReader_readVariable_22 (by decide) ?_
      exact zr_iret S hr hlk hK hP hS rfl hw dReader_readVariable_23
    · have hw := hw.2 hc
      refine lv_aload_n S.1 S.2.1 dReader_readVariable_14 rfl (lv_at hl 0 rfl) ?_
      refine zr_get S hK hP (zk (by decide)) (zF_30 _) fReader_numberRead q269 rfl dReader_readVariable_15 ?_
      refine lv_iload_n S.1 S.2.1 dReader_readVariable_18 rfl (lv_at hl 1 rfl) ?_
      refine lv_icmp_lt S.1 S.2.1 dReader_readVariable_19 rfl (fun hc => ?_) (fun hc => ?_)
      · have hw := hw.1 hc
        refine lv_aload_n S.1 S.2.1 dReader_readVariable_24 rfl (lv_at hl 0 rfl) ?_
        refine zr_get S hK hP (zk (by decide)) (zF_30 _) fReader_sequence q266 rfl dReader_readVariable_25 ?_
        refine lv_iload_n S.1 S.2.1 dReader_readVariable_28 rfl (lv_at hl 1 rfl) ?_
        refine lv_iload_n S.1 S.2.1 dReader_readVariable_29 rfl (lv_at hl 2 rfl) ?_
        refine lv_iconst (v := 0) S.1 S.2.1 dReader_readVariable_30 (by decide) ?_
        refine lv_aload_n S.1 S.2.1 dReader_readVariable_31 rfl (lv_at hl 0 rfl) ?_
        refine zr_get S hK hP (zk (by decide)) (zF_30 _) fReader_numberRead q269 rfl dReader_readVariable_32 ?_
        refine zr_v (zr_V (As := [.int x1, .int x2, .int 0, .int (h8 30 5)]) (rest := []) S hK hT hN hP hS (zk (by decide)) (zF_32 _) rfl (cSequence_setArgument l D (zty cI cC cE) (34 + 4 * n) ad (zF ad cI cC cE n ln) A hJ cI rfl 32 zs_32 _ _ _ _ _ _ hw) caReader_109 ⟨Nat.le_of_ble_eq_true rfl, Nat.le_of_ble_eq_true rfl⟩ ⟨rfl, rfl⟩ rfl hl.1 rfl (Nat.le_of_ble_eq_true rfl) dReader_readVariable_35) hS (fun h35 H locs hw hP hS => ?_)
        refine lv_aload_n S.1 S.2.1 dReader_readVariable_38 rfl (lv_at hl 0 rfl) ?_
        refine zr_get S hK hP (zk (by decide)) (zF_30 _) fReader_catalog q263 rfl dReader_readVariable_39 ?_
        refine lv_aload_n S.1 S.2.1 dReader_readVariable_42 rfl (lv_at hl 0 rfl) ?_
        refine zr_get S hK hP (zk (by decide)) (zF_30 _) fReader_catalog q263 rfl dReader_readVariable_43 ?_
        refine zr_get S hK hP (zk (by decide)) (zF_1 _) fCatalog_resultTypes q48 rfl dReader_readVariable_46 ?_
        refine lv_aload_n S.1 S.2.1 dReader_readVariable_49 rfl (lv_at hl 0 rfl) ?_
        refine zr_get S hK hP (zk (by decide)) (zF_30 _) fReader_sequence q266 rfl dReader_readVariable_50 ?_
        refine lv_aload_n S.1 S.2.1 dReader_readVariable_53 rfl (lv_at hl 0 rfl) ?_
        refine zr_get S hK hP (zk (by decide)) (zF_30 _) fReader_numberRead q269 rfl dReader_readVariable_54 ?_
        refine zr_i (zr_V (As := [.int (h35 30 5)]) (rest := [.ref (ad 8), .ref (ad 1)]) S hK hT hN hP hS (zk (by decide)) (zF_32 _) rfl (cSequence_operationOf l D (zty cI cC cE) (34 + 4 * n) ad (zF ad cI cC cE n ln) A hJ cI rfl 32 zs_32 _ _ _ hw) caReader_102 ⟨Nat.le_of_ble_eq_true rfl, Nat.le_of_ble_eq_true rfl⟩ ⟨rfl, rfl⟩ rfl hl.1 rfl (Nat.le_of_ble_eq_true rfl) dReader_readVariable_57) hS (fun r57 h57 H locs hw hP hS => ?_)
        obtain ⟨z60, hw⟩ := hw
        refine zr_ald S hK hP (zk (by decide)) (zF_8 _) 0 rfl z60 dReader_readVariable_60 ?_
        refine lv_iload_n S.1 S.2.1 dReader_readVariable_61 rfl (lv_at hl 3 rfl) ?_
        refine zr_i (zr_V (As := [.int (h57 8 (Int32.toNatClampNeg r57)), .int x3]) (rest := []) S hK hT hN hP hS (zk (by decide)) (zF_1 _) rfl (cCatalog_is l D cI cC cE ad n ln A hJ _ _ _ _ hw) caReader_126 ⟨Nat.le_of_ble_eq_true rfl, Nat.le_of_ble_eq_true rfl⟩ ⟨rfl, rfl⟩ rfl hl.1 rfl (Nat.le_of_ble_eq_true rfl) dReader_readVariable_62) hS (fun r62 h62 H locs hw hP hS => ?_)
        exact zr_iret S hr hlk hK hP hS (zbn hw.1) hw.2 dReader_readVariable_65
      · have hw := hw.2 hc
        refine lv_iconst (v := 0) S.1 S.2.1 dReader_readVariable_22 (by decide) ?_
        exact zr_iret S hr hlk hK hP hS rfl hw dReader_readVariable_23
/-! Reader.readArgument -/
theorem dReader_readArgument_0 : decode bReader_readArgument 0 = .ok (.aload_n 0, 1) := by decide +kernel
theorem dReader_readArgument_1 : decode bReader_readArgument 1 = .ok (.getfield 22, 3) := by decide +kernel
theorem dReader_readArgument_4 : decode bReader_readArgument 4 = .ok (.aload_n 0, 1) := by decide +kernel
theorem dReader_readArgument_5 : decode bReader_readArgument 5 = .ok (.getfield 18, 3) := by decide +kernel
theorem dReader_readArgument_8 : decode bReader_readArgument 8 = .ok (.iload_n 1, 1) := by decide +kernel
theorem dReader_readArgument_9 : decode bReader_readArgument 9 = .ok (.invokevirtual 102, 3) := by decide +kernel
theorem dReader_readArgument_12 : decode bReader_readArgument 12 = .ok (.iload_n 2, 1) := by decide +kernel
theorem dReader_readArgument_13 : decode bReader_readArgument 13 = .ok (.invokevirtual 98, 3) := by decide +kernel
theorem dReader_readArgument_16 : decode bReader_readArgument 16 = .ok (.istore_n 3, 1) := by decide +kernel
theorem dReader_readArgument_17 : decode bReader_readArgument 17 = .ok (.aload_n 0, 1) := by decide +kernel
theorem dReader_readArgument_18 : decode bReader_readArgument 18 = .ok (.bipush 118, 2) := by decide +kernel
theorem dReader_readArgument_20 : decode bReader_readArgument 20 = .ok (.invokevirtual 90, 3) := by decide +kernel
theorem dReader_readArgument_23 : decode bReader_readArgument 23 = .ok (.ifCond .eq 11, 3) := by decide +kernel
theorem dReader_readArgument_26 : decode bReader_readArgument 26 = .ok (.aload_n 0, 1) := by decide +kernel
theorem dReader_readArgument_27 : decode bReader_readArgument 27 = .ok (.iload_n 1, 1) := by decide +kernel
theorem dReader_readArgument_28 : decode bReader_readArgument 28 = .ok (.iload_n 2, 1) := by decide +kernel
theorem dReader_readArgument_29 : decode bReader_readArgument 29 = .ok (.iload_n 3, 1) := by decide +kernel
theorem dReader_readArgument_30 : decode bReader_readArgument 30 = .ok (.invokevirtual 105, 3) := by decide +kernel
theorem dReader_readArgument_33 : decode bReader_readArgument 33 = .ok (.ireturn, 1) := by decide +kernel
theorem dReader_readArgument_34 : decode bReader_readArgument 34 = .ok (.iload_n 3, 1) := by decide +kernel
theorem dReader_readArgument_35 : decode bReader_readArgument 35 = .ok (.ifCond .eq 21, 3) := by decide +kernel
theorem dReader_readArgument_38 : decode bReader_readArgument 38 = .ok (.aload_n 0, 1) := by decide +kernel
theorem dReader_readArgument_39 : decode bReader_readArgument 39 = .ok (.getfield 18, 3) := by decide +kernel
theorem dReader_readArgument_42 : decode bReader_readArgument 42 = .ok (.iload_n 1, 1) := by decide +kernel
theorem dReader_readArgument_43 : decode bReader_readArgument 43 = .ok (.iload_n 2, 1) := by decide +kernel
theorem dReader_readArgument_44 : decode bReader_readArgument 44 = .ok (.iconst 2, 1) := by decide +kernel
theorem dReader_readArgument_45 : decode bReader_readArgument 45 = .ok (.iconst 0, 1) := by decide +kernel
theorem dReader_readArgument_46 : decode bReader_readArgument 46 = .ok (.invokevirtual 109, 3) := by decide +kernel
theorem dReader_readArgument_49 : decode bReader_readArgument 49 = .ok (.aload_n 0, 1) := by decide +kernel
theorem dReader_readArgument_50 : decode bReader_readArgument 50 = .ok (.bipush 110, 2) := by decide +kernel
theorem dReader_readArgument_52 : decode bReader_readArgument 52 = .ok (.invokevirtual 90, 3) := by decide +kernel
theorem dReader_readArgument_55 : decode bReader_readArgument 55 = .ok (.ireturn, 1) := by decide +kernel
theorem dReader_readArgument_56 : decode bReader_readArgument 56 = .ok (.aload_n 0, 1) := by decide +kernel
theorem dReader_readArgument_57 : decode bReader_readArgument 57 = .ok (.invokevirtual 113, 3) := by decide +kernel
theorem dReader_readArgument_60 : decode bReader_readArgument 60 = .ok (.istore 4, 2) := by decide +kernel
theorem dReader_readArgument_62 : decode bReader_readArgument 62 = .ok (.aload_n 0, 1) := by decide +kernel
theorem dReader_readArgument_63 : decode bReader_readArgument 63 = .ok (.getfield 18, 3) := by decide +kernel
theorem dReader_readArgument_66 : decode bReader_readArgument 66 = .ok (.iload_n 1, 1) := by decide +kernel
theorem dReader_readArgument_67 : decode bReader_readArgument 67 = .ok (.iload_n 2, 1) := by decide +kernel
theorem dReader_readArgument_68 : decode bReader_readArgument 68 = .ok (.iconst 1, 1) := by decide +kernel
theorem dReader_readArgument_69 : decode bReader_readArgument 69 = .ok (.aload_n 0, 1) := by decide +kernel
theorem dReader_readArgument_70 : decode bReader_readArgument 70 = .ok (.getfield 116, 3) := by decide +kernel
theorem dReader_readArgument_73 : decode bReader_readArgument 73 = .ok (.invokevirtual 109, 3) := by decide +kernel
theorem dReader_readArgument_76 : decode bReader_readArgument 76 = .ok (.iload 4, 2) := by decide +kernel
theorem dReader_readArgument_78 : decode bReader_readArgument 78 = .ok (.ireturn, 1) := by decide +kernel
def wpReader_readArgument (n : Nat) (ln : Nat → Nat) (x1 : Int32) (x2 : Int32) (h : zM) (post : Int32 → zM → Prop) : Prop := wpSequence_operationOf 32 x1 h (fun r9 h9 => wpCatalog_argumentType n ln r9 x2 h9 (fun r13 h13 => wpReader_accept n ln 118 h13 (fun r20 h20 => ((r20 = 0 → ((r13 = 0 → wpReader_readNumber n ln h20 (fun r57 h57 => wpSequence_setArgument 32 x1 x2 1 (h57 30 5) h57 (fun h73 => ((r57 = 0 ∨ r57 = 1) ∧ post r57 h73)))) ∧ (¬ r13 = 0 → wpSequence_setArgument 32 x1 x2 2 0 h20 (fun h46 => wpReader_accept n ln 110 h46 (fun r52 h52 => ((r52 = 0 ∨ r52 = 1) ∧ post r52 h52)))))) ∧ (¬ r20 = 0 → wpReader_readVariable n ln x1 x2 r13 h20 (fun r30 h30 => ((r30 = 0 ∨ r30 = 1) ∧ post r30 h30)))))))
abbrev rmReader_readArgument : Room := { frames := 4, cells := 0, slots := 0, locals := 89 }
set_option maxHeartbeats 4000000 in
set_option maxRecDepth 100000 in
theorem cReader_readArgument (l : Launch) (D : va_G) (cI cC cE : ClassId) (ad : Nat → Nat) (n : Nat) (ln : Nat → Nat) (A : Nat → Prop) (hJ : zJ A (34 + 4 * n) ad) (x1 : Int32) (x2 : Int32) (h : zM) (post : Int32 → zM → Prop) (hw : wpReader_readArgument n ln x1 x2 h post) : Met l yReader_readArgument (.code yReader_readArgument bReader_readArgument 5 (some .boolean) :: zt) rmReader_readArgument (va_Pc [.ref (ad 30), .int x1, .int x2] (zPre D (zty cI cC cE) (34 + 4 * n) ad (zF ad cI cC cE n ln) A h)) (va_Qi post (zPst D (zty cI cC cE) (34 + 4 * n) ad (zF ad cI cC cE n ln)) A) 0 0 A := by
  refine Met.ofW (cc := bReader_readArgument) (maxL := 5) (ret := (some .boolean)) (by decide) rfl ?_
  intro p e s m args below meth c s₁ B hml hv
  obtain ⟨rfl, hP, hK, hT, hN⟩ := hv
  have hr := B.returns
  have hlk := B.notSynchronized
  have S : zS p m c bReader_readArgument 5 s _ "CallExplorer$Reader" := ⟨B.exec, B.bytes, hml, findClass_of_methodNamed B.named, fun w hw => atoms_spec (ws := .code yReader_readArgument bReader_readArgument 5 (some .boolean) :: zt) B.pre w (List.mem_cons_of_mem _ hw)⟩
  have hS : va_S A s.heap s.heap [] := va_S.rf
  have hl := lv_entry ([.ref (ad 30), .int x1, .int x2]) (n := 5) (Nat.le_of_ble_eq_true rfl)
  rw [lg_entry_eq]
  generalize (lg_sl ([.ref (ad 30), .int x1, .int x2]) ++ List.replicate (5 - (lg_sl ([.ref (ad 30), .int x1, .int x2])).length) Slot.unset).toArray = ls at hl ⊢
  have hl : lv_has ls 5 [(0, .ref (ad 30)), (1, .int x1), (2, .int x2)] := hl
  show W p l e rmReader_readArgument s m ([.ref (ad 30), .int x1, .int x2] : List Value).toArray below meth c s.heap [] 0 0 (zQi post D (zty cI cC cE) (34 + 4 * n) ad (zF ad cI cC cE n ln) A below ([.ref (ad 30), .int x1, .int x2] : List Value).toArray s) _
  unfold wpReader_readArgument at hw
  refine lv_aload_n S.1 S.2.1 dReader_readArgument_0 rfl (lv_at hl 0 rfl) ?_
  refine zr_get S hK hP (zk (by decide)) (zF_30 _) fReader_catalog q263 rfl dReader_readArgument_1 ?_
  refine lv_aload_n S.1 S.2.1 dReader_readArgument_4 rfl (lv_at hl 0 rfl) ?_
  refine zr_get S hK hP (zk (by decide)) (zF_30 _) fReader_sequence q266 rfl dReader_readArgument_5 ?_
  refine lv_iload_n S.1 S.2.1 dReader_readArgument_8 rfl (lv_at hl 1 rfl) ?_
  refine zr_i (zr_V (As := [.int x1]) (rest := [.ref (ad 1)]) S hK hT hN hP hS (zk (by decide)) (zF_32 _) rfl (cSequence_operationOf l D (zty cI cC cE) (34 + 4 * n) ad (zF ad cI cC cE n ln) A hJ cI rfl 32 zs_32 _ _ _ hw) caReader_102 ⟨Nat.le_of_ble_eq_true rfl, Nat.le_of_ble_eq_true rfl⟩ ⟨rfl, rfl⟩ rfl hl.1 rfl (Nat.le_of_ble_eq_true rfl) dReader_readArgument_9) hS (fun r9 h9 H locs hw hP hS => ?_)
  refine lv_iload_n S.1 S.2.1 dReader_readArgument_12 rfl (lv_at hl 2 rfl) ?_
  refine zr_i (zr_V (As := [.int r9, .int x2]) (rest := []) S hK hT hN hP hS (zk (by decide)) (zF_1 _) rfl (cCatalog_argumentType l D cI cC cE ad n ln A hJ _ _ _ _ hw) caReader_98 ⟨Nat.le_of_ble_eq_true rfl, Nat.le_of_ble_eq_true rfl⟩ ⟨rfl, rfl⟩ rfl hl.1 rfl (Nat.le_of_ble_eq_true rfl) dReader_readArgument_13) hS (fun r13 h13 H locs hw hP hS => ?_)
  refine lv_istore_n (lv' := [(3, .int r13), (0, .ref (ad 30)), (1, .int x1), (2, .int x2)]) S.1 S.2.1 dReader_readArgument_16 rfl hl (by decide) rfl (fun ls hl => ?_)
  refine lv_aload_n S.1 S.2.1 dReader_readArgument_17 rfl (lv_at hl 1 rfl) ?_
  refine lv_bipush (v := 118) S.1 S.2.1 dReader_readArgument_18 (by decide) ?_
  refine zr_i (zr_V (As := [.int 118]) (rest := []) S hK hT hN hP hS (zk (by decide)) (zF_30 _) rfl (cReader_accept l D cI cC cE ad n ln A hJ _ _ _ hw) caReader_90 ⟨Nat.le_of_ble_eq_true rfl, Nat.le_of_ble_eq_true rfl⟩ ⟨rfl, rfl⟩ rfl hl.1 rfl (Nat.le_of_ble_eq_true rfl) dReader_readArgument_20) hS (fun r20 h20 H locs hw hP hS => ?_)
  refine lv_if_eq S.1 S.2.1 dReader_readArgument_23 rfl (fun hc => ?_) (fun hc => ?_)
  · have hw := hw.1 hc
    refine lv_iload_n S.1 S.2.1 dReader_readArgument_34 rfl (lv_at hl 0 rfl) ?_
    refine lv_if_eq S.1 S.2.1 dReader_readArgument_35 rfl (fun hc => ?_) (fun hc => ?_)
    · have hw := hw.1 hc
      refine lv_aload_n S.1 S.2.1 dReader_readArgument_56 rfl (lv_at hl 1 rfl) ?_
      refine zr_i (zr_V (As := []) (rest := []) S hK hT hN hP hS (zk (by decide)) (zF_30 _) rfl (cReader_readNumber l D cI cC cE ad n ln A hJ _ _ hw) caReader_113 ⟨Nat.le_of_ble_eq_true rfl, Nat.le_of_ble_eq_true rfl⟩ ⟨rfl, rfl⟩ rfl hl.1 rfl (Nat.le_of_ble_eq_true rfl) dReader_readArgument_57) hS (fun r57 h57 H locs hw hP hS => ?_)
      refine lv_istore (lv' := [(4, .int r57), (3, .int r13), (0, .ref (ad 30)), (1, .int x1), (2, .int x2)]) S.1 S.2.1 dReader_readArgument_60 hl (by decide) rfl (fun ls hl => ?_)
      refine lv_aload_n S.1 S.2.1 dReader_readArgument_62 rfl (lv_at hl 2 rfl) ?_
      refine zr_get S hK hP (zk (by decide)) (zF_30 _) fReader_sequence q266 rfl dReader_readArgument_63 ?_
      refine lv_iload_n S.1 S.2.1 dReader_readArgument_66 rfl (lv_at hl 3 rfl) ?_
      refine lv_iload_n S.1 S.2.1 dReader_readArgument_67 rfl (lv_at hl 4 rfl) ?_
      refine lv_iconst (v := 1) S.1 S.2.1 dReader_readArgument_68 (by decide) ?_
      refine lv_aload_n S.1 S.2.1 dReader_readArgument_69 rfl (lv_at hl 2 rfl) ?_
      refine zr_get S hK hP (zk (by decide)) (zF_30 _) fReader_numberRead q269 rfl dReader_readArgument_70 ?_
      refine zr_v (zr_V (As := [.int x1, .int x2, .int 1, .int (h57 30 5)]) (rest := []) S hK hT hN hP hS (zk (by decide)) (zF_32 _) rfl (cSequence_setArgument l D (zty cI cC cE) (34 + 4 * n) ad (zF ad cI cC cE n ln) A hJ cI rfl 32 zs_32 _ _ _ _ _ _ hw) caReader_109 ⟨Nat.le_of_ble_eq_true rfl, Nat.le_of_ble_eq_true rfl⟩ ⟨rfl, rfl⟩ rfl hl.1 rfl (Nat.le_of_ble_eq_true rfl) dReader_readArgument_73) hS (fun h73 H locs hw hP hS => ?_)
      refine lv_iload S.1 S.2.1 dReader_readArgument_76 (lv_at hl 0 rfl) ?_
      exact zr_iret S hr hlk hK hP hS (zbn hw.1) hw.2 dReader_readArgument_78
    · have hw := hw.2 hc
      refine lv_aload_n S.1 S.2.1 dReader_readArgument_38 rfl (lv_at hl 1 rfl) ?_
      refine zr_get S hK hP (zk (by decide)) (zF_30 _) fReader_sequence q266 rfl dReader_readArgument_39 ?_
      refine lv_iload_n S.1 S.2.1 dReader_readArgument_42 rfl (lv_at hl 2 rfl) ?_
      refine lv_iload_n S.1 S.2.1 dReader_readArgument_43 rfl (lv_at hl 3 rfl) ?_
      refine lv_iconst (v := 2) S.1 S.2.1 dReader_readArgument_44 (by decide) ?_
      refine lv_iconst (v := 0) S.1 S.2.1 dReader_readArgument_45 (by decide) ?_
      refine zr_v (zr_V (As := [.int x1, .int x2, .int 2, .int 0]) (rest := []) S hK hT hN hP hS (zk (by decide)) (zF_32 _) rfl (cSequence_setArgument l D (zty cI cC cE) (34 + 4 * n) ad (zF ad cI cC cE n ln) A hJ cI rfl 32 zs_32 _ _ _ _ _ _ hw) caReader_109 ⟨Nat.le_of_ble_eq_true rfl, Nat.le_of_ble_eq_true rfl⟩ ⟨rfl, rfl⟩ rfl hl.1 rfl (Nat.le_of_ble_eq_true rfl) dReader_readArgument_46) hS (fun h46 H locs hw hP hS => ?_)
      refine lv_aload_n S.1 S.2.1 dReader_readArgument_49 rfl (lv_at hl 1 rfl) ?_
      refine lv_bipush (v := 110) S.1 S.2.1 dReader_readArgument_50 (by decide) ?_
      refine zr_i (zr_V (As := [.int 110]) (rest := []) S hK hT hN hP hS (zk (by decide)) (zF_30 _) rfl (cReader_accept l D cI cC cE ad n ln A hJ _ _ _ hw) caReader_90 ⟨Nat.le_of_ble_eq_true rfl, Nat.le_of_ble_eq_true rfl⟩ ⟨rfl, rfl⟩ rfl hl.1 rfl (Nat.le_of_ble_eq_true rfl) dReader_readArgument_52) hS (fun r52 h52 H locs hw hP hS => ?_)
      exact zr_iret S hr hlk hK hP hS (zbn hw.1) hw.2 dReader_readArgument_55
  · have hw := hw.2 hc
    refine lv_aload_n S.1 S.2.1 dReader_readArgument_26 rfl (lv_at hl 1 rfl) ?_
    refine lv_iload_n S.1 S.2.1 dReader_readArgument_27 rfl (lv_at hl 2 rfl) ?_
    refine lv_iload_n S.1 S.2.1 dReader_readArgument_28 rfl (lv_at hl 3 rfl) ?_
    refine lv_iload_n S.1 S.2.1 dReader_readArgument_29 rfl (lv_at hl 0 rfl) ?_
    refine zr_i (zr_V (As := [.int x1, .int x2, .int r13]) (rest := []) S hK hT hN hP hS (zk (by decide)) (zF_30 _) rfl (cReader_readVariable l D cI cC cE ad n ln A hJ _ _ _ _ _ hw) caReader_105 ⟨Nat.le_of_ble_eq_true rfl, Nat.le_of_ble_eq_true rfl⟩ ⟨rfl, rfl⟩ rfl hl.1 rfl (Nat.le_of_ble_eq_true rfl) dReader_readArgument_30) hS (fun r30 h30 H locs hw hP hS => ?_)
    exact zr_iret S hr hlk hK hP hS (zbn hw.1) hw.2 dReader_readArgument_33
/-! Reader.readCall -/
theorem dReader_readCall_0 : decode bReader_readCall 0 = .ok (.aload_n 0, 1) := by decide +kernel
theorem dReader_readCall_1 : decode bReader_readCall 1 = .ok (.invokevirtual 77, 3) := by decide +kernel
theorem dReader_readCall_4 : decode bReader_readCall 4 = .ok (.bipush 97, 2) := by decide +kernel
theorem dReader_readCall_6 : decode bReader_readCall 6 = .ok (.isub, 1) := by decide +kernel
theorem dReader_readCall_7 : decode bReader_readCall 7 = .ok (.istore_n 1, 1) := by decide +kernel
theorem dReader_readCall_8 : decode bReader_readCall 8 = .ok (.iload_n 1, 1) := by decide +kernel
theorem dReader_readCall_9 : decode bReader_readCall 9 = .ok (.ifCond .lt 14, 3) := by decide +kernel
theorem dReader_readCall_12 : decode bReader_readCall 12 = .ok (.iload_n 1, 1) := by decide +kernel
theorem dReader_readCall_13 : decode bReader_readCall 13 = .ok (.aload_n 0, 1) := by decide +kernel
theorem dReader_readCall_14 : decode bReader_readCall 14 = .ok (.getfield 22, 3) := by decide +kernel
theorem dReader_readCall_17 : decode bReader_readCall 17 = .ok (.getfield 81, 3) := by decide +kernel
theorem dReader_readCall_20 : decode bReader_readCall 20 = .ok (.if_icmp .lt 5, 3) := by decide +kernel
theorem dReader_readCall_23 : decode bReader_readCall 23 = .ok (.iconst 0, 1) := by decide +kernel
theorem dReader_readCall_24 : decode bReader_readCall 24 = .ok (.ireturn, 1) := by decide +kernel
theorem dReader_readCall_25 : decode bReader_readCall 25 = .ok (.aload_n 0, 1) := by decide +kernel
theorem dReader_readCall_26 : decode bReader_readCall 26 = .ok (.dup, 1) := by decide +kernel
theorem dReader_readCall_27 : decode bReader_readCall 27 = .ok (.getfield 40, 3) := by decide +kernel
theorem dReader_readCall_30 : decode bReader_readCall 30 = .ok (.iconst 1, 1) := by decide +kernel
theorem dReader_readCall_31 : decode bReader_readCall 31 = .ok (.iadd, 1) := by decide +kernel
theorem dReader_readCall_32 : decode bReader_readCall 32 = .ok (.putfield 40, 3) := by decide +kernel
theorem dReader_readCall_35 : decode bReader_readCall 35 = .ok (.aload_n 0, 1) := by decide +kernel
theorem dReader_readCall_36 : decode bReader_readCall 36 = .ok (.getfield 18, 3) := by decide +kernel
theorem dReader_readCall_39 : decode bReader_readCall 39 = .ok (.iload_n 1, 1) := by decide +kernel
theorem dReader_readCall_40 : decode bReader_readCall 40 = .ok (.invokevirtual 86, 3) := by decide +kernel
theorem dReader_readCall_43 : decode bReader_readCall 43 = .ok (.istore_n 2, 1) := by decide +kernel
theorem dReader_readCall_44 : decode bReader_readCall 44 = .ok (.aload_n 0, 1) := by decide +kernel
theorem dReader_readCall_45 : decode bReader_readCall 45 = .ok (.bipush 40, 2) := by decide +kernel
theorem dReader_readCall_47 : decode bReader_readCall 47 = .ok (.invokevirtual 90, 3) := by decide +kernel
theorem dReader_readCall_50 : decode bReader_readCall 50 = .ok (.ifCond .eq 56, 3) := by decide +kernel
theorem dReader_readCall_53 : decode bReader_readCall 53 = .ok (.aload_n 0, 1) := by decide +kernel
theorem dReader_readCall_54 : decode bReader_readCall 54 = .ok (.iload_n 2, 1) := by decide +kernel
theorem dReader_readCall_55 : decode bReader_readCall 55 = .ok (.iconst 0, 1) := by decide +kernel
theorem dReader_readCall_56 : decode bReader_readCall 56 = .ok (.invokevirtual 94, 3) := by decide +kernel
theorem dReader_readCall_59 : decode bReader_readCall 59 = .ok (.ifCond .eq 47, 3) := by decide +kernel
theorem dReader_readCall_62 : decode bReader_readCall 62 = .ok (.aload_n 0, 1) := by decide +kernel
theorem dReader_readCall_63 : decode bReader_readCall 63 = .ok (.getfield 22, 3) := by decide +kernel
theorem dReader_readCall_66 : decode bReader_readCall 66 = .ok (.iload_n 1, 1) := by decide +kernel
theorem dReader_readCall_67 : decode bReader_readCall 67 = .ok (.iconst 1, 1) := by decide +kernel
theorem dReader_readCall_68 : decode bReader_readCall 68 = .ok (.invokevirtual 98, 3) := by decide +kernel
theorem dReader_readCall_71 : decode bReader_readCall 71 = .ok (.iconst (-1), 1) := by decide +kernel
theorem dReader_readCall_72 : decode bReader_readCall 72 = .ok (.if_icmp .eq 21, 3) := by decide +kernel
theorem dReader_readCall_75 : decode bReader_readCall 75 = .ok (.aload_n 0, 1) := by decide +kernel
theorem dReader_readCall_76 : decode bReader_readCall 76 = .ok (.bipush 44, 2) := by decide +kernel
theorem dReader_readCall_78 : decode bReader_readCall 78 = .ok (.invokevirtual 90, 3) := by decide +kernel
theorem dReader_readCall_81 : decode bReader_readCall 81 = .ok (.ifCond .eq 25, 3) := by decide +kernel
theorem dReader_readCall_84 : decode bReader_readCall 84 = .ok (.aload_n 0, 1) := by decide +kernel
theorem dReader_readCall_85 : decode bReader_readCall 85 = .ok (.iload_n 2, 1) := by decide +kernel
theorem dReader_readCall_86 : decode bReader_readCall 86 = .ok (.iconst 1, 1) := by decide +kernel
theorem dReader_readCall_87 : decode bReader_readCall 87 = .ok (.invokevirtual 94, 3) := by decide +kernel
theorem dReader_readCall_90 : decode bReader_readCall 90 = .ok (.ifCond .eq 16, 3) := by decide +kernel
theorem dReader_readCall_93 : decode bReader_readCall 93 = .ok (.aload_n 0, 1) := by decide +kernel
theorem dReader_readCall_94 : decode bReader_readCall 94 = .ok (.bipush 41, 2) := by decide +kernel
theorem dReader_readCall_96 : decode bReader_readCall 96 = .ok (.invokevirtual 90, 3) := by decide +kernel
theorem dReader_readCall_99 : decode bReader_readCall 99 = .ok (.ifCond .eq 7, 3) := by decide +kernel
theorem dReader_readCall_102 : decode bReader_readCall 102 = .ok (.iconst 1, 1) := by decide +kernel
theorem dReader_readCall_103 : decode bReader_readCall 103 = .ok (.goto 4, 3) := by decide +kernel
theorem dReader_readCall_106 : decode bReader_readCall 106 = .ok (.iconst 0, 1) := by decide +kernel
theorem dReader_readCall_107 : decode bReader_readCall 107 = .ok (.ireturn, 1) := by decide +kernel
def wbReader_readCall_93 (n : Nat) (ln : Nat → Nat) (post : Int32 → zM → Prop) (h : zM) : Prop := wpReader_accept n ln 41 h (fun r96 h96 => ((r96 = 0 → post 0 h96) ∧ (¬ r96 = 0 → post 1 h96)))
def wpReader_readCall (n : Nat) (ln : Nat → Nat) (h : zM) (post : Int32 → zM → Prop) : Prop := wpReader_peek n ln h (fun r1 h1 => ∀ y7 : Int32, y7 = (r1 - 97) → (((y7 < 0) → post 0 h1) ∧ (¬ (y7 < 0) → (((y7 < (h1 1 1)) → ∀ h32 : zM, h32 = zu h1 30 4 ((h1 30 4) + 1) → wpSequence_push 32 y7 h32 (fun r40 h40 => wpReader_accept n ln 40 h40 (fun r47 h47 => ((r47 = 0 → post 0 h47) ∧ (¬ r47 = 0 → wpReader_readArgument n ln r40 0 h47 (fun r56 h56 => ((r56 = 0 → post 0 h56) ∧ (¬ r56 = 0 → wpCatalog_argumentType n ln y7 1 h56 (fun r68 h68 => ((r68 = (-1) → wbReader_readCall_93 n ln post h68) ∧ (¬ r68 = (-1) → wpReader_accept n ln 44 h68 (fun r78 h78 => ((r78 = 0 → post 0 h78) ∧ (¬ r78 = 0 → wpReader_readArgument n ln r40 1 h78 (fun r87 h87 => ((r87 = 0 → post 0 h87) ∧ (¬ r87 = 0 → wbReader_readCall_93 n ln post h87))))))))))))))))) ∧ (¬ (y7 < (h1 1 1)) → post 0 h1)))))
abbrev rmReader_readCall : Room := { frames := 5, cells := 0, slots := 0, locals := 113 }
set_option maxHeartbeats 4000000 in
set_option maxRecDepth 100000 in
theorem cReader_readCall (l : Launch) (D : va_G) (cI cC cE : ClassId) (ad : Nat → Nat) (n : Nat) (ln : Nat → Nat) (A : Nat → Prop) (hJ : zJ A (34 + 4 * n) ad) (h : zM) (post : Int32 → zM → Prop) (hw : wpReader_readCall n ln h post) : Met l yReader_readCall (.code yReader_readCall bReader_readCall 3 (some .boolean) :: zt) rmReader_readCall (va_Pc [.ref (ad 30)] (zPre D (zty cI cC cE) (34 + 4 * n) ad (zF ad cI cC cE n ln) A h)) (va_Qi post (zPst D (zty cI cC cE) (34 + 4 * n) ad (zF ad cI cC cE n ln)) A) 0 0 A := by
  refine Met.ofW (cc := bReader_readCall) (maxL := 3) (ret := (some .boolean)) (by decide) rfl ?_
  intro p e s m args below meth c s₁ B hml hv
  obtain ⟨rfl, hP, hK, hT, hN⟩ := hv
  have hr := B.returns
  have hlk := B.notSynchronized
  have S : zS p m c bReader_readCall 3 s _ "CallExplorer$Reader" := ⟨B.exec, B.bytes, hml, findClass_of_methodNamed B.named, fun w hw => atoms_spec (ws := .code yReader_readCall bReader_readCall 3 (some .boolean) :: zt) B.pre w (List.mem_cons_of_mem _ hw)⟩
  have hS : va_S A s.heap s.heap [] := va_S.rf
  have hl := lv_entry ([.ref (ad 30)]) (n := 3) (Nat.le_of_ble_eq_true rfl)
  rw [lg_entry_eq]
  generalize (lg_sl ([.ref (ad 30)]) ++ List.replicate (3 - (lg_sl ([.ref (ad 30)])).length) Slot.unset).toArray = ls at hl ⊢
  have hl : lv_has ls 3 [(0, .ref (ad 30))] := hl
  show W p l e rmReader_readCall s m ([.ref (ad 30)] : List Value).toArray below meth c s.heap [] 0 0 (zQi post D (zty cI cC cE) (34 + 4 * n) ad (zF ad cI cC cE n ln) A below ([.ref (ad 30)] : List Value).toArray s) _
  have J93 : ∀ (h : zM) (H : Heap) (locs : List Loc) (ls : Array Slot), wbReader_readCall_93 n ln post h → lv_has ls 3 [(0, .ref (ad 30))] → va_P D zcl (zW (34 + 4 * n) ad (zF ad cI cC cE n ln) h) H → va_S A s.heap H locs → W p l e rmReader_readCall s m ([.ref (ad 30)] : List Value).toArray below meth c H locs 0 0 (zQi post D (zty cI cC cE) (34 + 4 * n) ad (zF ad cI cC cE n ln) A below ([.ref (ad 30)] : List Value).toArray s) (F0 m 93 ls []) := by
    intro  h H locs ls hw hl hP hS
    unfold wbReader_readCall_93 at hw
    refine lv_aload_n S.1 S.2.1 dReader_readCall_93 rfl (lv_at hl 0 rfl) ?_
    refine lv_bipush (v := 41) S.1 S.2.1 dReader_readCall_94 (by decide) ?_
    refine zr_i (zr_V (As := [.int 41]) (rest := []) S hK hT hN hP hS (zk (by decide)) (zF_30 _) rfl (cReader_accept l D cI cC cE ad n ln A hJ _ _ _ hw) caReader_90 ⟨Nat.le_of_ble_eq_true rfl, Nat.le_of_ble_eq_true rfl⟩ ⟨rfl, rfl⟩ rfl hl.1 rfl (Nat.le_of_ble_eq_true rfl) dReader_readCall_96) hS (fun r96 h96 H locs hw hP hS => ?_)
    refine lv_if_eq S.1 S.2.1 dReader_readCall_99 rfl (fun hc => ?_) (fun hc => ?_)
    · have hw := hw.1 hc
      refine lv_iconst (v := 0) S.1 S.2.1 dReader_readCall_106 (by decide) ?_
      exact zr_iret S hr hlk hK hP hS rfl hw dReader_readCall_107
    · have hw := hw.2 hc
      refine lv_iconst (v := 1) S.1 S.2.1 dReader_readCall_102 (by decide) ?_
      refine lv_goto S.1 S.2.1 dReader_readCall_103 rfl ?_
      exact zr_iret S hr hlk hK hP hS rfl hw dReader_readCall_107
  unfold wpReader_readCall at hw
  refine lv_aload_n S.1 S.2.1 dReader_readCall_0 rfl (lv_at hl 0 rfl) ?_
  refine zr_i (zr_V (As := []) (rest := []) S hK hT hN hP hS (zk (by decide)) (zF_30 _) rfl (cReader_peek l D cI cC cE ad n ln A hJ _ _ hw) caReader_77 ⟨Nat.le_of_ble_eq_true rfl, Nat.le_of_ble_eq_true rfl⟩ ⟨rfl, rfl⟩ rfl hl.1 rfl (Nat.le_of_ble_eq_true rfl) dReader_readCall_1) hS (fun r1 h1 H locs hw hP hS => ?_)
  refine lv_bipush (v := 97) S.1 S.2.1 dReader_readCall_4 (by decide) ?_
  refine lv_isub S.1 S.2.1 dReader_readCall_6 ?_
  refine lv_topi (fun y7 e7 => ?_)
  have hw := hw y7 e7
  refine lv_istore_n (lv' := [(1, .int y7), (0, .ref (ad 30))]) S.1 S.2.1 dReader_readCall_7 rfl hl (by decide) rfl (fun ls hl => ?_)
  refine lv_iload_n S.1 S.2.1 dReader_readCall_8 rfl (lv_at hl 0 rfl) ?_
  refine lv_if_lt S.1 S.2.1 dReader_readCall_9 rfl (fun hc => ?_) (fun hc => ?_)
  · have hw := hw.1 hc
    refine lv_iconst (v := 0) S.1 S.2.1 dReader_readCall_23 (by decide) ?_
    exact zr_iret S hr hlk hK hP hS rfl hw dReader_readCall_24
  · have hw := hw.2 hc
    refine lv_iload_n S.1 S.2.1 dReader_readCall_12 rfl (lv_at hl 0 rfl) ?_
    refine lv_aload_n S.1 S.2.1 dReader_readCall_13 rfl (lv_at hl 1 rfl) ?_
    refine zr_get S hK hP (zk (by decide)) (zF_30 _) fReader_catalog q263 rfl dReader_readCall_14 ?_
    refine zr_get S hK hP (zk (by decide)) (zF_1 _) fCatalog_operations q33 rfl dReader_readCall_17 ?_
    refine lv_icmp_lt S.1 S.2.1 dReader_readCall_20 rfl (fun hc => ?_) (fun hc => ?_)
    · have hw := hw.1 hc
      refine lv_aload_n S.1 S.2.1 dReader_readCall_25 rfl (lv_at hl 1 rfl) ?_
      refine lv_dup S.1 S.2.1 dReader_readCall_26 rfl ?_
      refine zr_get S hK hP (zk (by decide)) (zF_30 _) fReader_at q268 rfl dReader_readCall_27 ?_
      refine lv_iconst (v := 1) S.1 S.2.1 dReader_readCall_30 (by decide) ?_
      refine lv_iadd S.1 S.2.1 dReader_readCall_31 ?_
      refine zr_put S hK hJ hP hS (zk (by decide)) (zF_30 _) fReader_at q268 rfl rfl (Nat.le_of_ble_eq_true rfl) (zF_30 _) dReader_readCall_32 (fun h32 H locs e32 hP hS => ?_)
      have hw := hw h32 e32
      refine lv_aload_n S.1 S.2.1 dReader_readCall_35 rfl (lv_at hl 1 rfl) ?_
      refine zr_get S hK hP (zk (by decide)) (zF_30 _) fReader_sequence q266 rfl dReader_readCall_36 ?_
      refine lv_iload_n S.1 S.2.1 dReader_readCall_39 rfl (lv_at hl 0 rfl) ?_
      refine zr_i (zr_V (As := [.int y7]) (rest := []) S hK hT hN hP hS (zk (by decide)) (zF_32 _) rfl (cSequence_push l D (zty cI cC cE) (34 + 4 * n) ad (zF ad cI cC cE n ln) A hJ cI rfl 32 zs_32 _ _ _ hw) caReader_86 ⟨Nat.le_of_ble_eq_true rfl, Nat.le_of_ble_eq_true rfl⟩ ⟨rfl, rfl⟩ rfl hl.1 rfl (Nat.le_of_ble_eq_true rfl) dReader_readCall_40) hS (fun r40 h40 H locs hw hP hS => ?_)
      refine lv_istore_n (lv' := [(2, .int r40), (1, .int y7), (0, .ref (ad 30))]) S.1 S.2.1 dReader_readCall_43 rfl hl (by decide) rfl (fun ls hl => ?_)
      refine lv_aload_n S.1 S.2.1 dReader_readCall_44 rfl (lv_at hl 2 rfl) ?_
      refine lv_bipush (v := 40) S.1 S.2.1 dReader_readCall_45 (by decide) ?_
      refine zr_i (zr_V (As := [.int 40]) (rest := []) S hK hT hN hP hS (zk (by decide)) (zF_30 _) rfl (cReader_accept l D cI cC cE ad n ln A hJ _ _ _ hw) caReader_90 ⟨Nat.le_of_ble_eq_true rfl, Nat.le_of_ble_eq_true rfl⟩ ⟨rfl, rfl⟩ rfl hl.1 rfl (Nat.le_of_ble_eq_true rfl) dReader_readCall_47) hS (fun r47 h47 H locs hw hP hS => ?_)
      refine lv_if_eq S.1 S.2.1 dReader_readCall_50 rfl (fun hc => ?_) (fun hc => ?_)
      · have hw := hw.1 hc
        refine lv_iconst (v := 0) S.1 S.2.1 dReader_readCall_106 (by decide) ?_
        exact zr_iret S hr hlk hK hP hS rfl hw dReader_readCall_107
      · have hw := hw.2 hc
        refine lv_aload_n S.1 S.2.1 dReader_readCall_53 rfl (lv_at hl 2 rfl) ?_
        refine lv_iload_n S.1 S.2.1 dReader_readCall_54 rfl (lv_at hl 0 rfl) ?_
        refine lv_iconst (v := 0) S.1 S.2.1 dReader_readCall_55 (by decide) ?_
        refine zr_i (zr_V (As := [.int r40, .int 0]) (rest := []) S hK hT hN hP hS (zk (by decide)) (zF_30 _) rfl (cReader_readArgument l D cI cC cE ad n ln A hJ _ _ _ _ hw) caReader_94 ⟨Nat.le_of_ble_eq_true rfl, Nat.le_of_ble_eq_true rfl⟩ ⟨rfl, rfl⟩ rfl hl.1 rfl (Nat.le_of_ble_eq_true rfl) dReader_readCall_56) hS (fun r56 h56 H locs hw hP hS => ?_)
        refine lv_if_eq S.1 S.2.1 dReader_readCall_59 rfl (fun hc => ?_) (fun hc => ?_)
        · have hw := hw.1 hc
          refine lv_iconst (v := 0) S.1 S.2.1 dReader_readCall_106 (by decide) ?_
          exact zr_iret S hr hlk hK hP hS rfl hw dReader_readCall_107
        · have hw := hw.2 hc
          refine lv_aload_n S.1 S.2.1 dReader_readCall_62 rfl (lv_at hl 2 rfl) ?_
          refine zr_get S hK hP (zk (by decide)) (zF_30 _) fReader_catalog q263 rfl dReader_readCall_63 ?_
          refine lv_iload_n S.1 S.2.1 dReader_readCall_66 rfl (lv_at hl 1 rfl) ?_
          refine lv_iconst (v := 1) S.1 S.2.1 dReader_readCall_67 (by decide) ?_
          refine zr_i (zr_V (As := [.int y7, .int 1]) (rest := []) S hK hT hN hP hS (zk (by decide)) (zF_1 _) rfl (cCatalog_argumentType l D cI cC cE ad n ln A hJ _ _ _ _ hw) caReader_98 ⟨Nat.le_of_ble_eq_true rfl, Nat.le_of_ble_eq_true rfl⟩ ⟨rfl, rfl⟩ rfl hl.1 rfl (Nat.le_of_ble_eq_true rfl) dReader_readCall_68) hS (fun r68 h68 H locs hw hP hS => ?_)
          refine lv_iconst (v := (-1)) S.1 S.2.1 dReader_readCall_71 (by decide) ?_
          refine lv_icmp_eq S.1 S.2.1 dReader_readCall_72 rfl (fun hc => ?_) (fun hc => ?_)
          · have hw := hw.1 hc
            exact J93  _ _ _ _ hw (lv_sub hl [2] rfl) hP hS
          · have hw := hw.2 hc
            refine lv_aload_n S.1 S.2.1 dReader_readCall_75 rfl (lv_at hl 2 rfl) ?_
            refine lv_bipush (v := 44) S.1 S.2.1 dReader_readCall_76 (by decide) ?_
            refine zr_i (zr_V (As := [.int 44]) (rest := []) S hK hT hN hP hS (zk (by decide)) (zF_30 _) rfl (cReader_accept l D cI cC cE ad n ln A hJ _ _ _ hw) caReader_90 ⟨Nat.le_of_ble_eq_true rfl, Nat.le_of_ble_eq_true rfl⟩ ⟨rfl, rfl⟩ rfl hl.1 rfl (Nat.le_of_ble_eq_true rfl) dReader_readCall_78) hS (fun r78 h78 H locs hw hP hS => ?_)
            refine lv_if_eq S.1 S.2.1 dReader_readCall_81 rfl (fun hc => ?_) (fun hc => ?_)
            · have hw := hw.1 hc
              refine lv_iconst (v := 0) S.1 S.2.1 dReader_readCall_106 (by decide) ?_
              exact zr_iret S hr hlk hK hP hS rfl hw dReader_readCall_107
            · have hw := hw.2 hc
              refine lv_aload_n S.1 S.2.1 dReader_readCall_84 rfl (lv_at hl 2 rfl) ?_
              refine lv_iload_n S.1 S.2.1 dReader_readCall_85 rfl (lv_at hl 0 rfl) ?_
              refine lv_iconst (v := 1) S.1 S.2.1 dReader_readCall_86 (by decide) ?_
              refine zr_i (zr_V (As := [.int r40, .int 1]) (rest := []) S hK hT hN hP hS (zk (by decide)) (zF_30 _) rfl (cReader_readArgument l D cI cC cE ad n ln A hJ _ _ _ _ hw) caReader_94 ⟨Nat.le_of_ble_eq_true rfl, Nat.le_of_ble_eq_true rfl⟩ ⟨rfl, rfl⟩ rfl hl.1 rfl (Nat.le_of_ble_eq_true rfl) dReader_readCall_87) hS (fun r87 h87 H locs hw hP hS => ?_)
              refine lv_if_eq S.1 S.2.1 dReader_readCall_90 rfl (fun hc => ?_) (fun hc => ?_)
              · have hw := hw.1 hc
                refine lv_iconst (v := 0) S.1 S.2.1 dReader_readCall_106 (by decide) ?_
                exact zr_iret S hr hlk hK hP hS rfl hw dReader_readCall_107
              · have hw := hw.2 hc
                exact J93  _ _ _ _ hw (lv_sub hl [2] rfl) hP hS
    · have hw := hw.2 hc
      refine lv_iconst (v := 0) S.1 S.2.1 dReader_readCall_23 (by decide) ?_
      exact zr_iret S hr hlk hK hP hS rfl hw dReader_readCall_24
/-! Reader.readDetail -/
theorem dReader_readDetail_0 : decode bReader_readDetail 0 = .ok (.aload_n 0, 1) := by decide +kernel
theorem dReader_readDetail_1 : decode bReader_readDetail 1 = .ok (.aload_n 0, 1) := by decide +kernel
theorem dReader_readDetail_2 : decode bReader_readDetail 2 = .ok (.invokevirtual 77, 3) := by decide +kernel
theorem dReader_readDetail_5 : decode bReader_readDetail 5 = .ok (.bipush 48, 2) := by decide +kernel
theorem dReader_readDetail_7 : decode bReader_readDetail 7 = .ok (.isub, 1) := by decide +kernel
theorem dReader_readDetail_8 : decode bReader_readDetail 8 = .ok (.putfield 65, 3) := by decide +kernel
theorem dReader_readDetail_11 : decode bReader_readDetail 11 = .ok (.aload_n 0, 1) := by decide +kernel
theorem dReader_readDetail_12 : decode bReader_readDetail 12 = .ok (.dup, 1) := by decide +kernel
theorem dReader_readDetail_13 : decode bReader_readDetail 13 = .ok (.getfield 40, 3) := by decide +kernel
theorem dReader_readDetail_16 : decode bReader_readDetail 16 = .ok (.iconst 1, 1) := by decide +kernel
theorem dReader_readDetail_17 : decode bReader_readDetail 17 = .ok (.iadd, 1) := by decide +kernel
theorem dReader_readDetail_18 : decode bReader_readDetail 18 = .ok (.putfield 40, 3) := by decide +kernel
theorem dReader_readDetail_21 : decode bReader_readDetail 21 = .ok (.aload_n 0, 1) := by decide +kernel
theorem dReader_readDetail_22 : decode bReader_readDetail 22 = .ok (.getfield 65, 3) := by decide +kernel
theorem dReader_readDetail_25 : decode bReader_readDetail 25 = .ok (.iconst 1, 1) := by decide +kernel
theorem dReader_readDetail_26 : decode bReader_readDetail 26 = .ok (.if_icmp .lt 15, 3) := by decide +kernel
theorem dReader_readDetail_29 : decode bReader_readDetail 29 = .ok (.aload_n 0, 1) := by decide +kernel
theorem dReader_readDetail_30 : decode bReader_readDetail 30 = .ok (.getfield 65, 3) := by decide +kernel
theorem dReader_readDetail_33 : decode bReader_readDetail 33 = .ok (.iload_n 1, 1) := by decide +kernel
theorem dReader_readDetail_34 : decode bReader_readDetail 34 = .ok (.if_icmp .gt 7, 3) := by decide +kernel
theorem dReader_readDetail_37 : decode bReader_readDetail 37 = .ok (.iconst 1, 1) := by decide +kernel
theorem dReader_readDetail_38 : decode bReader_readDetail 38 = .ok (.goto 4, 3) := by decide +kernel
theorem dReader_readDetail_41 : decode bReader_readDetail 41 = .ok (.iconst 0, 1) := by decide +kernel
theorem dReader_readDetail_42 : decode bReader_readDetail 42 = .ok (.ireturn, 1) := by decide +kernel
def wpReader_readDetail (n : Nat) (ln : Nat → Nat) (x1 : Int32) (h : zM) (post : Int32 → zM → Prop) : Prop := wpReader_peek n ln h (fun r2 h2 => ∀ h8 : zM, h8 = zu h2 30 7 (r2 - 48) → ∀ h18 : zM, h18 = zu h8 30 4 ((h8 30 4) + 1) → ((((h18 30 7) < 1) → post 0 h18) ∧ (¬ ((h18 30 7) < 1) → (((x1 < (h18 30 7)) → post 0 h18) ∧ (¬ (x1 < (h18 30 7)) → post 1 h18)))))
abbrev rmReader_readDetail : Room := { frames := 1, cells := 0, slots := 0, locals := 20 }
set_option maxHeartbeats 4000000 in
set_option maxRecDepth 100000 in
theorem cReader_readDetail (l : Launch) (D : va_G) (cI cC cE : ClassId) (ad : Nat → Nat) (n : Nat) (ln : Nat → Nat) (A : Nat → Prop) (hJ : zJ A (34 + 4 * n) ad) (x1 : Int32) (h : zM) (post : Int32 → zM → Prop) (hw : wpReader_readDetail n ln x1 h post) : Met l yReader_readDetail (.code yReader_readDetail bReader_readDetail 2 (some .boolean) :: zt) rmReader_readDetail (va_Pc [.ref (ad 30), .int x1] (zPre D (zty cI cC cE) (34 + 4 * n) ad (zF ad cI cC cE n ln) A h)) (va_Qi post (zPst D (zty cI cC cE) (34 + 4 * n) ad (zF ad cI cC cE n ln)) A) 0 0 A := by
  refine Met.ofW (cc := bReader_readDetail) (maxL := 2) (ret := (some .boolean)) (by decide) rfl ?_
  intro p e s m args below meth c s₁ B hml hv
  obtain ⟨rfl, hP, hK, hT, hN⟩ := hv
  have hr := B.returns
  have hlk := B.notSynchronized
  have S : zS p m c bReader_readDetail 2 s _ "CallExplorer$Reader" := ⟨B.exec, B.bytes, hml, findClass_of_methodNamed B.named, fun w hw => atoms_spec (ws := .code yReader_readDetail bReader_readDetail 2 (some .boolean) :: zt) B.pre w (List.mem_cons_of_mem _ hw)⟩
  have hS : va_S A s.heap s.heap [] := va_S.rf
  have hl := lv_entry ([.ref (ad 30), .int x1]) (n := 2) (Nat.le_of_ble_eq_true rfl)
  rw [lg_entry_eq]
  generalize (lg_sl ([.ref (ad 30), .int x1]) ++ List.replicate (2 - (lg_sl ([.ref (ad 30), .int x1])).length) Slot.unset).toArray = ls at hl ⊢
  have hl : lv_has ls 2 [(0, .ref (ad 30)), (1, .int x1)] := hl
  show W p l e rmReader_readDetail s m ([.ref (ad 30), .int x1] : List Value).toArray below meth c s.heap [] 0 0 (zQi post D (zty cI cC cE) (34 + 4 * n) ad (zF ad cI cC cE n ln) A below ([.ref (ad 30), .int x1] : List Value).toArray s) _
  unfold wpReader_readDetail at hw
  refine lv_aload_n S.1 S.2.1 dReader_readDetail_0 rfl (lv_at hl 0 rfl) ?_
  refine lv_aload_n S.1 S.2.1 dReader_readDetail_1 rfl (lv_at hl 0 rfl) ?_
  refine zr_i (zr_V (As := []) (rest := [.ref (ad 30)]) S hK hT hN hP hS (zk (by decide)) (zF_30 _) rfl (cReader_peek l D cI cC cE ad n ln A hJ _ _ hw) caReader_77 ⟨Nat.le_of_ble_eq_true rfl, Nat.le_of_ble_eq_true rfl⟩ ⟨rfl, rfl⟩ rfl hl.1 rfl (Nat.le_of_ble_eq_true rfl) dReader_readDetail_2) hS (fun r2 h2 H locs hw hP hS => ?_)
  refine lv_bipush (v := 48) S.1 S.2.1 dReader_readDetail_5 (by decide) ?_
  refine lv_isub S.1 S.2.1 dReader_readDetail_7 ?_
  refine zr_put S hK hJ hP hS (zk (by decide)) (zF_30 _) fReader_detail q271 rfl rfl (Nat.le_of_ble_eq_true rfl) (zF_30 _) dReader_readDetail_8 (fun h8 H locs e8 hP hS => ?_)
  have hw := hw h8 e8
  refine lv_aload_n S.1 S.2.1 dReader_readDetail_11 rfl (lv_at hl 0 rfl) ?_
  refine lv_dup S.1 S.2.1 dReader_readDetail_12 rfl ?_
  refine zr_get S hK hP (zk (by decide)) (zF_30 _) fReader_at q268 rfl dReader_readDetail_13 ?_
  refine lv_iconst (v := 1) S.1 S.2.1 dReader_readDetail_16 (by decide) ?_
  refine lv_iadd S.1 S.2.1 dReader_readDetail_17 ?_
  refine zr_put S hK hJ hP hS (zk (by decide)) (zF_30 _) fReader_at q268 rfl rfl (Nat.le_of_ble_eq_true rfl) (zF_30 _) dReader_readDetail_18 (fun h18 H locs e18 hP hS => ?_)
  have hw := hw h18 e18
  refine lv_aload_n S.1 S.2.1 dReader_readDetail_21 rfl (lv_at hl 0 rfl) ?_
  refine zr_get S hK hP (zk (by decide)) (zF_30 _) fReader_detail q271 rfl dReader_readDetail_22 ?_
  refine lv_iconst (v := 1) S.1 S.2.1 dReader_readDetail_25 (by decide) ?_
  refine lv_icmp_lt S.1 S.2.1 dReader_readDetail_26 rfl (fun hc => ?_) (fun hc => ?_)
  · have hw := hw.1 hc
    refine lv_iconst (v := 0) S.1 S.2.1 dReader_readDetail_41 (by decide) ?_
    exact zr_iret S hr hlk hK hP hS rfl hw dReader_readDetail_42
  · have hw := hw.2 hc
    refine lv_aload_n S.1 S.2.1 dReader_readDetail_29 rfl (lv_at hl 0 rfl) ?_
    refine zr_get S hK hP (zk (by decide)) (zF_30 _) fReader_detail q271 rfl dReader_readDetail_30 ?_
    refine lv_iload_n S.1 S.2.1 dReader_readDetail_33 rfl (lv_at hl 1 rfl) ?_
    refine lv_icmp_gt S.1 S.2.1 dReader_readDetail_34 rfl (fun hc => ?_) (fun hc => ?_)
    · have hw := hw.1 hc
      refine lv_iconst (v := 0) S.1 S.2.1 dReader_readDetail_41 (by decide) ?_
      exact zr_iret S hr hlk hK hP hS rfl hw dReader_readDetail_42
    · have hw := hw.2 hc
      refine lv_iconst (v := 1) S.1 S.2.1 dReader_readDetail_37 (by decide) ?_
      refine lv_goto S.1 S.2.1 dReader_readDetail_38 rfl ?_
      exact zr_iret S hr hlk hK hP hS rfl hw dReader_readDetail_42
/-! Reader.readResult -/
theorem dReader_readResult_0 : decode bReader_readResult 0 = .ok (.aload_n 0, 1) := by decide +kernel
theorem dReader_readResult_1 : decode bReader_readResult 1 = .ok (.bipush 110, 2) := by decide +kernel
theorem dReader_readResult_3 : decode bReader_readResult 3 = .ok (.invokevirtual 90, 3) := by decide +kernel
theorem dReader_readResult_6 : decode bReader_readResult 6 = .ok (.ifCond .eq 10, 3) := by decide +kernel
theorem dReader_readResult_9 : decode bReader_readResult 9 = .ok (.aload_n 0, 1) := by decide +kernel
theorem dReader_readResult_10 : decode bReader_readResult 10 = .ok (.iconst 2, 1) := by decide +kernel
theorem dReader_readResult_11 : decode bReader_readResult 11 = .ok (.putfield 69, 3) := by decide +kernel
theorem dReader_readResult_14 : decode bReader_readResult 14 = .ok (.iconst 1, 1) := by decide +kernel
theorem dReader_readResult_15 : decode bReader_readResult 15 = .ok (.ireturn, 1) := by decide +kernel
theorem dReader_readResult_16 : decode bReader_readResult 16 = .ok (.aload_n 0, 1) := by decide +kernel
theorem dReader_readResult_17 : decode bReader_readResult 17 = .ok (.bipush 111, 2) := by decide +kernel
theorem dReader_readResult_19 : decode bReader_readResult 19 = .ok (.invokevirtual 90, 3) := by decide +kernel
theorem dReader_readResult_22 : decode bReader_readResult 22 = .ok (.ifCond .eq 10, 3) := by decide +kernel
theorem dReader_readResult_25 : decode bReader_readResult 25 = .ok (.aload_n 0, 1) := by decide +kernel
theorem dReader_readResult_26 : decode bReader_readResult 26 = .ok (.iconst 3, 1) := by decide +kernel
theorem dReader_readResult_27 : decode bReader_readResult 27 = .ok (.putfield 69, 3) := by decide +kernel
theorem dReader_readResult_30 : decode bReader_readResult 30 = .ok (.iconst 1, 1) := by decide +kernel
theorem dReader_readResult_31 : decode bReader_readResult 31 = .ok (.ireturn, 1) := by decide +kernel
theorem dReader_readResult_32 : decode bReader_readResult 32 = .ok (.aload_n 0, 1) := by decide +kernel
theorem dReader_readResult_33 : decode bReader_readResult 33 = .ok (.iconst 1, 1) := by decide +kernel
theorem dReader_readResult_34 : decode bReader_readResult 34 = .ok (.putfield 69, 3) := by decide +kernel
theorem dReader_readResult_37 : decode bReader_readResult 37 = .ok (.aload_n 0, 1) := by decide +kernel
theorem dReader_readResult_38 : decode bReader_readResult 38 = .ok (.invokevirtual 113, 3) := by decide +kernel
theorem dReader_readResult_41 : decode bReader_readResult 41 = .ok (.istore_n 1, 1) := by decide +kernel
theorem dReader_readResult_42 : decode bReader_readResult 42 = .ok (.aload_n 0, 1) := by decide +kernel
theorem dReader_readResult_43 : decode bReader_readResult 43 = .ok (.aload_n 0, 1) := by decide +kernel
theorem dReader_readResult_44 : decode bReader_readResult 44 = .ok (.getfield 116, 3) := by decide +kernel
theorem dReader_readResult_47 : decode bReader_readResult 47 = .ok (.putfield 73, 3) := by decide +kernel
theorem dReader_readResult_50 : decode bReader_readResult 50 = .ok (.iload_n 1, 1) := by decide +kernel
theorem dReader_readResult_51 : decode bReader_readResult 51 = .ok (.ireturn, 1) := by decide +kernel
def wpReader_readResult (n : Nat) (ln : Nat → Nat) (h : zM) (post : Int32 → zM → Prop) : Prop := wpReader_accept n ln 110 h (fun r3 h3 => ((r3 = 0 → wpReader_accept n ln 111 h3 (fun r19 h19 => ((r19 = 0 → ∀ h34 : zM, h34 = zu h19 30 8 1 → wpReader_readNumber n ln h34 (fun r38 h38 => ∀ h47 : zM, h47 = zu h38 30 9 (h38 30 5) → ((r38 = 0 ∨ r38 = 1) ∧ post r38 h47))) ∧ (¬ r19 = 0 → ∀ h27 : zM, h27 = zu h19 30 8 3 → post 1 h27)))) ∧ (¬ r3 = 0 → ∀ h11 : zM, h11 = zu h3 30 8 2 → post 1 h11)))
abbrev rmReader_readResult : Room := { frames := 3, cells := 0, slots := 0, locals := 66 }
set_option maxHeartbeats 4000000 in
set_option maxRecDepth 100000 in
theorem cReader_readResult (l : Launch) (D : va_G) (cI cC cE : ClassId) (ad : Nat → Nat) (n : Nat) (ln : Nat → Nat) (A : Nat → Prop) (hJ : zJ A (34 + 4 * n) ad) (h : zM) (post : Int32 → zM → Prop) (hw : wpReader_readResult n ln h post) : Met l yReader_readResult (.code yReader_readResult bReader_readResult 2 (some .boolean) :: zt) rmReader_readResult (va_Pc [.ref (ad 30)] (zPre D (zty cI cC cE) (34 + 4 * n) ad (zF ad cI cC cE n ln) A h)) (va_Qi post (zPst D (zty cI cC cE) (34 + 4 * n) ad (zF ad cI cC cE n ln)) A) 0 0 A := by
  refine Met.ofW (cc := bReader_readResult) (maxL := 2) (ret := (some .boolean)) (by decide) rfl ?_
  intro p e s m args below meth c s₁ B hml hv
  obtain ⟨rfl, hP, hK, hT, hN⟩ := hv
  have hr := B.returns
  have hlk := B.notSynchronized
  have S : zS p m c bReader_readResult 2 s _ "CallExplorer$Reader" := ⟨B.exec, B.bytes, hml, findClass_of_methodNamed B.named, fun w hw => atoms_spec (ws := .code yReader_readResult bReader_readResult 2 (some .boolean) :: zt) B.pre w (List.mem_cons_of_mem _ hw)⟩
  have hS : va_S A s.heap s.heap [] := va_S.rf
  have hl := lv_entry ([.ref (ad 30)]) (n := 2) (Nat.le_of_ble_eq_true rfl)
  rw [lg_entry_eq]
  generalize (lg_sl ([.ref (ad 30)]) ++ List.replicate (2 - (lg_sl ([.ref (ad 30)])).length) Slot.unset).toArray = ls at hl ⊢
  have hl : lv_has ls 2 [(0, .ref (ad 30))] := hl
  show W p l e rmReader_readResult s m ([.ref (ad 30)] : List Value).toArray below meth c s.heap [] 0 0 (zQi post D (zty cI cC cE) (34 + 4 * n) ad (zF ad cI cC cE n ln) A below ([.ref (ad 30)] : List Value).toArray s) _
  unfold wpReader_readResult at hw
  refine lv_aload_n S.1 S.2.1 dReader_readResult_0 rfl (lv_at hl 0 rfl) ?_
  refine lv_bipush (v := 110) S.1 S.2.1 dReader_readResult_1 (by decide) ?_
  refine zr_i (zr_V (As := [.int 110]) (rest := []) S hK hT hN hP hS (zk (by decide)) (zF_30 _) rfl (cReader_accept l D cI cC cE ad n ln A hJ _ _ _ hw) caReader_90 ⟨Nat.le_of_ble_eq_true rfl, Nat.le_of_ble_eq_true rfl⟩ ⟨rfl, rfl⟩ rfl hl.1 rfl (Nat.le_of_ble_eq_true rfl) dReader_readResult_3) hS (fun r3 h3 H locs hw hP hS => ?_)
  refine lv_if_eq S.1 S.2.1 dReader_readResult_6 rfl (fun hc => ?_) (fun hc => ?_)
  · have hw := hw.1 hc
    refine lv_aload_n S.1 S.2.1 dReader_readResult_16 rfl (lv_at hl 0 rfl) ?_
    refine lv_bipush (v := 111) S.1 S.2.1 dReader_readResult_17 (by decide) ?_
    refine zr_i (zr_V (As := [.int 111]) (rest := []) S hK hT hN hP hS (zk (by decide)) (zF_30 _) rfl (cReader_accept l D cI cC cE ad n ln A hJ _ _ _ hw) caReader_90 ⟨Nat.le_of_ble_eq_true rfl, Nat.le_of_ble_eq_true rfl⟩ ⟨rfl, rfl⟩ rfl hl.1 rfl (Nat.le_of_ble_eq_true rfl) dReader_readResult_19) hS (fun r19 h19 H locs hw hP hS => ?_)
    refine lv_if_eq S.1 S.2.1 dReader_readResult_22 rfl (fun hc => ?_) (fun hc => ?_)
    · have hw := hw.1 hc
      refine lv_aload_n S.1 S.2.1 dReader_readResult_32 rfl (lv_at hl 0 rfl) ?_
      refine lv_iconst (v := 1) S.1 S.2.1 dReader_readResult_33 (by decide) ?_
      refine zr_put S hK hJ hP hS (zk (by decide)) (zF_30 _) fReader_gave q272 rfl rfl (Nat.le_of_ble_eq_true rfl) (zF_30 _) dReader_readResult_34 (fun h34 H locs e34 hP hS => ?_)
      have hw := hw h34 e34
      refine lv_aload_n S.1 S.2.1 dReader_readResult_37 rfl (lv_at hl 0 rfl) ?_
      refine zr_i (zr_V (As := []) (rest := []) S hK hT hN hP hS (zk (by decide)) (zF_30 _) rfl (cReader_readNumber l D cI cC cE ad n ln A hJ _ _ hw) caReader_113 ⟨Nat.le_of_ble_eq_true rfl, Nat.le_of_ble_eq_true rfl⟩ ⟨rfl, rfl⟩ rfl hl.1 rfl (Nat.le_of_ble_eq_true rfl) dReader_readResult_38) hS (fun r38 h38 H locs hw hP hS => ?_)
      refine lv_istore_n (lv' := [(1, .int r38), (0, .ref (ad 30))]) S.1 S.2.1 dReader_readResult_41 rfl hl (by decide) rfl (fun ls hl => ?_)
      refine lv_aload_n S.1 S.2.1 dReader_readResult_42 rfl (lv_at hl 1 rfl) ?_
      refine lv_aload_n S.1 S.2.1 dReader_readResult_43 rfl (lv_at hl 1 rfl) ?_
      refine zr_get S hK hP (zk (by decide)) (zF_30 _) fReader_numberRead q269 rfl dReader_readResult_44 ?_
      refine zr_put S hK hJ hP hS (zk (by decide)) (zF_30 _) fReader_number q273 rfl rfl (Nat.le_of_ble_eq_true rfl) (zF_30 _) dReader_readResult_47 (fun h47 H locs e47 hP hS => ?_)
      have hw := hw h47 e47
      refine lv_iload_n S.1 S.2.1 dReader_readResult_50 rfl (lv_at hl 0 rfl) ?_
      exact zr_iret S hr hlk hK hP hS (zbn hw.1) hw.2 dReader_readResult_51
    · have hw := hw.2 hc
      refine lv_aload_n S.1 S.2.1 dReader_readResult_25 rfl (lv_at hl 0 rfl) ?_
      refine lv_iconst (v := 3) S.1 S.2.1 dReader_readResult_26 (by decide) ?_
      refine zr_put S hK hJ hP hS (zk (by decide)) (zF_30 _) fReader_gave q272 rfl rfl (Nat.le_of_ble_eq_true rfl) (zF_30 _) dReader_readResult_27 (fun h27 H locs e27 hP hS => ?_)
      have hw := hw h27 e27
      refine lv_iconst (v := 1) S.1 S.2.1 dReader_readResult_30 (by decide) ?_
      exact zr_iret S hr hlk hK hP hS rfl hw dReader_readResult_31
  · have hw := hw.2 hc
    refine lv_aload_n S.1 S.2.1 dReader_readResult_9 rfl (lv_at hl 0 rfl) ?_
    refine lv_iconst (v := 2) S.1 S.2.1 dReader_readResult_10 (by decide) ?_
    refine zr_put S hK hJ hP hS (zk (by decide)) (zF_30 _) fReader_gave q272 rfl rfl (Nat.le_of_ble_eq_true rfl) (zF_30 _) dReader_readResult_11 (fun h11 H locs e11 hP hS => ?_)
    have hw := hw h11 e11
    refine lv_iconst (v := 1) S.1 S.2.1 dReader_readResult_14 (by decide) ?_
    exact zr_iret S hr hlk hK hP hS rfl hw dReader_readResult_15
/-! Reader.readEnd -/
theorem dReader_readEnd_0 : decode bReader_readEnd 0 = .ok (.aload_n 0, 1) := by decide +kernel
theorem dReader_readEnd_1 : decode bReader_readEnd 1 = .ok (.iconst 0, 1) := by decide +kernel
theorem dReader_readEnd_2 : decode bReader_readEnd 2 = .ok (.putfield 65, 3) := by decide +kernel
theorem dReader_readEnd_5 : decode bReader_readEnd 5 = .ok (.aload_n 0, 1) := by decide +kernel
theorem dReader_readEnd_6 : decode bReader_readEnd 6 = .ok (.iconst 0, 1) := by decide +kernel
theorem dReader_readEnd_7 : decode bReader_readEnd 7 = .ok (.putfield 69, 3) := by decide +kernel
theorem dReader_readEnd_10 : decode bReader_readEnd 10 = .ok (.aload_n 0, 1) := by decide +kernel
theorem dReader_readEnd_11 : decode bReader_readEnd 11 = .ok (.iconst 0, 1) := by decide +kernel
theorem dReader_readEnd_12 : decode bReader_readEnd 12 = .ok (.putfield 73, 3) := by decide +kernel
theorem dReader_readEnd_15 : decode bReader_readEnd 15 = .ok (.aload_n 0, 1) := by decide +kernel
theorem dReader_readEnd_16 : decode bReader_readEnd 16 = .ok (.bipush 33, 2) := by decide +kernel
theorem dReader_readEnd_18 : decode bReader_readEnd 18 = .ok (.invokevirtual 90, 3) := by decide +kernel
theorem dReader_readEnd_21 : decode bReader_readEnd 21 = .ok (.ifCond .eq 14, 3) := by decide +kernel
theorem dReader_readEnd_24 : decode bReader_readEnd 24 = .ok (.aload_n 0, 1) := by decide +kernel
theorem dReader_readEnd_25 : decode bReader_readEnd 25 = .ok (.iconst 2, 1) := by decide +kernel
theorem dReader_readEnd_26 : decode bReader_readEnd 26 = .ok (.putfield 59, 3) := by decide +kernel
theorem dReader_readEnd_29 : decode bReader_readEnd 29 = .ok (.aload_n 0, 1) := by decide +kernel
theorem dReader_readEnd_30 : decode bReader_readEnd 30 = .ok (.iconst 5, 1) := by decide +kernel
theorem dReader_readEnd_31 : decode bReader_readEnd 31 = .ok (.invokevirtual 131, 3) := by decide +kernel
theorem dReader_readEnd_34 : decode bReader_readEnd 34 = .ok (.ireturn, 1) := by decide +kernel
theorem dReader_readEnd_35 : decode bReader_readEnd 35 = .ok (.aload_n 0, 1) := by decide +kernel
theorem dReader_readEnd_36 : decode bReader_readEnd 36 = .ok (.bipush 63, 2) := by decide +kernel
theorem dReader_readEnd_38 : decode bReader_readEnd 38 = .ok (.invokevirtual 90, 3) := by decide +kernel
theorem dReader_readEnd_41 : decode bReader_readEnd 41 = .ok (.ifCond .eq 14, 3) := by decide +kernel
theorem dReader_readEnd_44 : decode bReader_readEnd 44 = .ok (.aload_n 0, 1) := by decide +kernel
theorem dReader_readEnd_45 : decode bReader_readEnd 45 = .ok (.iconst 3, 1) := by decide +kernel
theorem dReader_readEnd_46 : decode bReader_readEnd 46 = .ok (.putfield 59, 3) := by decide +kernel
theorem dReader_readEnd_49 : decode bReader_readEnd 49 = .ok (.aload_n 0, 1) := by decide +kernel
theorem dReader_readEnd_50 : decode bReader_readEnd 50 = .ok (.iconst 4, 1) := by decide +kernel
theorem dReader_readEnd_51 : decode bReader_readEnd 51 = .ok (.invokevirtual 131, 3) := by decide +kernel
theorem dReader_readEnd_54 : decode bReader_readEnd 54 = .ok (.ireturn, 1) := by decide +kernel
theorem dReader_readEnd_55 : decode bReader_readEnd 55 = .ok (.aload_n 0, 1) := by decide +kernel
theorem dReader_readEnd_56 : decode bReader_readEnd 56 = .ok (.iconst 0, 1) := by decide +kernel
theorem dReader_readEnd_57 : decode bReader_readEnd 57 = .ok (.putfield 59, 3) := by decide +kernel
theorem dReader_readEnd_60 : decode bReader_readEnd 60 = .ok (.aload_n 0, 1) := by decide +kernel
theorem dReader_readEnd_61 : decode bReader_readEnd 61 = .ok (.bipush 61, 2) := by decide +kernel
theorem dReader_readEnd_63 : decode bReader_readEnd 63 = .ok (.invokevirtual 90, 3) := by decide +kernel
theorem dReader_readEnd_66 : decode bReader_readEnd 66 = .ok (.ifCond .eq 14, 3) := by decide +kernel
theorem dReader_readEnd_69 : decode bReader_readEnd 69 = .ok (.aload_n 0, 1) := by decide +kernel
theorem dReader_readEnd_70 : decode bReader_readEnd 70 = .ok (.invokevirtual 135, 3) := by decide +kernel
theorem dReader_readEnd_73 : decode bReader_readEnd 73 = .ok (.ifCond .eq 7, 3) := by decide +kernel
theorem dReader_readEnd_76 : decode bReader_readEnd 76 = .ok (.iconst 1, 1) := by decide +kernel
theorem dReader_readEnd_77 : decode bReader_readEnd 77 = .ok (.goto 4, 3) := by decide +kernel
theorem dReader_readEnd_80 : decode bReader_readEnd 80 = .ok (.iconst 0, 1) := by decide +kernel
theorem dReader_readEnd_81 : decode bReader_readEnd 81 = .ok (.ireturn, 1) := by decide +kernel
def wpReader_readEnd (n : Nat) (ln : Nat → Nat) (h : zM) (post : Int32 → zM → Prop) : Prop := ∀ h2 : zM, h2 = zu h 30 7 0 → ∀ h7 : zM, h7 = zu h2 30 8 0 → ∀ h12 : zM, h12 = zu h7 30 9 0 → wpReader_accept n ln 33 h12 (fun r18 h18 => ((r18 = 0 → wpReader_accept n ln 63 h18 (fun r38 h38 => ((r38 = 0 → ∀ h57 : zM, h57 = zu h38 30 6 0 → wpReader_accept n ln 61 h57 (fun r63 h63 => ((r63 = 0 → post 0 h63) ∧ (¬ r63 = 0 → wpReader_readResult n ln h63 (fun r70 h70 => ((r70 = 0 → post 0 h70) ∧ (¬ r70 = 0 → post 1 h70))))))) ∧ (¬ r38 = 0 → ∀ h46 : zM, h46 = zu h38 30 6 3 → wpReader_readDetail n ln 4 h46 (fun r51 h51 => ((r51 = 0 ∨ r51 = 1) ∧ post r51 h51)))))) ∧ (¬ r18 = 0 → ∀ h26 : zM, h26 = zu h18 30 6 2 → wpReader_readDetail n ln 5 h26 (fun r31 h31 => ((r31 = 0 ∨ r31 = 1) ∧ post r31 h31)))))
abbrev rmReader_readEnd : Room := { frames := 4, cells := 0, slots := 0, locals := 87 }
set_option maxHeartbeats 4000000 in
set_option maxRecDepth 100000 in
theorem cReader_readEnd (l : Launch) (D : va_G) (cI cC cE : ClassId) (ad : Nat → Nat) (n : Nat) (ln : Nat → Nat) (A : Nat → Prop) (hJ : zJ A (34 + 4 * n) ad) (h : zM) (post : Int32 → zM → Prop) (hw : wpReader_readEnd n ln h post) : Met l yReader_readEnd (.code yReader_readEnd bReader_readEnd 1 (some .boolean) :: zt) rmReader_readEnd (va_Pc [.ref (ad 30)] (zPre D (zty cI cC cE) (34 + 4 * n) ad (zF ad cI cC cE n ln) A h)) (va_Qi post (zPst D (zty cI cC cE) (34 + 4 * n) ad (zF ad cI cC cE n ln)) A) 0 0 A := by
  refine Met.ofW (cc := bReader_readEnd) (maxL := 1) (ret := (some .boolean)) (by decide) rfl ?_
  intro p e s m args below meth c s₁ B hml hv
  obtain ⟨rfl, hP, hK, hT, hN⟩ := hv
  have hr := B.returns
  have hlk := B.notSynchronized
  have S : zS p m c bReader_readEnd 1 s _ "CallExplorer$Reader" := ⟨B.exec, B.bytes, hml, findClass_of_methodNamed B.named, fun w hw => atoms_spec (ws := .code yReader_readEnd bReader_readEnd 1 (some .boolean) :: zt) B.pre w (List.mem_cons_of_mem _ hw)⟩
  have hS : va_S A s.heap s.heap [] := va_S.rf
  have hl := lv_entry ([.ref (ad 30)]) (n := 1) (Nat.le_of_ble_eq_true rfl)
  rw [lg_entry_eq]
  generalize (lg_sl ([.ref (ad 30)]) ++ List.replicate (1 - (lg_sl ([.ref (ad 30)])).length) Slot.unset).toArray = ls at hl ⊢
  have hl : lv_has ls 1 [(0, .ref (ad 30))] := hl
  show W p l e rmReader_readEnd s m ([.ref (ad 30)] : List Value).toArray below meth c s.heap [] 0 0 (zQi post D (zty cI cC cE) (34 + 4 * n) ad (zF ad cI cC cE n ln) A below ([.ref (ad 30)] : List Value).toArray s) _
  unfold wpReader_readEnd at hw
  refine lv_aload_n S.1 S.2.1 dReader_readEnd_0 rfl (lv_at hl 0 rfl) ?_
  refine lv_iconst (v := 0) S.1 S.2.1 dReader_readEnd_1 (by decide) ?_
  refine zr_put S hK hJ hP hS (zk (by decide)) (zF_30 _) fReader_detail q271 rfl rfl (Nat.le_of_ble_eq_true rfl) (zF_30 _) dReader_readEnd_2 (fun h2 H locs e2 hP hS => ?_)
  have hw := hw h2 e2
  refine lv_aload_n S.1 S.2.1 dReader_readEnd_5 rfl (lv_at hl 0 rfl) ?_
  refine lv_iconst (v := 0) S.1 S.2.1 dReader_readEnd_6 (by decide) ?_
  refine zr_put S hK hJ hP hS (zk (by decide)) (zF_30 _) fReader_gave q272 rfl rfl (Nat.le_of_ble_eq_true rfl) (zF_30 _) dReader_readEnd_7 (fun h7 H locs e7 hP hS => ?_)
  have hw := hw h7 e7
  refine lv_aload_n S.1 S.2.1 dReader_readEnd_10 rfl (lv_at hl 0 rfl) ?_
  refine lv_iconst (v := 0) S.1 S.2.1 dReader_readEnd_11 (by decide) ?_
  refine zr_put S hK hJ hP hS (zk (by decide)) (zF_30 _) fReader_number q273 rfl rfl (Nat.le_of_ble_eq_true rfl) (zF_30 _) dReader_readEnd_12 (fun h12 H locs e12 hP hS => ?_)
  have hw := hw h12 e12
  refine lv_aload_n S.1 S.2.1 dReader_readEnd_15 rfl (lv_at hl 0 rfl) ?_
  refine lv_bipush (v := 33) S.1 S.2.1 dReader_readEnd_16 (by decide) ?_
  refine zr_i (zr_V (As := [.int 33]) (rest := []) S hK hT hN hP hS (zk (by decide)) (zF_30 _) rfl (cReader_accept l D cI cC cE ad n ln A hJ _ _ _ hw) caReader_90 ⟨Nat.le_of_ble_eq_true rfl, Nat.le_of_ble_eq_true rfl⟩ ⟨rfl, rfl⟩ rfl hl.1 rfl (Nat.le_of_ble_eq_true rfl) dReader_readEnd_18) hS (fun r18 h18 H locs hw hP hS => ?_)
  refine lv_if_eq S.1 S.2.1 dReader_readEnd_21 rfl (fun hc => ?_) (fun hc => ?_)
  · have hw := hw.1 hc
    refine lv_aload_n S.1 S.2.1 dReader_readEnd_35 rfl (lv_at hl 0 rfl) ?_
    refine lv_bipush (v := 63) S.1 S.2.1 dReader_readEnd_36 (by decide) ?_
    refine zr_i (zr_V (As := [.int 63]) (rest := []) S hK hT hN hP hS (zk (by decide)) (zF_30 _) rfl (cReader_accept l D cI cC cE ad n ln A hJ _ _ _ hw) caReader_90 ⟨Nat.le_of_ble_eq_true rfl, Nat.le_of_ble_eq_true rfl⟩ ⟨rfl, rfl⟩ rfl hl.1 rfl (Nat.le_of_ble_eq_true rfl) dReader_readEnd_38) hS (fun r38 h38 H locs hw hP hS => ?_)
    refine lv_if_eq S.1 S.2.1 dReader_readEnd_41 rfl (fun hc => ?_) (fun hc => ?_)
    · have hw := hw.1 hc
      refine lv_aload_n S.1 S.2.1 dReader_readEnd_55 rfl (lv_at hl 0 rfl) ?_
      refine lv_iconst (v := 0) S.1 S.2.1 dReader_readEnd_56 (by decide) ?_
      refine zr_put S hK hJ hP hS (zk (by decide)) (zF_30 _) fReader_outcome q270 rfl rfl (Nat.le_of_ble_eq_true rfl) (zF_30 _) dReader_readEnd_57 (fun h57 H locs e57 hP hS => ?_)
      have hw := hw h57 e57
      refine lv_aload_n S.1 S.2.1 dReader_readEnd_60 rfl (lv_at hl 0 rfl) ?_
      refine lv_bipush (v := 61) S.1 S.2.1 dReader_readEnd_61 (by decide) ?_
      refine zr_i (zr_V (As := [.int 61]) (rest := []) S hK hT hN hP hS (zk (by decide)) (zF_30 _) rfl (cReader_accept l D cI cC cE ad n ln A hJ _ _ _ hw) caReader_90 ⟨Nat.le_of_ble_eq_true rfl, Nat.le_of_ble_eq_true rfl⟩ ⟨rfl, rfl⟩ rfl hl.1 rfl (Nat.le_of_ble_eq_true rfl) dReader_readEnd_63) hS (fun r63 h63 H locs hw hP hS => ?_)
      refine lv_if_eq S.1 S.2.1 dReader_readEnd_66 rfl (fun hc => ?_) (fun hc => ?_)
      · have hw := hw.1 hc
        refine lv_iconst (v := 0) S.1 S.2.1 dReader_readEnd_80 (by decide) ?_
        exact zr_iret S hr hlk hK hP hS rfl hw dReader_readEnd_81
      · have hw := hw.2 hc
        refine lv_aload_n S.1 S.2.1 dReader_readEnd_69 rfl (lv_at hl 0 rfl) ?_
        refine zr_i (zr_V (As := []) (rest := []) S hK hT hN hP hS (zk (by decide)) (zF_30 _) rfl (cReader_readResult l D cI cC cE ad n ln A hJ _ _ hw) caReader_135 ⟨Nat.le_of_ble_eq_true rfl, Nat.le_of_ble_eq_true rfl⟩ ⟨rfl, rfl⟩ rfl hl.1 rfl (Nat.le_of_ble_eq_true rfl) dReader_readEnd_70) hS (fun r70 h70 H locs hw hP hS => ?_)
        refine lv_if_eq S.1 S.2.1 dReader_readEnd_73 rfl (fun hc => ?_) (fun hc => ?_)
        · have hw := hw.1 hc
          refine lv_iconst (v := 0) S.1 S.2.1 dReader_readEnd_80 (by decide) ?_
          exact zr_iret S hr hlk hK hP hS rfl hw dReader_readEnd_81
        · have hw := hw.2 hc
          refine lv_iconst (v := 1) S.1 S.2.1 dReader_readEnd_76 (by decide) ?_
          refine lv_goto S.1 S.2.1 dReader_readEnd_77 rfl ?_
          exact zr_iret S hr hlk hK hP hS rfl hw dReader_readEnd_81
    · have hw := hw.2 hc
      refine lv_aload_n S.1 S.2.1 dReader_readEnd_44 rfl (lv_at hl 0 rfl) ?_
      refine lv_iconst (v := 3) S.1 S.2.1 dReader_readEnd_45 (by decide) ?_
      refine zr_put S hK hJ hP hS (zk (by decide)) (zF_30 _) fReader_outcome q270 rfl rfl (Nat.le_of_ble_eq_true rfl) (zF_30 _) dReader_readEnd_46 (fun h46 H locs e46 hP hS => ?_)
      have hw := hw h46 e46
      refine lv_aload_n S.1 S.2.1 dReader_readEnd_49 rfl (lv_at hl 0 rfl) ?_
      refine lv_iconst (v := 4) S.1 S.2.1 dReader_readEnd_50 (by decide) ?_
      refine zr_i (zr_V (As := [.int 4]) (rest := []) S hK hT hN hP hS (zk (by decide)) (zF_30 _) rfl (cReader_readDetail l D cI cC cE ad n ln A hJ _ _ _ hw) caReader_131 ⟨Nat.le_of_ble_eq_true rfl, Nat.le_of_ble_eq_true rfl⟩ ⟨rfl, rfl⟩ rfl hl.1 rfl (Nat.le_of_ble_eq_true rfl) dReader_readEnd_51) hS (fun r51 h51 H locs hw hP hS => ?_)
      exact zr_iret S hr hlk hK hP hS (zbn hw.1) hw.2 dReader_readEnd_54
  · have hw := hw.2 hc
    refine lv_aload_n S.1 S.2.1 dReader_readEnd_24 rfl (lv_at hl 0 rfl) ?_
    refine lv_iconst (v := 2) S.1 S.2.1 dReader_readEnd_25 (by decide) ?_
    refine zr_put S hK hJ hP hS (zk (by decide)) (zF_30 _) fReader_outcome q270 rfl rfl (Nat.le_of_ble_eq_true rfl) (zF_30 _) dReader_readEnd_26 (fun h26 H locs e26 hP hS => ?_)
    have hw := hw h26 e26
    refine lv_aload_n S.1 S.2.1 dReader_readEnd_29 rfl (lv_at hl 0 rfl) ?_
    refine lv_iconst (v := 5) S.1 S.2.1 dReader_readEnd_30 (by decide) ?_
    refine zr_i (zr_V (As := [.int 5]) (rest := []) S hK hT hN hP hS (zk (by decide)) (zF_30 _) rfl (cReader_readDetail l D cI cC cE ad n ln A hJ _ _ _ hw) caReader_131 ⟨Nat.le_of_ble_eq_true rfl, Nat.le_of_ble_eq_true rfl⟩ ⟨rfl, rfl⟩ rfl hl.1 rfl (Nat.le_of_ble_eq_true rfl) dReader_readEnd_31) hS (fun r31 h31 H locs hw hP hS => ?_)
    exact zr_iret S hr hlk hK hP hS (zbn hw.1) hw.2 dReader_readEnd_34
/-! Reader.read -/
theorem dReader_read_0 : decode bReader_read 0 = .ok (.aload_n 0, 1) := by decide +kernel
theorem dReader_read_1 : decode bReader_read 1 = .ok (.iconst 0, 1) := by decide +kernel
theorem dReader_read_2 : decode bReader_read 2 = .ok (.putfield 40, 3) := by decide +kernel
theorem dReader_read_5 : decode bReader_read 5 = .ok (.aload_n 0, 1) := by decide +kernel
theorem dReader_read_6 : decode bReader_read 6 = .ok (.getfield 18, 3) := by decide +kernel
theorem dReader_read_9 : decode bReader_read 9 = .ok (.invokevirtual 43, 3) := by decide +kernel
theorem dReader_read_12 : decode bReader_read 12 = .ok (.iconst 0, 1) := by decide +kernel
theorem dReader_read_13 : decode bReader_read 13 = .ok (.istore_n 1, 1) := by decide +kernel
theorem dReader_read_14 : decode bReader_read 14 = .ok (.iload_n 1, 1) := by decide +kernel
theorem dReader_read_15 : decode bReader_read 15 = .ok (.bipush 10, 2) := by decide +kernel
theorem dReader_read_17 : decode bReader_read 17 = .ok (.if_icmp .ge 25, 3) := by decide +kernel
theorem dReader_read_20 : decode bReader_read 20 = .ok (.aload_n 0, 1) := by decide +kernel
theorem dReader_read_21 : decode bReader_read 21 = .ok (.invokevirtual 46, 3) := by decide +kernel
theorem dReader_read_24 : decode bReader_read 24 = .ok (.ifCond .ne 18, 3) := by decide +kernel
theorem dReader_read_27 : decode bReader_read 27 = .ok (.aload_n 0, 1) := by decide +kernel
theorem dReader_read_28 : decode bReader_read 28 = .ok (.invokevirtual 50, 3) := by decide +kernel
theorem dReader_read_31 : decode bReader_read 31 = .ok (.ifCond .ne 5, 3) := by decide +kernel
theorem dReader_read_34 : decode bReader_read 34 = .ok (.iconst 0, 1) := by decide +kernel
theorem dReader_read_35 : decode bReader_read 35 = .ok (.ireturn, 1) := by decide +kernel
theorem dReader_read_36 : decode bReader_read 36 = .ok (.iinc 1 1, 3) := by decide +kernel
theorem dReader_read_39 : decode bReader_read 39 = .ok (.goto (-25), 3) := by decide +kernel
theorem dReader_read_42 : decode bReader_read 42 = .ok (.aload_n 0, 1) := by decide +kernel
theorem dReader_read_43 : decode bReader_read 43 = .ok (.getfield 18, 3) := by decide +kernel
theorem dReader_read_46 : decode bReader_read 46 = .ok (.getfield 53, 3) := by decide +kernel
theorem dReader_read_49 : decode bReader_read 49 = .ok (.ifCond .le 25, 3) := by decide +kernel
theorem dReader_read_52 : decode bReader_read 52 = .ok (.aload_n 0, 1) := by decide +kernel
theorem dReader_read_53 : decode bReader_read 53 = .ok (.invokevirtual 56, 3) := by decide +kernel
theorem dReader_read_56 : decode bReader_read 56 = .ok (.ifCond .eq 18, 3) := by decide +kernel
theorem dReader_read_59 : decode bReader_read 59 = .ok (.aload_n 0, 1) := by decide +kernel
theorem dReader_read_60 : decode bReader_read 60 = .ok (.getfield 40, 3) := by decide +kernel
theorem dReader_read_63 : decode bReader_read 63 = .ok (.aload_n 0, 1) := by decide +kernel
theorem dReader_read_64 : decode bReader_read 64 = .ok (.getfield 26, 3) := by decide +kernel
theorem dReader_read_67 : decode bReader_read 67 = .ok (.if_icmp .ne 7, 3) := by decide +kernel
theorem dReader_read_70 : decode bReader_read 70 = .ok (.iconst 1, 1) := by decide +kernel
theorem dReader_read_71 : decode bReader_read 71 = .ok (.goto 4, 3) := by decide +kernel
theorem dReader_read_74 : decode bReader_read 74 = .ok (.iconst 0, 1) := by decide +kernel
theorem dReader_read_75 : decode bReader_read 75 = .ok (.ireturn, 1) := by decide +kernel
def wbReader_read_42 (n : Nat) (ln : Nat → Nat) (post : Int32 → zM → Prop) (h : zM) : Prop := ((((h 32 0) ≤ 0) → post 0 h) ∧ (¬ ((h 32 0) ≤ 0) → wpReader_readEnd n ln h (fun r53 h53 => ((r53 = 0 → post 0 h53) ∧ (¬ r53 = 0 → ((¬ (h53 30 4) = (h53 30 2) → post 0 h53) ∧ ((h53 30 4) = (h53 30 2) → post 1 h53)))))))
def stReader_read_14 (n : Nat) (ln : Nat → Nat) (post : Int32 → zM → Prop) (L14 : (Int32 × zM) → Prop) : (Int32 × zM) → Prop := fun s => match s with
  | (v1, h) => (((10 ≤ v1) → wbReader_read_42 n ln post h) ∧ (¬ (10 ≤ v1) → wpReader_isAtEnd n ln h (fun r21 h21 => ((¬ r21 = 0 → wbReader_read_42 n ln post h21) ∧ (r21 = 0 → wpReader_readCall n ln h21 (fun r28 h28 => ((¬ r28 = 0 → L14 ((v1 + 1), h28)) ∧ (r28 = 0 → post 0 h28))))))))
def wpReader_read (n : Nat) (ln : Nat → Nat) (h : zM) (post : Int32 → zM → Prop) : Prop := ∀ h2 : zM, h2 = zu h 30 4 0 → wpSequence_clear 32 h2 (fun h9 => zL (stReader_read_14 n ln post) (0, h9))
abbrev rmReader_read : Room := { frames := 6, cells := 0, slots := 0, locals := 135 }
set_option maxHeartbeats 4000000 in
set_option maxRecDepth 100000 in
theorem cReader_read (l : Launch) (D : va_G) (cI cC cE : ClassId) (ad : Nat → Nat) (n : Nat) (ln : Nat → Nat) (A : Nat → Prop) (hJ : zJ A (34 + 4 * n) ad) (h : zM) (post : Int32 → zM → Prop) (hw : wpReader_read n ln h post) : Met l yReader_read (.code yReader_read bReader_read 2 (some .boolean) :: zt) rmReader_read (va_Pc [.ref (ad 30)] (zPre D (zty cI cC cE) (34 + 4 * n) ad (zF ad cI cC cE n ln) A h)) (va_Qi post (zPst D (zty cI cC cE) (34 + 4 * n) ad (zF ad cI cC cE n ln)) A) 0 0 A := by
  refine Met.ofW (cc := bReader_read) (maxL := 2) (ret := (some .boolean)) (by decide) rfl ?_
  intro p e s m args below meth c s₁ B hml hv
  obtain ⟨rfl, hP, hK, hT, hN⟩ := hv
  have hr := B.returns
  have hlk := B.notSynchronized
  have S : zS p m c bReader_read 2 s _ "CallExplorer$Reader" := ⟨B.exec, B.bytes, hml, findClass_of_methodNamed B.named, fun w hw => atoms_spec (ws := .code yReader_read bReader_read 2 (some .boolean) :: zt) B.pre w (List.mem_cons_of_mem _ hw)⟩
  have hS : va_S A s.heap s.heap [] := va_S.rf
  have hl := lv_entry ([.ref (ad 30)]) (n := 2) (Nat.le_of_ble_eq_true rfl)
  rw [lg_entry_eq]
  generalize (lg_sl ([.ref (ad 30)]) ++ List.replicate (2 - (lg_sl ([.ref (ad 30)])).length) Slot.unset).toArray = ls at hl ⊢
  have hl : lv_has ls 2 [(0, .ref (ad 30))] := hl
  show W p l e rmReader_read s m ([.ref (ad 30)] : List Value).toArray below meth c s.heap [] 0 0 (zQi post D (zty cI cC cE) (34 + 4 * n) ad (zF ad cI cC cE n ln) A below ([.ref (ad 30)] : List Value).toArray s) _
  have J42 : ∀ (h : zM) (H : Heap) (locs : List Loc) (ls : Array Slot), wbReader_read_42 n ln post h → lv_has ls 2 [(0, .ref (ad 30))] → va_P D zcl (zW (34 + 4 * n) ad (zF ad cI cC cE n ln) h) H → va_S A s.heap H locs → W p l e rmReader_read s m ([.ref (ad 30)] : List Value).toArray below meth c H locs 0 0 (zQi post D (zty cI cC cE) (34 + 4 * n) ad (zF ad cI cC cE n ln) A below ([.ref (ad 30)] : List Value).toArray s) (F0 m 42 ls []) := by
    intro  h H locs ls hw hl hP hS
    unfold wbReader_read_42 at hw
    refine lv_aload_n S.1 S.2.1 dReader_read_42 rfl (lv_at hl 0 rfl) ?_
    refine zr_get S hK hP (zk (by decide)) (zF_30 _) fReader_sequence q266 rfl dReader_read_43 ?_
    refine zr_get S hK hP (zk (by decide)) (zF_32 _) fSequence_size q181 rfl dReader_read_46 ?_
    refine lv_if_le S.1 S.2.1 dReader_read_49 rfl (fun hc => ?_) (fun hc => ?_)
    · have hw := hw.1 hc
      refine lv_iconst (v := 0) S.1 S.2.1 dReader_read_74 (by decide) ?_
      exact zr_iret S hr hlk hK hP hS rfl hw dReader_read_75
    · have hw := hw.2 hc
      refine lv_aload_n S.1 S.2.1 dReader_read_52 rfl (lv_at hl 0 rfl) ?_
      refine zr_i (zr_V (As := []) (rest := []) S hK hT hN hP hS (zk (by decide)) (zF_30 _) rfl (cReader_readEnd l D cI cC cE ad n ln A hJ _ _ hw) caReader_56 ⟨Nat.le_of_ble_eq_true rfl, Nat.le_of_ble_eq_true rfl⟩ ⟨rfl, rfl⟩ rfl hl.1 rfl (Nat.le_of_ble_eq_true rfl) dReader_read_53) hS (fun r53 h53 H locs hw hP hS => ?_)
      refine lv_if_eq S.1 S.2.1 dReader_read_56 rfl (fun hc => ?_) (fun hc => ?_)
      · have hw := hw.1 hc
        refine lv_iconst (v := 0) S.1 S.2.1 dReader_read_74 (by decide) ?_
        exact zr_iret S hr hlk hK hP hS rfl hw dReader_read_75
      · have hw := hw.2 hc
        refine lv_aload_n S.1 S.2.1 dReader_read_59 rfl (lv_at hl 0 rfl) ?_
        refine zr_get S hK hP (zk (by decide)) (zF_30 _) fReader_at q268 rfl dReader_read_60 ?_
        refine lv_aload_n S.1 S.2.1 dReader_read_63 rfl (lv_at hl 0 rfl) ?_
        refine zr_get S hK hP (zk (by decide)) (zF_30 _) fReader_length q265 rfl dReader_read_64 ?_
        refine lv_icmp_ne S.1 S.2.1 dReader_read_67 rfl (fun hc => ?_) (fun hc => ?_)
        · have hw := hw.1 hc
          refine lv_iconst (v := 0) S.1 S.2.1 dReader_read_74 (by decide) ?_
          exact zr_iret S hr hlk hK hP hS rfl hw dReader_read_75
        · have hw := hw.2 hc
          refine lv_iconst (v := 1) S.1 S.2.1 dReader_read_70 (by decide) ?_
          refine lv_goto S.1 S.2.1 dReader_read_71 rfl ?_
          exact zr_iret S hr hlk hK hP hS rfl hw dReader_read_75
  have J14 : ∀ (fu : Nat) (v1 : Int32) (h : zM) (H : Heap) (locs : List Loc) (ls : Array Slot), zl (stReader_read_14 n ln post) fu (v1, h) → lv_has ls 2 [(0, .ref (ad 30)), (1, .int v1)] → va_P D zcl (zW (34 + 4 * n) ad (zF ad cI cC cE n ln) h) H → va_S A s.heap H locs → W p l e rmReader_read s m ([.ref (ad 30)] : List Value).toArray below meth c H locs 0 0 (zQi post D (zty cI cC cE) (34 + 4 * n) ad (zF ad cI cC cE n ln) A below ([.ref (ad 30)] : List Value).toArray s) (F0 m 14 ls []) := by
    intro fu14
    induction fu14 with
    | zero =>
      intro v1 h H locs ls hw
      exact (zl_0 hw).elim
    | succ fu14 ih14 =>
      intro v1 h H locs ls hw hl hP hS
      have hw := zl_s hw
      generalize zl (stReader_read_14 n ln post) fu14 = L14 at hw ih14
      unfold stReader_read_14 at hw
      dsimp only at hw
      refine lv_iload_n S.1 S.2.1 dReader_read_14 rfl (lv_at hl 1 rfl) ?_
      refine lv_bipush (v := 10) S.1 S.2.1 dReader_read_15 (by decide) ?_
      refine lv_icmp_ge S.1 S.2.1 dReader_read_17 rfl (fun hc => ?_) (fun hc => ?_)
      · have hw := hw.1 hc
        exact J42  _ _ _ _ hw (lv_sub hl [0] rfl) hP hS
      · have hw := hw.2 hc
        refine lv_aload_n S.1 S.2.1 dReader_read_20 rfl (lv_at hl 0 rfl) ?_
        refine zr_i (zr_V (As := []) (rest := []) S hK hT hN hP hS (zk (by decide)) (zF_30 _) rfl (cReader_isAtEnd l D cI cC cE ad n ln A hJ _ _ hw) caReader_46 ⟨Nat.le_of_ble_eq_true rfl, Nat.le_of_ble_eq_true rfl⟩ ⟨rfl, rfl⟩ rfl hl.1 rfl (Nat.le_of_ble_eq_true rfl) dReader_read_21) hS (fun r21 h21 H locs hw hP hS => ?_)
        refine lv_if_ne S.1 S.2.1 dReader_read_24 rfl (fun hc => ?_) (fun hc => ?_)
        · have hw := hw.1 hc
          exact J42  _ _ _ _ hw (lv_sub hl [0] rfl) hP hS
        · have hw := hw.2 hc
          refine lv_aload_n S.1 S.2.1 dReader_read_27 rfl (lv_at hl 0 rfl) ?_
          refine zr_i (zr_V (As := []) (rest := []) S hK hT hN hP hS (zk (by decide)) (zF_30 _) rfl (cReader_readCall l D cI cC cE ad n ln A hJ _ _ hw) caReader_50 ⟨Nat.le_of_ble_eq_true rfl, Nat.le_of_ble_eq_true rfl⟩ ⟨rfl, rfl⟩ rfl hl.1 rfl (Nat.le_of_ble_eq_true rfl) dReader_read_28) hS (fun r28 h28 H locs hw hP hS => ?_)
          refine lv_if_ne S.1 S.2.1 dReader_read_31 rfl (fun hc => ?_) (fun hc => ?_)
          · have hw := hw.1 hc
            refine lv_iinc (v := (v1 + 1)) (lv' := [(1, .int (v1 + 1)), (0, .ref (ad 30))]) (k := 1) S.1 S.2.1 dReader_read_36 hl rfl rfl (by decide) rfl (fun ls hl => ?_)
            refine lv_goto S.1 S.2.1 dReader_read_39 rfl ?_
            exact ih14 _ _ _ _ _ hw (lv_sub hl [1, 0] rfl) hP hS
          · have hw := hw.2 hc
            refine lv_iconst (v := 0) S.1 S.2.1 dReader_read_34 (by decide) ?_
            exact zr_iret S hr hlk hK hP hS rfl hw dReader_read_35
  unfold wpReader_read at hw
  refine lv_aload_n S.1 S.2.1 dReader_read_0 rfl (lv_at hl 0 rfl) ?_
  refine lv_iconst (v := 0) S.1 S.2.1 dReader_read_1 (by decide) ?_
  refine zr_put S hK hJ hP hS (zk (by decide)) (zF_30 _) fReader_at q268 rfl rfl (Nat.le_of_ble_eq_true rfl) (zF_30 _) dReader_read_2 (fun h2 H locs e2 hP hS => ?_)
  have hw := hw h2 e2
  refine lv_aload_n S.1 S.2.1 dReader_read_5 rfl (lv_at hl 0 rfl) ?_
  refine zr_get S hK hP (zk (by decide)) (zF_30 _) fReader_sequence q266 rfl dReader_read_6 ?_
  refine zr_v (zr_V (As := []) (rest := []) S hK hT hN hP hS (zk (by decide)) (zF_32 _) rfl (cSequence_clear l D (zty cI cC cE) (34 + 4 * n) ad (zF ad cI cC cE n ln) A hJ cI rfl 32 zs_32 _ _ hw) caReader_43 ⟨Nat.le_of_ble_eq_true rfl, Nat.le_of_ble_eq_true rfl⟩ ⟨rfl, rfl⟩ rfl hl.1 rfl (Nat.le_of_ble_eq_true rfl) dReader_read_9) hS (fun h9 H locs hw hP hS => ?_)
  refine lv_iconst (v := 0) S.1 S.2.1 dReader_read_12 (by decide) ?_
  refine lv_istore_n (lv' := [(1, .int 0), (0, .ref (ad 30))]) S.1 S.2.1 dReader_read_13 rfl hl (by decide) rfl (fun ls hl => ?_)
  obtain ⟨fu, hw⟩ := hw
  exact J14 fu _ _ _ _ _ hw (lv_sub hl [1, 0] rfl) hP hS
/-! Reader.foretold -/
theorem dReader_foretold_0 : decode bReader_foretold 0 = .ok (.aload_n 0, 1) := by decide +kernel
theorem dReader_foretold_1 : decode bReader_foretold 1 = .ok (.getfield 59, 3) := by decide +kernel
theorem dReader_foretold_4 : decode bReader_foretold 4 = .ok (.aload_n 1, 1) := by decide +kernel
theorem dReader_foretold_5 : decode bReader_foretold 5 = .ok (.getfield 62, 3) := by decide +kernel
theorem dReader_foretold_8 : decode bReader_foretold 8 = .ok (.if_icmp .ne 14, 3) := by decide +kernel
theorem dReader_foretold_11 : decode bReader_foretold 11 = .ok (.aload_n 0, 1) := by decide +kernel
theorem dReader_foretold_12 : decode bReader_foretold 12 = .ok (.getfield 65, 3) := by decide +kernel
theorem dReader_foretold_15 : decode bReader_foretold 15 = .ok (.aload_n 1, 1) := by decide +kernel
theorem dReader_foretold_16 : decode bReader_foretold 16 = .ok (.getfield 68, 3) := by decide +kernel
theorem dReader_foretold_19 : decode bReader_foretold 19 = .ok (.if_icmp .eq 5, 3) := by decide +kernel
theorem dReader_foretold_22 : decode bReader_foretold 22 = .ok (.iconst 0, 1) := by decide +kernel
theorem dReader_foretold_23 : decode bReader_foretold 23 = .ok (.ireturn, 1) := by decide +kernel
theorem dReader_foretold_24 : decode bReader_foretold 24 = .ok (.aload_n 0, 1) := by decide +kernel
theorem dReader_foretold_25 : decode bReader_foretold 25 = .ok (.getfield 59, 3) := by decide +kernel
theorem dReader_foretold_28 : decode bReader_foretold 28 = .ok (.ifCond .ne 25, 3) := by decide +kernel
theorem dReader_foretold_31 : decode bReader_foretold 31 = .ok (.aload_n 0, 1) := by decide +kernel
theorem dReader_foretold_32 : decode bReader_foretold 32 = .ok (.getfield 69, 3) := by decide +kernel
theorem dReader_foretold_35 : decode bReader_foretold 35 = .ok (.aload_n 1, 1) := by decide +kernel
theorem dReader_foretold_36 : decode bReader_foretold 36 = .ok (.getfield 72, 3) := by decide +kernel
theorem dReader_foretold_39 : decode bReader_foretold 39 = .ok (.if_icmp .ne 18, 3) := by decide +kernel
theorem dReader_foretold_42 : decode bReader_foretold 42 = .ok (.aload_n 0, 1) := by decide +kernel
theorem dReader_foretold_43 : decode bReader_foretold 43 = .ok (.getfield 73, 3) := by decide +kernel
theorem dReader_foretold_46 : decode bReader_foretold 46 = .ok (.aload_n 1, 1) := by decide +kernel
theorem dReader_foretold_47 : decode bReader_foretold 47 = .ok (.getfield 76, 3) := by decide +kernel
theorem dReader_foretold_50 : decode bReader_foretold 50 = .ok (.if_icmp .ne 7, 3) := by decide +kernel
theorem dReader_foretold_53 : decode bReader_foretold 53 = .ok (.iconst 1, 1) := by decide +kernel
theorem dReader_foretold_54 : decode bReader_foretold 54 = .ok (.goto 4, 3) := by decide +kernel
theorem dReader_foretold_57 : decode bReader_foretold 57 = .ok (.iconst 0, 1) := by decide +kernel
theorem dReader_foretold_58 : decode bReader_foretold 58 = .ok (.ireturn, 1) := by decide +kernel
def wpReader_foretold (n : Nat) (ln : Nat → Nat) (h : zM) (post : Int32 → zM → Prop) : Prop := ((¬ (h 30 6) = (h 12 3) → post 0 h) ∧ ((h 30 6) = (h 12 3) → (((h 30 7) = (h 12 4) → ((¬ (h 30 6) = 0 → post 1 h) ∧ ((h 30 6) = 0 → ((¬ (h 30 8) = (h 12 5) → post 0 h) ∧ ((h 30 8) = (h 12 5) → ((¬ (h 30 9) = (h 12 6) → post 0 h) ∧ ((h 30 9) = (h 12 6) → post 1 h))))))) ∧ (¬ (h 30 7) = (h 12 4) → post 0 h))))
abbrev rmReader_foretold : Room := { frames := 0, cells := 0, slots := 0, locals := 0 }
set_option maxHeartbeats 4000000 in
set_option maxRecDepth 100000 in
theorem cReader_foretold (l : Launch) (D : va_G) (cI cC cE : ClassId) (ad : Nat → Nat) (n : Nat) (ln : Nat → Nat) (A : Nat → Prop) (hJ : zJ A (34 + 4 * n) ad) (h : zM) (post : Int32 → zM → Prop) (hw : wpReader_foretold n ln h post) : Met l yReader_foretold (.code yReader_foretold bReader_foretold 2 (some .boolean) :: zt) rmReader_foretold (va_Pc [.ref (ad 30), .ref (ad 12)] (zPre D (zty cI cC cE) (34 + 4 * n) ad (zF ad cI cC cE n ln) A h)) (va_Qi post (zPst D (zty cI cC cE) (34 + 4 * n) ad (zF ad cI cC cE n ln)) A) 0 0 A := by
  refine Met.ofW (cc := bReader_foretold) (maxL := 2) (ret := (some .boolean)) (by decide) rfl ?_
  intro p e s m args below meth c s₁ B hml hv
  obtain ⟨rfl, hP, hK, hT, hN⟩ := hv
  have hr := B.returns
  have hlk := B.notSynchronized
  have S : zS p m c bReader_foretold 2 s _ "CallExplorer$Reader" := ⟨B.exec, B.bytes, hml, findClass_of_methodNamed B.named, fun w hw => atoms_spec (ws := .code yReader_foretold bReader_foretold 2 (some .boolean) :: zt) B.pre w (List.mem_cons_of_mem _ hw)⟩
  have hS : va_S A s.heap s.heap [] := va_S.rf
  have hl := lv_entry ([.ref (ad 30), .ref (ad 12)]) (n := 2) (Nat.le_of_ble_eq_true rfl)
  rw [lg_entry_eq]
  generalize (lg_sl ([.ref (ad 30), .ref (ad 12)]) ++ List.replicate (2 - (lg_sl ([.ref (ad 30), .ref (ad 12)])).length) Slot.unset).toArray = ls at hl ⊢
  have hl : lv_has ls 2 [(0, .ref (ad 30)), (1, .ref (ad 12))] := hl
  show W p l e rmReader_foretold s m ([.ref (ad 30), .ref (ad 12)] : List Value).toArray below meth c s.heap [] 0 0 (zQi post D (zty cI cC cE) (34 + 4 * n) ad (zF ad cI cC cE n ln) A below ([.ref (ad 30), .ref (ad 12)] : List Value).toArray s) _
  unfold wpReader_foretold at hw
  refine lv_aload_n S.1 S.2.1 dReader_foretold_0 rfl (lv_at hl 0 rfl) ?_
  refine zr_get S hK hP (zk (by decide)) (zF_30 _) fReader_outcome q270 rfl dReader_foretold_1 ?_
  refine lv_aload_n S.1 S.2.1 dReader_foretold_4 rfl (lv_at hl 1 rfl) ?_
  refine zr_get S hK hP (zk (by decide)) (zF_12 _) fRunner_outcome q130 rfl dReader_foretold_5 ?_
  refine lv_icmp_ne S.1 S.2.1 dReader_foretold_8 rfl (fun hc => ?_) (fun hc => ?_)
  · have hw := hw.1 hc
    refine lv_iconst (v := 0) S.1 S.2.1 dReader_foretold_22 (by decide) ?_
    exact zr_iret S hr hlk hK hP hS rfl hw dReader_foretold_23
  · have hw := hw.2 hc
    refine lv_aload_n S.1 S.2.1 dReader_foretold_11 rfl (lv_at hl 0 rfl) ?_
    refine zr_get S hK hP (zk (by decide)) (zF_30 _) fReader_detail q271 rfl dReader_foretold_12 ?_
    refine lv_aload_n S.1 S.2.1 dReader_foretold_15 rfl (lv_at hl 1 rfl) ?_
    refine zr_get S hK hP (zk (by decide)) (zF_12 _) fRunner_detail q134 rfl dReader_foretold_16 ?_
    refine lv_icmp_eq S.1 S.2.1 dReader_foretold_19 rfl (fun hc => ?_) (fun hc => ?_)
    · have hw := hw.1 hc
      refine lv_aload_n S.1 S.2.1 dReader_foretold_24 rfl (lv_at hl 0 rfl) ?_
      refine zr_get S hK hP (zk (by decide)) (zF_30 _) fReader_outcome q270 rfl dReader_foretold_25 ?_
      refine lv_if_ne S.1 S.2.1 dReader_foretold_28 rfl (fun hc => ?_) (fun hc => ?_)
      · have hw := hw.1 hc
        refine lv_iconst (v := 1) S.1 S.2.1 dReader_foretold_53 (by decide) ?_
        refine lv_goto S.1 S.2.1 dReader_foretold_54 rfl ?_
        exact zr_iret S hr hlk hK hP hS rfl hw dReader_foretold_58
      · have hw := hw.2 hc
        refine lv_aload_n S.1 S.2.1 dReader_foretold_31 rfl (lv_at hl 0 rfl) ?_
        refine zr_get S hK hP (zk (by decide)) (zF_30 _) fReader_gave q272 rfl dReader_foretold_32 ?_
        refine lv_aload_n S.1 S.2.1 dReader_foretold_35 rfl (lv_at hl 1 rfl) ?_
        refine zr_get S hK hP (zk (by decide)) (zF_12 _) fRunner_gave q138 rfl dReader_foretold_36 ?_
        refine lv_icmp_ne S.1 S.2.1 dReader_foretold_39 rfl (fun hc => ?_) (fun hc => ?_)
        · have hw := hw.1 hc
          refine lv_iconst (v := 0) S.1 S.2.1 dReader_foretold_57 (by decide) ?_
          exact zr_iret S hr hlk hK hP hS rfl hw dReader_foretold_58
        · have hw := hw.2 hc
          refine lv_aload_n S.1 S.2.1 dReader_foretold_42 rfl (lv_at hl 0 rfl) ?_
          refine zr_get S hK hP (zk (by decide)) (zF_30 _) fReader_number q273 rfl dReader_foretold_43 ?_
          refine lv_aload_n S.1 S.2.1 dReader_foretold_46 rfl (lv_at hl 1 rfl) ?_
          refine zr_get S hK hP (zk (by decide)) (zF_12 _) fRunner_number q141 rfl dReader_foretold_47 ?_
          refine lv_icmp_ne S.1 S.2.1 dReader_foretold_50 rfl (fun hc => ?_) (fun hc => ?_)
          · have hw := hw.1 hc
            refine lv_iconst (v := 0) S.1 S.2.1 dReader_foretold_57 (by decide) ?_
            exact zr_iret S hr hlk hK hP hS rfl hw dReader_foretold_58
          · have hw := hw.2 hc
            refine lv_iconst (v := 1) S.1 S.2.1 dReader_foretold_53 (by decide) ?_
            refine lv_goto S.1 S.2.1 dReader_foretold_54 rfl ?_
            exact zr_iret S hr hlk hK hP hS rfl hw dReader_foretold_58
    · have hw := hw.2 hc
      refine lv_iconst (v := 0) S.1 S.2.1 dReader_foretold_22 (by decide) ?_
      exact zr_iret S hr hlk hK hP hS rfl hw dReader_foretold_23
