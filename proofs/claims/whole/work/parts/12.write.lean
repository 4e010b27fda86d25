/-! predicates and contracts, printed by wip/whole/gen -/
/-! Writer.put -/
theorem dWriter_put_0 : decode bWriter_put 0 = .ok (.aload_n 0, 1) := by decide +kernel
theorem dWriter_put_1 : decode bWriter_put 1 = .ok (.getfield 15, 3) := by decide +kernel
theorem dWriter_put_4 : decode bWriter_put 4 = .ok (.aload_n 0, 1) := by decide +kernel
theorem dWriter_put_5 : decode bWriter_put 5 = .ok (.getfield 9, 3) := by decide +kernel
theorem dWriter_put_8 : decode bWriter_put 8 = .ok (.arraylength, 1) := by decide +kernel
theorem dWriter_put_9 : decode bWriter_put 9 = .ok (.if_icmp .ge 23, 3) := by decide +kernel
theorem dWriter_put_12 : decode bWriter_put 12 = .ok (.aload_n 0, 1) := by decide +kernel
theorem dWriter_put_13 : decode bWriter_put 13 = .ok (.getfield 9, 3) := by decide +kernel
theorem dWriter_put_16 : decode bWriter_put 16 = .ok (.aload_n 0, 1) := by decide +kernel
theorem dWriter_put_17 : decode bWriter_put 17 = .ok (.getfield 15, 3) := by decide +kernel
theorem dWriter_put_20 : decode bWriter_put 20 = .ok (.iload_n 1, 1) := by decide +kernel
theorem dWriter_put_21 : decode bWriter_put 21 = .ok (.castore, 1) := by decide +kernel
theorem dWriter_put_22 : decode bWriter_put 22 = .ok (.aload_n 0, 1) := by decide +kernel
theorem dWriter_put_23 : decode bWriter_put 23 = .ok (.dup, 1) := by decide +kernel
theorem dWriter_put_24 : decode bWriter_put 24 = .ok (.getfield 15, 3) := by decide +kernel
theorem dWriter_put_27 : decode bWriter_put 27 = .ok (.iconst 1, 1) := by decide +kernel
theorem dWriter_put_28 : decode bWriter_put 28 = .ok (.iadd, 1) := by decide +kernel
theorem dWriter_put_29 : decode bWriter_put 29 = .ok (.putfield 15, 3) := by decide +kernel
theorem dWriter_put_32 : decode bWriter_put 32 = .ok (.return_, 1) := by decide +kernel
def wpWriter_put (n : Nat) (ln : Nat → Nat) (x1 : Int32) (h : zM) (post : zM → Prop) : Prop := ((((nI 200) ≤ (h 28 1)) → post h) ∧ (¬ ((nI 200) ≤ (h 28 1)) → (vp_in (h 28 1) 200 ∧ ∀ h21 : zM, h21 = zu h 29 (Int32.toNatClampNeg (h 28 1)) (vp_nar .char x1) → ∀ h29 : zM, h29 = zu h21 28 1 ((h21 28 1) + 1) → post h29)))
abbrev rmWriter_put : Room := { frames := 0, cells := 0, slots := 0, locals := 0 }
set_option maxHeartbeats 4000000 in
set_option maxRecDepth 100000 in
theorem cWriter_put (l : Launch) (D : va_G) (cI cC cE : ClassId) (ad : Nat → Nat) (n : Nat) (ln : Nat → Nat) (A : Nat → Prop) (hJ : zJ A (34 + 4 * n) ad) (x1 : Int32) (h : zM) (post : zM → Prop) (hw : wpWriter_put n ln x1 h post) : Met l yWriter_put (.code yWriter_put bWriter_put 2 none :: zt) rmWriter_put (va_Pc [.ref (ad 28), .int x1] (zPre D (zty cI cC cE) (34 + 4 * n) ad (zF ad cI cC cE n ln) A h)) (va_Qv post (zPst D (zty cI cC cE) (34 + 4 * n) ad (zF ad cI cC cE n ln)) A) 0 0 A := by
  refine Met.ofW (cc := bWriter_put) (maxL := 2) (ret := none) (by decide) rfl ?_
  intro p e s m args below meth c s₁ B hml hv
  obtain ⟨rfl, hP, hK, hT, hN⟩ := hv
  have hr := B.returns
  have hlk := B.notSynchronized
  have S : zS p m c bWriter_put 2 s _ "CallExplorer$Writer" := ⟨B.exec, B.bytes, hml, findClass_of_methodNamed B.named, fun w hw => atoms_spec (ws := .code yWriter_put bWriter_put 2 none :: zt) B.pre w (List.mem_cons_of_mem _ hw)⟩
  have hS : va_S A s.heap s.heap [] := va_S.rf
  have hl := lv_entry ([.ref (ad 28), .int x1]) (n := 2) (Nat.le_of_ble_eq_true rfl)
  rw [lg_entry_eq]
  generalize (lg_sl ([.ref (ad 28), .int x1]) ++ List.replicate (2 - (lg_sl ([.ref (ad 28), .int x1])).length) Slot.unset).toArray = ls at hl ⊢
  have hl : lv_has ls 2 [(0, .ref (ad 28)), (1, .int x1)] := hl
  show W p l e rmWriter_put s m ([.ref (ad 28), .int x1] : List Value).toArray below meth c s.heap [] 0 0 (zQv post D (zty cI cC cE) (34 + 4 * n) ad (zF ad cI cC cE n ln) A below ([.ref (ad 28), .int x1] : List Value).toArray s) _
  unfold wpWriter_put at hw
  refine lv_aload_n S.1 S.2.1 dWriter_put_0 rfl (lv_at hl 0 rfl) ?_
  refine zr_get S hK hP (zk (by decide)) (zF_28 _) fWriter_length q247 rfl dWriter_put_1 ?_
  refine lv_aload_n S.1 S.2.1 dWriter_put_4 rfl (lv_at hl 0 rfl) ?_
  refine zr_get S hK hP (zk (by decide)) (zF_28 _) fWriter_letters q245 rfl dWriter_put_5 ?_
  refine zr_len S hK hP (zk (by decide)) (zF_29 _) 1 rfl dWriter_put_8 ?_
  refine lv_icmp_ge S.1 S.2.1 dWriter_put_9 rfl (fun hc => ?_) (fun hc => ?_)
  · have hw := hw.1 hc
    exact zr_vret S hr hlk hK hP hS hw dWriter_put_32
  · have hw := hw.2 hc
    refine lv_aload_n S.1 S.2.1 dWriter_put_12 rfl (lv_at hl 0 rfl) ?_
    refine zr_get S hK hP (zk (by decide)) (zF_28 _) fWriter_letters q245 rfl dWriter_put_13 ?_
    refine lv_aload_n S.1 S.2.1 dWriter_put_16 rfl (lv_at hl 0 rfl) ?_
    refine zr_get S hK hP (zk (by decide)) (zF_28 _) fWriter_length q247 rfl dWriter_put_17 ?_
    refine lv_iload_n S.1 S.2.1 dWriter_put_20 rfl (lv_at hl 1 rfl) ?_
    obtain ⟨z21, hw⟩ := hw
    refine zr_cst S hK hJ hP hS (zk (by decide)) zF_29 1 rfl z21 dWriter_put_21 (fun h21 H locs e21 hP hS => ?_)
    have hw := hw h21 e21
    refine lv_aload_n S.1 S.2.1 dWriter_put_22 rfl (lv_at hl 0 rfl) ?_
    refine lv_dup S.1 S.2.1 dWriter_put_23 rfl ?_
    refine zr_get S hK hP (zk (by decide)) (zF_28 _) fWriter_length q247 rfl dWriter_put_24 ?_
    refine lv_iconst (v := 1) S.1 S.2.1 dWriter_put_27 (by decide) ?_
    refine lv_iadd S.1 S.2.1 dWriter_put_28 ?_
    refine zr_put S hK hJ hP hS (zk (by decide)) (zF_28 _) fWriter_length q247 rfl rfl (Nat.le_of_ble_eq_true rfl) (zF_28 _) dWriter_put_29 (fun h29 H locs e29 hP hS => ?_)
    have hw := hw h29 e29
    exact zr_vret S hr hlk hK hP hS hw dWriter_put_32
/-! Writer.writeNumber -/
theorem dWriter_writeNumber_0 : decode bWriter_writeNumber 0 = .ok (.iload_n 1, 1) := by decide +kernel
theorem dWriter_writeNumber_1 : decode bWriter_writeNumber 1 = .ok (.i2l, 1) := by decide +kernel
theorem dWriter_writeNumber_2 : decode bWriter_writeNumber 2 = .ok (.lstore_n 2, 1) := by decide +kernel
theorem dWriter_writeNumber_3 : decode bWriter_writeNumber 3 = .ok (.lload_n 2, 1) := by decide +kernel
theorem dWriter_writeNumber_4 : decode bWriter_writeNumber 4 = .ok (.lconst 0, 1) := by decide +kernel
theorem dWriter_writeNumber_5 : decode bWriter_writeNumber 5 = .ok (.lcmp, 1) := by decide +kernel
theorem dWriter_writeNumber_6 : decode bWriter_writeNumber 6 = .ok (.ifCond .ge 12, 3) := by decide +kernel
theorem dWriter_writeNumber_9 : decode bWriter_writeNumber 9 = .ok (.aload_n 0, 1) := by decide +kernel
theorem dWriter_writeNumber_10 : decode bWriter_writeNumber 10 = .ok (.bipush 45, 2) := by decide +kernel
theorem dWriter_writeNumber_12 : decode bWriter_writeNumber 12 = .ok (.invokevirtual 42, 3) := by decide +kernel
theorem dWriter_writeNumber_15 : decode bWriter_writeNumber 15 = .ok (.lload_n 2, 1) := by decide +kernel
theorem dWriter_writeNumber_16 : decode bWriter_writeNumber 16 = .ok (.lneg, 1) := by decide +kernel
theorem dWriter_writeNumber_17 : decode bWriter_writeNumber 17 = .ok (.lstore_n 2, 1) := by decide +kernel
theorem dWriter_writeNumber_18 : decode bWriter_writeNumber 18 = .ok (.iconst 0, 1) := by decide +kernel
theorem dWriter_writeNumber_19 : decode bWriter_writeNumber 19 = .ok (.istore 4, 2) := by decide +kernel
theorem dWriter_writeNumber_21 : decode bWriter_writeNumber 21 = .ok (.iconst 0, 1) := by decide +kernel
theorem dWriter_writeNumber_22 : decode bWriter_writeNumber 22 = .ok (.istore 5, 2) := by decide +kernel
theorem dWriter_writeNumber_24 : decode bWriter_writeNumber 24 = .ok (.iload 5, 2) := by decide +kernel
theorem dWriter_writeNumber_26 : decode bWriter_writeNumber 26 = .ok (.getstatic 76, 3) := by decide +kernel
theorem dWriter_writeNumber_29 : decode bWriter_writeNumber 29 = .ok (.arraylength, 1) := by decide +kernel
theorem dWriter_writeNumber_30 : decode bWriter_writeNumber 30 = .ok (.if_icmp .ge 67, 3) := by decide +kernel
theorem dWriter_writeNumber_33 : decode bWriter_writeNumber 33 = .ok (.lload_n 2, 1) := by decide +kernel
theorem dWriter_writeNumber_34 : decode bWriter_writeNumber 34 = .ok (.getstatic 76, 3) := by decide +kernel
theorem dWriter_writeNumber_37 : decode bWriter_writeNumber 37 = .ok (.iload 5, 2) := by decide +kernel
theorem dWriter_writeNumber_39 : decode bWriter_writeNumber 39 = .ok (.iaload, 1) := by decide +kernel
theorem dWriter_writeNumber_40 : decode bWriter_writeNumber 40 = .ok (.i2l, 1) := by decide +kernel
theorem dWriter_writeNumber_41 : decode bWriter_writeNumber 41 = .ok (.ldiv, 1) := by decide +kernel
theorem dWriter_writeNumber_42 : decode bWriter_writeNumber 42 = .ok (.ldc2_w 80, 3) := by decide +kernel
theorem dWriter_writeNumber_45 : decode bWriter_writeNumber 45 = .ok (.lrem, 1) := by decide +kernel
theorem dWriter_writeNumber_46 : decode bWriter_writeNumber 46 = .ok (.l2i, 1) := by decide +kernel
theorem dWriter_writeNumber_47 : decode bWriter_writeNumber 47 = .ok (.istore 6, 2) := by decide +kernel
theorem dWriter_writeNumber_49 : decode bWriter_writeNumber 49 = .ok (.iload 4, 2) := by decide +kernel
theorem dWriter_writeNumber_51 : decode bWriter_writeNumber 51 = .ok (.ifCond .ne 18, 3) := by decide +kernel
theorem dWriter_writeNumber_54 : decode bWriter_writeNumber 54 = .ok (.iload 6, 2) := by decide +kernel
theorem dWriter_writeNumber_56 : decode bWriter_writeNumber 56 = .ok (.ifCond .ne 13, 3) := by decide +kernel
theorem dWriter_writeNumber_59 : decode bWriter_writeNumber 59 = .ok (.getstatic 76, 3) := by decide +kernel
theorem dWriter_writeNumber_62 : decode bWriter_writeNumber 62 = .ok (.iload 5, 2) := by decide +kernel
theorem dWriter_writeNumber_64 : decode bWriter_writeNumber 64 = .ok (.iaload, 1) := by decide +kernel
theorem dWriter_writeNumber_65 : decode bWriter_writeNumber 65 = .ok (.iconst 1, 1) := by decide +kernel
theorem dWriter_writeNumber_66 : decode bWriter_writeNumber 66 = .ok (.if_icmp .ne 7, 3) := by decide +kernel
theorem dWriter_writeNumber_69 : decode bWriter_writeNumber 69 = .ok (.iconst 1, 1) := by decide +kernel
theorem dWriter_writeNumber_70 : decode bWriter_writeNumber 70 = .ok (.goto 4, 3) := by decide +kernel
theorem dWriter_writeNumber_73 : decode bWriter_writeNumber 73 = .ok (.iconst 0, 1) := by decide +kernel
theorem dWriter_writeNumber_74 : decode bWriter_writeNumber 74 = .ok (.istore 4, 2) := by decide +kernel
theorem dWriter_writeNumber_76 : decode bWriter_writeNumber 76 = .ok (.iload 4, 2) := by decide +kernel
theorem dWriter_writeNumber_78 : decode bWriter_writeNumber 78 = .ok (.ifCond .eq 13, 3) := by decide +kernel
theorem dWriter_writeNumber_81 : decode bWriter_writeNumber 81 = .ok (.aload_n 0, 1) := by decide +kernel
theorem dWriter_writeNumber_82 : decode bWriter_writeNumber 82 = .ok (.bipush 48, 2) := by decide +kernel
theorem dWriter_writeNumber_84 : decode bWriter_writeNumber 84 = .ok (.iload 6, 2) := by decide +kernel
theorem dWriter_writeNumber_86 : decode bWriter_writeNumber 86 = .ok (.iadd, 1) := by decide +kernel
theorem dWriter_writeNumber_87 : decode bWriter_writeNumber 87 = .ok (.i2c, 1) := by decide +kernel
theorem dWriter_writeNumber_88 : decode bWriter_writeNumber 88 = .ok (.invokevirtual 42, 3) := by decide +kernel
theorem dWriter_writeNumber_91 : decode bWriter_writeNumber 91 = .ok (.iinc 5 1, 3) := by decide +kernel
theorem dWriter_writeNumber_94 : decode bWriter_writeNumber 94 = .ok (.goto (-70), 3) := by decide +kernel
theorem dWriter_writeNumber_97 : decode bWriter_writeNumber 97 = .ok (.return_, 1) := by decide +kernel
def wbWriter_writeNumber_91 (n : Nat) (ln : Nat → Nat) (post : zM → Prop) (L24 : (Int64 × Int32 × Int32 × zM) → Prop) (u2 : Int64) (v4 : Int32) (v5 : Int32) (h : zM) : Prop := L24 (u2, v4, (v5 + 1), h)
def wbWriter_writeNumber_74 (n : Nat) (ln : Nat → Nat) (post : zM → Prop) (L24 : (Int64 × Int32 × Int32 × zM) → Prop) (u2 : Int64) (v5 : Int32) (v6 : Int32) (k0 : Int32) (h : zM) : Prop := ((k0 = 0 → wbWriter_writeNumber_91 n ln post L24 u2 k0 v5 h) ∧ (¬ k0 = 0 → wpWriter_put n ln ((Int32.toUInt32 (48 + v6) % 65536).toInt32) h (fun h88 => wbWriter_writeNumber_91 n ln post L24 u2 k0 v5 h88)))
def wbWriter_writeNumber_69 (n : Nat) (ln : Nat → Nat) (post : zM → Prop) (L24 : (Int64 × Int32 × Int32 × zM) → Prop) (u2 : Int64) (v5 : Int32) (v6 : Int32) (h : zM) : Prop := wbWriter_writeNumber_74 n ln post L24 u2 v5 v6 1 h
def stWriter_writeNumber_24 (n : Nat) (ln : Nat → Nat) (post : zM → Prop) (L24 : (Int64 × Int32 × Int32 × zM) → Prop) : (Int64 × Int32 × Int32 × zM) → Prop := fun s => match s with
  | (u2, v4, v5, h) => (((10 ≤ v5) → post h) ∧ (¬ (10 ≤ v5) → (vp_in v5 10 ∧ (¬ (Int32.toInt64 (zt4 (Int32.toNatClampNeg v5))) = 0 ∧ ∀ y47 : Int32, y47 = (Int64.toInt32 ((u2 / (Int32.toInt64 (zt4 (Int32.toNatClampNeg v5)))) - (u2 / (Int32.toInt64 (zt4 (Int32.toNatClampNeg v5)))) / 10 * 10)) → ((¬ v4 = 0 → wbWriter_writeNumber_69 n ln post L24 u2 v5 y47 h) ∧ (v4 = 0 → ((¬ y47 = 0 → wbWriter_writeNumber_69 n ln post L24 u2 v5 y47 h) ∧ (y47 = 0 → (vp_in v5 10 ∧ ((¬ (zt4 (Int32.toNatClampNeg v5)) = 1 → wbWriter_writeNumber_74 n ln post L24 u2 v5 y47 0 h) ∧ ((zt4 (Int32.toNatClampNeg v5)) = 1 → wbWriter_writeNumber_69 n ln post L24 u2 v5 y47 h)))))))))))
def wbWriter_writeNumber_18 (n : Nat) (ln : Nat → Nat) (post : zM → Prop) (u2 : Int64) (h : zM) : Prop := zL (stWriter_writeNumber_24 n ln post) (u2, 0, 0, h)
def wpWriter_writeNumber (n : Nat) (ln : Nat → Nat) (x1 : Int32) (h : zM) (post : zM → Prop) : Prop := ∀ y2 : Int64, y2 = (Int32.toInt64 x1) → (((0 ≤ (lg_cmp y2 0)) → wbWriter_writeNumber_18 n ln post y2 h) ∧ (¬ (0 ≤ (lg_cmp y2 0)) → wpWriter_put n ln 45 h (fun h12 => ∀ y17 : Int64, y17 = (-y2) → wbWriter_writeNumber_18 n ln post y17 h12)))
abbrev rmWriter_writeNumber : Room := { frames := 1, cells := 0, slots := 0, locals := 21 }
set_option maxHeartbeats 4000000 in
set_option maxRecDepth 100000 in
theorem cWriter_writeNumber (l : Launch) (D : va_G) (cI cC cE : ClassId) (ad : Nat → Nat) (n : Nat) (ln : Nat → Nat) (A : Nat → Prop) (hJ : zJ A (34 + 4 * n) ad) (x1 : Int32) (h : zM) (post : zM → Prop) (hw : wpWriter_writeNumber n ln x1 h post) : Met l yWriter_writeNumber (.code yWriter_writeNumber bWriter_writeNumber 7 none :: zt) rmWriter_writeNumber (va_Pc [.ref (ad 28), .int x1] (zPre D (zty cI cC cE) (34 + 4 * n) ad (zF ad cI cC cE n ln) A h)) (va_Qv post (zPst D (zty cI cC cE) (34 + 4 * n) ad (zF ad cI cC cE n ln)) A) 0 0 A := by
  refine Met.ofW (cc := bWriter_writeNumber) (maxL := 7) (ret := none) (by decide) rfl ?_
  intro p e s m args below meth c s₁ B hml hv
  obtain ⟨rfl, hP, hK, hT, hN⟩ := hv
  have hr := B.returns
  have hlk := B.notSynchronized
  have S : zS p m c bWriter_writeNumber 7 s _ "CallExplorer$Writer" := ⟨B.exec, B.bytes, hml, findClass_of_methodNamed B.named, fun w hw => atoms_spec (ws := .code yWriter_writeNumber bWriter_writeNumber 7 none :: zt) B.pre w (List.mem_cons_of_mem _ hw)⟩
  have hS : va_S A s.heap s.heap [] := va_S.rf
  obtain ⟨-, -, -, ⟨t4, hZ4, hT4⟩⟩ := id hT
  have hl := lv_entry ([.ref (ad 28), .int x1]) (n := 7) (Nat.le_of_ble_eq_true rfl)
  rw [lg_entry_eq]
  generalize (lg_sl ([.ref (ad 28), .int x1]) ++ List.replicate (7 - (lg_sl ([.ref (ad 28), .int x1])).length) Slot.unset).toArray = ls at hl ⊢
  have hl : lv_has ls 7 [(0, .ref (ad 28)), (1, .int x1)] := hl
  show W p l e rmWriter_writeNumber s m ([.ref (ad 28), .int x1] : List Value).toArray below meth c s.heap [] 0 0 (zQv post D (zty cI cC cE) (34 + 4 * n) ad (zF ad cI cC cE n ln) A below ([.ref (ad 28), .int x1] : List Value).toArray s) _
  have J24 : ∀ (fu : Nat) (u2 : Int64) (v4 : Int32) (v5 : Int32) (h : zM) (H : Heap) (locs : List Loc) (ls : Array Slot), zl (stWriter_writeNumber_24 n ln post) fu (u2, v4, v5, h) → lv_has ls 7 [(0, .ref (ad 28)), (2, .long u2), (4, .int v4), (5, .int v5)] → va_P D zcl (zW (34 + 4 * n) ad (zF ad cI cC cE n ln) h) H → va_S A s.heap H locs → W p l e rmWriter_writeNumber s m ([.ref (ad 28), .int x1] : List Value).toArray below meth c H locs 0 0 (zQv post D (zty cI cC cE) (34 + 4 * n) ad (zF ad cI cC cE n ln) A below ([.ref (ad 28), .int x1] : List Value).toArray s) (F0 m 24 ls []) := by
    intro fu24
    induction fu24 with
    | zero =>
      intro u2 v4 v5 h H locs ls hw
      exact (zl_0 hw).elim
    | succ fu24 ih24 =>
      intro u2 v4 v5 h H locs ls hw hl hP hS
      have hw := zl_s hw
      generalize zl (stWriter_writeNumber_24 n ln post) fu24 = L24 at hw ih24
      have J91 : ∀ (u2 : Int64) (v4 : Int32) (v5 : Int32) (h : zM) (H : Heap) (locs : List Loc) (ls : Array Slot), wbWriter_writeNumber_91 n ln post L24 u2 v4 v5 h → lv_has ls 7 [(0, .ref (ad 28)), (2, .long u2), (4, .int v4), (5, .int v5)] → va_P D zcl (zW (34 + 4 * n) ad (zF ad cI cC cE n ln) h) H → va_S A s.heap H locs → W p l e rmWriter_writeNumber s m ([.ref (ad 28), .int x1] : List Value).toArray below meth c H locs 0 0 (zQv post D (zty cI cC cE) (34 + 4 * n) ad (zF ad cI cC cE n ln) A below ([.ref (ad 28), .int x1] : List Value).toArray s) (F0 m 91 ls []) := by
        intro u2 v4 v5 h H locs ls hw hl hP hS
        unfold wbWriter_writeNumber_91 at hw
        refine lv_iinc (v := (v5 + 1)) (lv' := [(5, .int (v5 + 1)), (0, .ref (ad 28)), (2, .long u2), (4, .int v4)]) (k := 3) S.1 S.2.1 dWriter_writeNumber_91 hl rfl rfl (by decide) rfl (fun ls hl => ?_)
        refine lv_goto S.1 S.2.1 dWriter_writeNumber_94 rfl ?_
        exact ih24 _ _ _ _ _ _ _ hw (lv_sub hl [1, 2, 3, 0] rfl) hP hS
      have J74 : ∀ (u2 : Int64) (v5 : Int32) (v6 : Int32) (k0 : Int32) (h : zM) (H : Heap) (locs : List Loc) (ls : Array Slot), wbWriter_writeNumber_74 n ln post L24 u2 v5 v6 k0 h → lv_has ls 7 [(0, .ref (ad 28)), (2, .long u2), (5, .int v5), (6, .int v6)] → va_P D zcl (zW (34 + 4 * n) ad (zF ad cI cC cE n ln) h) H → va_S A s.heap H locs → W p l e rmWriter_writeNumber s m ([.ref (ad 28), .int x1] : List Value).toArray below meth c H locs 0 0 (zQv post D (zty cI cC cE) (34 + 4 * n) ad (zF ad cI cC cE n ln) A below ([.ref (ad 28), .int x1] : List Value).toArray s) (F0 m 74 ls [.int k0]) := by
        intro u2 v5 v6 k0 h H locs ls hw hl hP hS
        unfold wbWriter_writeNumber_74 at hw
        refine lv_istore (lv' := [(4, .int k0), (0, .ref (ad 28)), (2, .long u2), (5, .int v5), (6, .int v6)]) S.1 S.2.1 dWriter_writeNumber_74 hl (by decide) rfl (fun ls hl => ?_)
        refine lv_iload S.1 S.2.1 dWriter_writeNumber_76 (lv_at hl 0 rfl) ?_
        refine lv_if_eq S.1 S.2.1 dWriter_writeNumber_78 rfl (fun hc => ?_) (fun hc => ?_)
        · have hw := hw.1 hc
          exact J91 _ _ _ _ _ _ _ hw (lv_sub hl [1, 2, 0, 3] rfl) hP hS
        · have hw := hw.2 hc
          refine lv_aload_n S.1 S.2.1 dWriter_writeNumber_81 rfl (lv_at hl 1 rfl) ?_
          refine lv_bipush (v := 48) S.1 S.2.1 dWriter_writeNumber_82 (by decide) ?_
          refine lv_iload S.1 S.2.1 dWriter_writeNumber_84 (lv_at hl 4 rfl) ?_
          refine lv_iadd S.1 S.2.1 dWriter_writeNumber_86 ?_
          refine lv_i2c S.1 S.2.1 dWriter_writeNumber_87 rfl ?_
          refine zr_v (zr_V (As := [.int ((Int32.toUInt32 (48 + v6) % 65536).toInt32)]) (rest := []) S hK hT hN hP hS (zk (by decide)) (zF_28 _) rfl (cWriter_put l D cI cC cE ad n ln A hJ _ _ _ hw) caWriter_42 ⟨Nat.le_of_ble_eq_true rfl, Nat.le_of_ble_eq_true rfl⟩ ⟨rfl, rfl⟩ rfl hl.1 rfl (Nat.le_of_ble_eq_true rfl) dWriter_writeNumber_88) hS (fun h88 H locs hw hP hS => ?_)
          exact J91 _ _ _ _ _ _ _ hw (lv_sub hl [1, 2, 0, 3] rfl) hP hS
      have J69 : ∀ (u2 : Int64) (v5 : Int32) (v6 : Int32) (h : zM) (H : Heap) (locs : List Loc) (ls : Array Slot), wbWriter_writeNumber_69 n ln post L24 u2 v5 v6 h → lv_has ls 7 [(0, .ref (ad 28)), (2, .long u2), (5, .int v5), (6, .int v6)] → va_P D zcl (zW (34 + 4 * n) ad (zF ad cI cC cE n ln) h) H → va_S A s.heap H locs → W p l e rmWriter_writeNumber s m ([.ref (ad 28), .int x1] : List Value).toArray below meth c H locs 0 0 (zQv post D (zty cI cC cE) (34 + 4 * n) ad (zF ad cI cC cE n ln) A below ([.ref (ad 28), .int x1] : List Value).toArray s) (F0 m 69 ls []) := by
        intro u2 v5 v6 h H locs ls hw hl hP hS
        unfold wbWriter_writeNumber_69 at hw
        refine lv_iconst (v := 1) S.1 S.2.1 dWriter_writeNumber_69 (by decide) ?_
        refine lv_goto S.1 S.2.1 dWriter_writeNumber_70 rfl ?_
        exact J74 _ _ _ _ _ _ _ _ hw (lv_sub hl [0, 1, 2, 3] rfl) hP hS
      unfold stWriter_writeNumber_24 at hw
      dsimp only at hw
      refine lv_iload S.1 S.2.1 dWriter_writeNumber_24 (lv_at hl 3 rfl) ?_
      refine zr_gets S hN hS hZ4 (by decide) dWriter_writeNumber_26 ?_
      refine zr_tln S hS hT4 dWriter_writeNumber_29 ?_
      refine lv_icmp_ge S.1 S.2.1 dWriter_writeNumber_30 rfl (fun hc => ?_) (fun hc => ?_)
      · have hw := hw.1 hc
        exact zr_vret S hr hlk hK hP hS hw dWriter_writeNumber_97
      · have hw := hw.2 hc
        refine lv_lload_n S.1 S.2.1 dWriter_writeNumber_33 rfl (lv_at hl 1 rfl) ?_
        refine zr_gets S hN hS hZ4 (by decide) dWriter_writeNumber_34 ?_
        refine lv_iload S.1 S.2.1 dWriter_writeNumber_37 (lv_at hl 3 rfl) ?_
        obtain ⟨z39, hw⟩ := hw
        refine zr_tld S hS hT4 z39 dWriter_writeNumber_39 ?_
        refine lv_i2l S.1 S.2.1 dWriter_writeNumber_40 rfl ?_
        obtain ⟨z41, hw⟩ := hw
        refine lv_ldiv S.1 S.2.1 dWriter_writeNumber_41 z41 ?_
        refine lv_ldc2 (v := 10) S.1 S.2.1 S.2.2.2.1 (S.2.2.2.2 _ q725) dWriter_writeNumber_42 ?_
        refine lv_lrem S.1 S.2.1 dWriter_writeNumber_45 (by decide) ?_
        refine lv_l2i S.1 S.2.1 dWriter_writeNumber_46 rfl ?_
        refine lv_topi (fun y47 e47 => ?_)
        have hw := hw y47 e47
        refine lv_istore (lv' := [(6, .int y47), (0, .ref (ad 28)), (2, .long u2), (4, .int v4), (5, .int v5)]) S.1 S.2.1 dWriter_writeNumber_47 hl (by decide) rfl (fun ls hl => ?_)
        refine lv_iload S.1 S.2.1 dWriter_writeNumber_49 (lv_at hl 3 rfl) ?_
        refine lv_if_ne S.1 S.2.1 dWriter_writeNumber_51 rfl (fun hc => ?_) (fun hc => ?_)
        · have hw := hw.1 hc
          exact J69 _ _ _ _ _ _ _ hw (lv_sub hl [1, 2, 4, 0] rfl) hP hS
        · have hw := hw.2 hc
          refine lv_iload S.1 S.2.1 dWriter_writeNumber_54 (lv_at hl 0 rfl) ?_
          refine lv_if_ne S.1 S.2.1 dWriter_writeNumber_56 rfl (fun hc => ?_) (fun hc => ?_)
          · have hw := hw.1 hc
            exact J69 _ _ _ _ _ _ _ hw (lv_sub hl [1, 2, 4, 0] rfl) hP hS
          · have hw := hw.2 hc
            refine zr_gets S hN hS hZ4 (by decide) dWriter_writeNumber_59 ?_
            refine lv_iload S.1 S.2.1 dWriter_writeNumber_62 (lv_at hl 4 rfl) ?_
            obtain ⟨z64, hw⟩ := hw
            refine zr_tld S hS hT4 z64 dWriter_writeNumber_64 ?_
            refine lv_iconst (v := 1) S.1 S.2.1 dWriter_writeNumber_65 (by decide) ?_
            refine lv_icmp_ne S.1 S.2.1 dWriter_writeNumber_66 rfl (fun hc => ?_) (fun hc => ?_)
            · have hw := hw.1 hc
              refine lv_iconst (v := 0) S.1 S.2.1 dWriter_writeNumber_73 (by decide) ?_
              exact J74 _ _ _ _ _ _ _ _ hw (lv_sub hl [1, 2, 4, 0] rfl) hP hS
            · have hw := hw.2 hc
              exact J69 _ _ _ _ _ _ _ hw (lv_sub hl [1, 2, 4, 0] rfl) hP hS
  have J18 : ∀ (u2 : Int64) (h : zM) (H : Heap) (locs : List Loc) (ls : Array Slot), wbWriter_writeNumber_18 n ln post u2 h → lv_has ls 7 [(0, .ref (ad 28)), (2, .long u2)] → va_P D zcl (zW (34 + 4 * n) ad (zF ad cI cC cE n ln) h) H → va_S A s.heap H locs → W p l e rmWriter_writeNumber s m ([.ref (ad 28), .int x1] : List Value).toArray below meth c H locs 0 0 (zQv post D (zty cI cC cE) (34 + 4 * n) ad (zF ad cI cC cE n ln) A below ([.ref (ad 28), .int x1] : List Value).toArray s) (F0 m 18 ls []) := by
    intro u2 h H locs ls hw hl hP hS
    unfold wbWriter_writeNumber_18 at hw
    refine lv_iconst (v := 0) S.1 S.2.1 dWriter_writeNumber_18 (by decide) ?_
    refine lv_istore (lv' := [(4, .int 0), (0, .ref (ad 28)), (2, .long u2)]) S.1 S.2.1 dWriter_writeNumber_19 hl (by decide) rfl (fun ls hl => ?_)
    refine lv_iconst (v := 0) S.1 S.2.1 dWriter_writeNumber_21 (by decide) ?_
    refine lv_istore (lv' := [(5, .int 0), (4, .int 0), (0, .ref (ad 28)), (2, .long u2)]) S.1 S.2.1 dWriter_writeNumber_22 hl (by decide) rfl (fun ls hl => ?_)
    obtain ⟨fu, hw⟩ := hw
    exact J24 fu _ _ _ _ _ _ _ hw (lv_sub hl [2, 3, 1, 0] rfl) hP hS
  unfold wpWriter_writeNumber at hw
  refine lv_iload_n S.1 S.2.1 dWriter_writeNumber_0 rfl (lv_at hl 1 rfl) ?_
  refine lv_i2l S.1 S.2.1 dWriter_writeNumber_1 rfl ?_
  refine lv_topl (fun y2 e2 => ?_)
  have hw := hw y2 e2
  refine lv_lstore_n (lv' := [(2, .long y2), (0, .ref (ad 28)), (1, .int x1)]) S.1 S.2.1 dWriter_writeNumber_2 rfl hl (by decide) rfl (fun ls hl => ?_)
  refine lv_lload_n S.1 S.2.1 dWriter_writeNumber_3 rfl (lv_at hl 0 rfl) ?_
  refine lv_lconst (v := 0) S.1 S.2.1 dWriter_writeNumber_4 (by decide) ?_
  refine W.lcmp S.1 S.2.1 dWriter_writeNumber_5 ?_
  refine lv_if_ge S.1 S.2.1 dWriter_writeNumber_6 rfl (fun hc => ?_) (fun hc => ?_)
  · have hw := hw.1 hc
    exact J18 _ _ _ _ _ hw (lv_sub hl [1, 0] rfl) hP hS
  · have hw := hw.2 hc
    refine lv_aload_n S.1 S.2.1 dWriter_writeNumber_9 rfl (lv_at hl 1 rfl) ?_
    refine lv_bipush (v := 45) S.1 S.2.1 dWriter_writeNumber_10 (by decide) ?_
    refine zr_v (zr_V (As := [.int 45]) (rest := []) S hK hT hN hP hS (zk (by decide)) (zF_28 _) rfl (cWriter_put l D cI cC cE ad n ln A hJ _ _ _ hw) caWriter_42 ⟨Nat.le_of_ble_eq_true rfl, Nat.le_of_ble_eq_true rfl⟩ ⟨rfl, rfl⟩ rfl hl.1 rfl (Nat.le_of_ble_eq_true rfl) dWriter_writeNumber_12) hS (fun h12 H locs hw hP hS => ?_)
    refine lv_lload_n S.1 S.2.1 dWriter_writeNumber_15 rfl (lv_at hl 0 rfl) ?_
    refine lv_lneg S.1 S.2.1 dWriter_writeNumber_16 ?_
    refine lv_topl (fun y17 e17 => ?_)
    have hw := hw y17 e17
    refine lv_lstore_n (lv' := [(2, .long y17), (0, .ref (ad 28)), (1, .int x1)]) S.1 S.2.1 dWriter_writeNumber_17 rfl hl (by decide) rfl (fun ls hl => ?_)
    exact J18 _ _ _ _ _ hw (lv_sub hl [1, 0] rfl) hP hS
/-! Writer.writeArgument -/
theorem dWriter_writeArgument_0 : decode bWriter_writeArgument 0 = .ok (.iload_n 1, 1) := by decide +kernel
theorem dWriter_writeArgument_1 : decode bWriter_writeArgument 1 = .ok (.tableswitch 58 0 2 #[27, 41, 49], 27) := by decide +kernel
theorem dWriter_writeArgument_28 : decode bWriter_writeArgument 28 = .ok (.aload_n 0, 1) := by decide +kernel
theorem dWriter_writeArgument_29 : decode bWriter_writeArgument 29 = .ok (.bipush 118, 2) := by decide +kernel
theorem dWriter_writeArgument_31 : decode bWriter_writeArgument 31 = .ok (.invokevirtual 42, 3) := by decide +kernel
theorem dWriter_writeArgument_34 : decode bWriter_writeArgument 34 = .ok (.aload_n 0, 1) := by decide +kernel
theorem dWriter_writeArgument_35 : decode bWriter_writeArgument 35 = .ok (.iload_n 2, 1) := by decide +kernel
theorem dWriter_writeArgument_36 : decode bWriter_writeArgument 36 = .ok (.invokevirtual 57, 3) := by decide +kernel
theorem dWriter_writeArgument_39 : decode bWriter_writeArgument 39 = .ok (.goto 20, 3) := by decide +kernel
theorem dWriter_writeArgument_42 : decode bWriter_writeArgument 42 = .ok (.aload_n 0, 1) := by decide +kernel
theorem dWriter_writeArgument_43 : decode bWriter_writeArgument 43 = .ok (.iload_n 2, 1) := by decide +kernel
theorem dWriter_writeArgument_44 : decode bWriter_writeArgument 44 = .ok (.invokevirtual 57, 3) := by decide +kernel
theorem dWriter_writeArgument_47 : decode bWriter_writeArgument 47 = .ok (.goto 12, 3) := by decide +kernel
theorem dWriter_writeArgument_50 : decode bWriter_writeArgument 50 = .ok (.aload_n 0, 1) := by decide +kernel
theorem dWriter_writeArgument_51 : decode bWriter_writeArgument 51 = .ok (.bipush 110, 2) := by decide +kernel
theorem dWriter_writeArgument_53 : decode bWriter_writeArgument 53 = .ok (.invokevirtual 42, 3) := by decide +kernel
theorem dWriter_writeArgument_56 : decode bWriter_writeArgument 56 = .ok (.goto 3, 3) := by decide +kernel
theorem dWriter_writeArgument_59 : decode bWriter_writeArgument 59 = .ok (.return_, 1) := by decide +kernel
def wpWriter_writeArgument (n : Nat) (ln : Nat → Nat) (x1 : Int32) (x2 : Int32) (h : zM) (post : zM → Prop) : Prop := ((x1 = 0 → wpWriter_put n ln 118 h (fun h31 => wpWriter_writeNumber n ln x2 h31 (fun h36 => post h36))) ∧ (¬ x1 = 0 → ((x1 = 1 → wpWriter_writeNumber n ln x2 h (fun h44 => post h44)) ∧ (¬ x1 = 1 → ((x1 = 2 → wpWriter_put n ln 110 h (fun h53 => post h53)) ∧ (¬ x1 = 2 → post h))))))
abbrev rmWriter_writeArgument : Room := { frames := 2, cells := 0, slots := 0, locals := 47 }
set_option maxHeartbeats 4000000 in
set_option maxRecDepth 100000 in
theorem cWriter_writeArgument (l : Launch) (D : va_G) (cI cC cE : ClassId) (ad : Nat → Nat) (n : Nat) (ln : Nat → Nat) (A : Nat → Prop) (hJ : zJ A (34 + 4 * n) ad) (x1 : Int32) (x2 : Int32) (h : zM) (post : zM → Prop) (hw : wpWriter_writeArgument n ln x1 x2 h post) : Met l yWriter_writeArgument (.code yWriter_writeArgument bWriter_writeArgument 3 none :: zt) rmWriter_writeArgument (va_Pc [.ref (ad 28), .int x1, .int x2] (zPre D (zty cI cC cE) (34 + 4 * n) ad (zF ad cI cC cE n ln) A h)) (va_Qv post (zPst D (zty cI cC cE) (34 + 4 * n) ad (zF ad cI cC cE n ln)) A) 0 0 A := by
  refine Met.ofW (cc := bWriter_writeArgument) (maxL := 3) (ret := none) (by decide) rfl ?_
  intro p e s m args below meth c s₁ B hml hv
  obtain ⟨rfl, hP, hK, hT, hN⟩ := hv
  have hr := B.returns
  have hlk := B.notSynchronized
  have S : zS p m c bWriter_writeArgument 3 s _ "CallExplorer$Writer" := ⟨B.exec, B.bytes, hml, findClass_of_methodNamed B.named, fun w hw => atoms_spec (ws := .code yWriter_writeArgument bWriter_writeArgument 3 none :: zt) B.pre w (List.mem_cons_of_mem _ hw)⟩
  have hS : va_S A s.heap s.heap [] := va_S.rf
  have hl := lv_entry ([.ref (ad 28), .int x1, .int x2]) (n := 3) (Nat.le_of_ble_eq_true rfl)
  rw [lg_entry_eq]
  generalize (lg_sl ([.ref (ad 28), .int x1, .int x2]) ++ List.replicate (3 - (lg_sl ([.ref (ad 28), .int x1, .int x2])).length) Slot.unset).toArray = ls at hl ⊢
  have hl : lv_has ls 3 [(0, .ref (ad 28)), (1, .int x1), (2, .int x2)] := hl
  show W p l e rmWriter_writeArgument s m ([.ref (ad 28), .int x1, .int x2] : List Value).toArray below meth c s.heap [] 0 0 (zQv post D (zty cI cC cE) (34 + 4 * n) ad (zF ad cI cC cE n ln) A below ([.ref (ad 28), .int x1, .int x2] : List Value).toArray s) _
  unfold wpWriter_writeArgument at hw
  refine lv_iload_n S.1 S.2.1 dWriter_writeArgument_0 rfl (lv_at hl 1 rfl) ?_
  by_cases c0 : x1 = 0
  · have hw := hw.1 c0
    refine lv_tableIn (off := 27) S.1 S.2.1 dWriter_writeArgument_1 (by rw [c0]; decide) (by rw [c0]; decide) (by rw [c0]; rfl) rfl ?_
    refine lv_aload_n S.1 S.2.1 dWriter_writeArgument_28 rfl (lv_at hl 0 rfl) ?_
    refine lv_bipush (v := 118) S.1 S.2.1 dWriter_writeArgument_29 (by decide) ?_
    refine zr_v (zr_V (As := [.int 118]) (rest := []) S hK hT hN hP hS (zk (by decide)) (zF_28 _) rfl (cWriter_put l D cI cC cE ad n ln A hJ _ _ _ hw) caWriter_42 ⟨Nat.le_of_ble_eq_true rfl, Nat.le_of_ble_eq_true rfl⟩ ⟨rfl, rfl⟩ rfl hl.1 rfl (Nat.le_of_ble_eq_true rfl) dWriter_writeArgument_31) hS (fun h31 H locs hw hP hS => ?_)
    refine lv_aload_n S.1 S.2.1 dWriter_writeArgument_34 rfl (lv_at hl 0 rfl) ?_
    refine lv_iload_n S.1 S.2.1 dWriter_writeArgument_35 rfl (lv_at hl 2 rfl) ?_
    refine zr_v (zr_V (As := [.int x2]) (rest := []) S hK hT hN hP hS (zk (by decide)) (zF_28 _) rfl (cWriter_writeNumber l D cI cC cE ad n ln A hJ _ _ _ hw) caWriter_57 ⟨Nat.le_of_ble_eq_true rfl, Nat.le_of_ble_eq_true rfl⟩ ⟨rfl, rfl⟩ rfl hl.1 rfl (Nat.le_of_ble_eq_true rfl) dWriter_writeArgument_36) hS (fun h36 H locs hw hP hS => ?_)
    refine lv_goto S.1 S.2.1 dWriter_writeArgument_39 rfl ?_
    exact zr_vret S hr hlk hK hP hS hw dWriter_writeArgument_59
  · have hw := hw.2 c0
    by_cases c1 : x1 = 1
    · have hw := hw.1 c1
      refine lv_tableIn (off := 41) S.1 S.2.1 dWriter_writeArgument_1 (by rw [c1]; decide) (by rw [c1]; decide) (by rw [c1]; rfl) rfl ?_
      refine lv_aload_n S.1 S.2.1 dWriter_writeArgument_42 rfl (lv_at hl 0 rfl) ?_
      refine lv_iload_n S.1 S.2.1 dWriter_writeArgument_43 rfl (lv_at hl 2 rfl) ?_
      refine zr_v (zr_V (As := [.int x2]) (rest := []) S hK hT hN hP hS (zk (by decide)) (zF_28 _) rfl (cWriter_writeNumber l D cI cC cE ad n ln A hJ _ _ _ hw) caWriter_57 ⟨Nat.le_of_ble_eq_true rfl, Nat.le_of_ble_eq_true rfl⟩ ⟨rfl, rfl⟩ rfl hl.1 rfl (Nat.le_of_ble_eq_true rfl) dWriter_writeArgument_44) hS (fun h44 H locs hw hP hS => ?_)
      refine lv_goto S.1 S.2.1 dWriter_writeArgument_47 rfl ?_
      exact zr_vret S hr hlk hK hP hS hw dWriter_writeArgument_59
    · have hw := hw.2 c1
      by_cases c2 : x1 = 2
      · have hw := hw.1 c2
        refine lv_tableIn (off := 49) S.1 S.2.1 dWriter_writeArgument_1 (by rw [c2]; decide) (by rw [c2]; decide) (by rw [c2]; rfl) rfl ?_
        refine lv_aload_n S.1 S.2.1 dWriter_writeArgument_50 rfl (lv_at hl 0 rfl) ?_
        refine lv_bipush (v := 110) S.1 S.2.1 dWriter_writeArgument_51 (by decide) ?_
        refine zr_v (zr_V (As := [.int 110]) (rest := []) S hK hT hN hP hS (zk (by decide)) (zF_28 _) rfl (cWriter_put l D cI cC cE ad n ln A hJ _ _ _ hw) caWriter_42 ⟨Nat.le_of_ble_eq_true rfl, Nat.le_of_ble_eq_true rfl⟩ ⟨rfl, rfl⟩ rfl hl.1 rfl (Nat.le_of_ble_eq_true rfl) dWriter_writeArgument_53) hS (fun h53 H locs hw hP hS => ?_)
        refine lv_goto S.1 S.2.1 dWriter_writeArgument_56 rfl ?_
        exact zr_vret S hr hlk hK hP hS hw dWriter_writeArgument_59
      · have hw := hw.2 c2
        refine lv_tableOut S.1 S.2.1 dWriter_writeArgument_1 (by have n0 := lv_neT c0 (show (0 : Int32).toInt = 0 from by decide); have n1 := lv_neT c1 (show (1 : Int32).toInt = 1 from by decide); have n2 := lv_neT c2 (show (2 : Int32).toInt = 2 from by decide); omega) rfl ?_
        exact zr_vret S hr hlk hK hP hS hw dWriter_writeArgument_59
/-! Writer.writeCall -/
theorem dWriter_writeCall_0 : decode bWriter_writeCall 0 = .ok (.aload_n 0, 1) := by decide +kernel
theorem dWriter_writeCall_1 : decode bWriter_writeCall 1 = .ok (.bipush 97, 2) := by decide +kernel
theorem dWriter_writeCall_3 : decode bWriter_writeCall 3 = .ok (.aload_n 1, 1) := by decide +kernel
theorem dWriter_writeCall_4 : decode bWriter_writeCall 4 = .ok (.iload_n 2, 1) := by decide +kernel
theorem dWriter_writeCall_5 : decode bWriter_writeCall 5 = .ok (.invokevirtual 38, 3) := by decide +kernel
theorem dWriter_writeCall_8 : decode bWriter_writeCall 8 = .ok (.iadd, 1) := by decide +kernel
theorem dWriter_writeCall_9 : decode bWriter_writeCall 9 = .ok (.i2c, 1) := by decide +kernel
theorem dWriter_writeCall_10 : decode bWriter_writeCall 10 = .ok (.invokevirtual 42, 3) := by decide +kernel
theorem dWriter_writeCall_13 : decode bWriter_writeCall 13 = .ok (.aload_n 0, 1) := by decide +kernel
theorem dWriter_writeCall_14 : decode bWriter_writeCall 14 = .ok (.bipush 40, 2) := by decide +kernel
theorem dWriter_writeCall_16 : decode bWriter_writeCall 16 = .ok (.invokevirtual 42, 3) := by decide +kernel
theorem dWriter_writeCall_19 : decode bWriter_writeCall 19 = .ok (.iconst 0, 1) := by decide +kernel
theorem dWriter_writeCall_20 : decode bWriter_writeCall 20 = .ok (.istore_n 3, 1) := by decide +kernel
theorem dWriter_writeCall_21 : decode bWriter_writeCall 21 = .ok (.iload_n 3, 1) := by decide +kernel
theorem dWriter_writeCall_22 : decode bWriter_writeCall 22 = .ok (.iconst 2, 1) := by decide +kernel
theorem dWriter_writeCall_23 : decode bWriter_writeCall 23 = .ok (.if_icmp .ge 45, 3) := by decide +kernel
theorem dWriter_writeCall_26 : decode bWriter_writeCall 26 = .ok (.iload_n 3, 1) := by decide +kernel
theorem dWriter_writeCall_27 : decode bWriter_writeCall 27 = .ok (.ifCond .le 19, 3) := by decide +kernel
theorem dWriter_writeCall_30 : decode bWriter_writeCall 30 = .ok (.aload_n 1, 1) := by decide +kernel
theorem dWriter_writeCall_31 : decode bWriter_writeCall 31 = .ok (.iload_n 2, 1) := by decide +kernel
theorem dWriter_writeCall_32 : decode bWriter_writeCall 32 = .ok (.iload_n 3, 1) := by decide +kernel
theorem dWriter_writeCall_33 : decode bWriter_writeCall 33 = .ok (.invokevirtual 46, 3) := by decide +kernel
theorem dWriter_writeCall_36 : decode bWriter_writeCall 36 = .ok (.iconst (-1), 1) := by decide +kernel
theorem dWriter_writeCall_37 : decode bWriter_writeCall 37 = .ok (.if_icmp .eq 9, 3) := by decide +kernel
theorem dWriter_writeCall_40 : decode bWriter_writeCall 40 = .ok (.aload_n 0, 1) := by decide +kernel
theorem dWriter_writeCall_41 : decode bWriter_writeCall 41 = .ok (.bipush 44, 2) := by decide +kernel
theorem dWriter_writeCall_43 : decode bWriter_writeCall 43 = .ok (.invokevirtual 42, 3) := by decide +kernel
theorem dWriter_writeCall_46 : decode bWriter_writeCall 46 = .ok (.aload_n 0, 1) := by decide +kernel
theorem dWriter_writeCall_47 : decode bWriter_writeCall 47 = .ok (.aload_n 1, 1) := by decide +kernel
theorem dWriter_writeCall_48 : decode bWriter_writeCall 48 = .ok (.iload_n 2, 1) := by decide +kernel
theorem dWriter_writeCall_49 : decode bWriter_writeCall 49 = .ok (.iload_n 3, 1) := by decide +kernel
theorem dWriter_writeCall_50 : decode bWriter_writeCall 50 = .ok (.invokevirtual 46, 3) := by decide +kernel
theorem dWriter_writeCall_53 : decode bWriter_writeCall 53 = .ok (.aload_n 1, 1) := by decide +kernel
theorem dWriter_writeCall_54 : decode bWriter_writeCall 54 = .ok (.iload_n 2, 1) := by decide +kernel
theorem dWriter_writeCall_55 : decode bWriter_writeCall 55 = .ok (.iload_n 3, 1) := by decide +kernel
theorem dWriter_writeCall_56 : decode bWriter_writeCall 56 = .ok (.invokevirtual 50, 3) := by decide +kernel
theorem dWriter_writeCall_59 : decode bWriter_writeCall 59 = .ok (.invokevirtual 53, 3) := by decide +kernel
theorem dWriter_writeCall_62 : decode bWriter_writeCall 62 = .ok (.iinc 3 1, 3) := by decide +kernel
theorem dWriter_writeCall_65 : decode bWriter_writeCall 65 = .ok (.goto (-44), 3) := by decide +kernel
theorem dWriter_writeCall_68 : decode bWriter_writeCall 68 = .ok (.aload_n 0, 1) := by decide +kernel
theorem dWriter_writeCall_69 : decode bWriter_writeCall 69 = .ok (.bipush 41, 2) := by decide +kernel
theorem dWriter_writeCall_71 : decode bWriter_writeCall 71 = .ok (.invokevirtual 42, 3) := by decide +kernel
theorem dWriter_writeCall_74 : decode bWriter_writeCall 74 = .ok (.return_, 1) := by decide +kernel
def wbWriter_writeCall_46 (n : Nat) (ln : Nat → Nat) (o1 : Nat) (post : zM → Prop) (L21 : (Int32 × Int32 × zM) → Prop) (v2 : Int32) (v3 : Int32) (h : zM) : Prop := wpSequence_form o1 v2 v3 h (fun r50 h50 => wpSequence_content o1 v2 v3 h50 (fun r56 h56 => wpWriter_writeArgument n ln r50 r56 h56 (fun h59 => L21 (v2, (v3 + 1), h59))))
def stWriter_writeCall_21 (n : Nat) (ln : Nat → Nat) (o1 : Nat) (post : zM → Prop) (L21 : (Int32 × Int32 × zM) → Prop) : (Int32 × Int32 × zM) → Prop := fun s => match s with
  | (v2, v3, h) => (((2 ≤ v3) → wpWriter_put n ln 41 h (fun h71 => post h71)) ∧ (¬ (2 ≤ v3) → (((v3 ≤ 0) → wbWriter_writeCall_46 n ln o1 post L21 v2 v3 h) ∧ (¬ (v3 ≤ 0) → wpSequence_form o1 v2 v3 h (fun r33 h33 => ((r33 = (-1) → wbWriter_writeCall_46 n ln o1 post L21 v2 v3 h33) ∧ (¬ r33 = (-1) → wpWriter_put n ln 44 h33 (fun h43 => wbWriter_writeCall_46 n ln o1 post L21 v2 v3 h43))))))))
def wpWriter_writeCall (n : Nat) (ln : Nat → Nat) (o1 : Nat) (x2 : Int32) (h : zM) (post : zM → Prop) : Prop := wpSequence_operationOf o1 x2 h (fun r5 h5 => wpWriter_put n ln ((Int32.toUInt32 (97 + r5) % 65536).toInt32) h5 (fun h10 => wpWriter_put n ln 40 h10 (fun h16 => zL (stWriter_writeCall_21 n ln o1 post) (x2, 0, h16))))
abbrev rmWriter_writeCall : Room := { frames := 3, cells := 0, slots := 0, locals := 69 }
set_option maxHeartbeats 4000000 in
set_option maxRecDepth 100000 in
theorem cWriter_writeCall (l : Launch) (D : va_G) (cI cC cE : ClassId) (ad : Nat → Nat) (n : Nat) (ln : Nat → Nat) (A : Nat → Prop) (hJ : zJ A (34 + 4 * n) ad) (o1 : Nat) (hq1 : zSeq (34 + 4 * n) ad (zF ad cI cC cE n ln) cI o1) (x2 : Int32) (h : zM) (post : zM → Prop) (hw : wpWriter_writeCall n ln o1 x2 h post) : Met l yWriter_writeCall (.code yWriter_writeCall bWriter_writeCall 4 none :: zt) rmWriter_writeCall (va_Pc [.ref (ad 28), .ref (ad o1), .int x2] (zPre D (zty cI cC cE) (34 + 4 * n) ad (zF ad cI cC cE n ln) A h)) (va_Qv post (zPst D (zty cI cC cE) (34 + 4 * n) ad (zF ad cI cC cE n ln)) A) 0 0 A := by
  refine Met.ofW (cc := bWriter_writeCall) (maxL := 4) (ret := none) (by decide) rfl ?_
  intro p e s m args below meth c s₁ B hml hv
  obtain ⟨rfl, hP, hK, hT, hN⟩ := hv
  have hr := B.returns
  have hlk := B.notSynchronized
  have S : zS p m c bWriter_writeCall 4 s _ "CallExplorer$Writer" := ⟨B.exec, B.bytes, hml, findClass_of_methodNamed B.named, fun w hw => atoms_spec (ws := .code yWriter_writeCall bWriter_writeCall 4 none :: zt) B.pre w (List.mem_cons_of_mem _ hw)⟩
  have hS : va_S A s.heap s.heap [] := va_S.rf
  have hl := lv_entry ([.ref (ad 28), .ref (ad o1), .int x2]) (n := 4) (Nat.le_of_ble_eq_true rfl)
  rw [lg_entry_eq]
  generalize (lg_sl ([.ref (ad 28), .ref (ad o1), .int x2]) ++ List.replicate (4 - (lg_sl ([.ref (ad 28), .ref (ad o1), .int x2])).length) Slot.unset).toArray = ls at hl ⊢
  have hl : lv_has ls 4 [(0, .ref (ad 28)), (1, .ref (ad o1)), (2, .int x2)] := hl
  show W p l e rmWriter_writeCall s m ([.ref (ad 28), .ref (ad o1), .int x2] : List Value).toArray below meth c s.heap [] 0 0 (zQv post D (zty cI cC cE) (34 + 4 * n) ad (zF ad cI cC cE n ln) A below ([.ref (ad 28), .ref (ad o1), .int x2] : List Value).toArray s) _
  have J21 : ∀ (fu : Nat) (v2 : Int32) (v3 : Int32) (h : zM) (H : Heap) (locs : List Loc) (ls : Array Slot), zl (stWriter_writeCall_21 n ln o1 post) fu (v2, v3, h) → lv_has ls 4 [(0, .ref (ad 28)), (1, .ref (ad o1)), (2, .int v2), (3, .int v3)] → va_P D zcl (zW (34 + 4 * n) ad (zF ad cI cC cE n ln) h) H → va_S A s.heap H locs → W p l e rmWriter_writeCall s m ([.ref (ad 28), .ref (ad o1), .int x2] : List Value).toArray below meth c H locs 0 0 (zQv post D (zty cI cC cE) (34 + 4 * n) ad (zF ad cI cC cE n ln) A below ([.ref (ad 28), .ref (ad o1), .int x2] : List Value).toArray s) (F0 m 21 ls []) := by
    intro fu21
    induction fu21 with
    | zero =>
      intro v2 v3 h H locs ls hw
      exact (zl_0 hw).elim
    | succ fu21 ih21 =>
      intro v2 v3 h H locs ls hw hl hP hS
      have hw := zl_s hw
      generalize zl (stWriter_writeCall_21 n ln o1 post) fu21 = L21 at hw ih21
      have J46 : ∀ (v2 : Int32) (v3 : Int32) (h : zM) (H : Heap) (locs : List Loc) (ls : Array Slot), wbWriter_writeCall_46 n ln o1 post L21 v2 v3 h → lv_has ls 4 [(0, .ref (ad 28)), (1, .ref (ad o1)), (2, .int v2), (3, .int v3)] → va_P D zcl (zW (34 + 4 * n) ad (zF ad cI cC cE n ln) h) H → va_S A s.heap H locs → W p l e rmWriter_writeCall s m ([.ref (ad 28), .ref (ad o1), .int x2] : List Value).toArray below meth c H locs 0 0 (zQv post D (zty cI cC cE) (34 + 4 * n) ad (zF ad cI cC cE n ln) A below ([.ref (ad 28), .ref (ad o1), .int x2] : List Value).toArray s) (F0 m 46 ls []) := by
        intro v2 v3 h H locs ls hw hl hP hS
        unfold wbWriter_writeCall_46 at hw
        refine lv_aload_n S.1 S.2.1 dWriter_writeCall_46 rfl (lv_at hl 0 rfl) ?_
        refine lv_aload_n S.1 S.2.1 dWriter_writeCall_47 rfl (lv_at hl 1 rfl) ?_
        refine lv_iload_n S.1 S.2.1 dWriter_writeCall_48 rfl (lv_at hl 2 rfl) ?_
        refine lv_iload_n S.1 S.2.1 dWriter_writeCall_49 rfl (lv_at hl 3 rfl) ?_
        refine zr_i (zr_V (As := [.int v2, .int v3]) (rest := [.ref (ad 28)]) S hK hT hN hP hS (Nat.lt_of_succ_lt (hq1).1) ((hq1).2.1 _) rfl (cSequence_form l D (zty cI cC cE) (34 + 4 * n) ad (zF ad cI cC cE n ln) A hJ cI rfl o1 hq1 _ _ _ _ hw) caWriter_46 ⟨Nat.le_of_ble_eq_true rfl, Nat.le_of_ble_eq_true rfl⟩ ⟨rfl, rfl⟩ rfl hl.1 rfl (Nat.le_of_ble_eq_true rfl) dWriter_writeCall_50) hS (fun r50 h50 H locs hw hP hS => ?_)
        refine lv_aload_n S.1 S.2.1 dWriter_writeCall_53 rfl (lv_at hl 1 rfl) ?_
        refine lv_iload_n S.1 S.2.1 dWriter_writeCall_54 rfl (lv_at hl 2 rfl) ?_
        refine lv_iload_n S.1 S.2.1 dWriter_writeCall_55 rfl (lv_at hl 3 rfl) ?_
        refine zr_i (zr_V (As := [.int v2, .int v3]) (rest := [.int r50, .ref (ad 28)]) S hK hT hN hP hS (Nat.lt_of_succ_lt (hq1).1) ((hq1).2.1 _) rfl (cSequence_content l D (zty cI cC cE) (34 + 4 * n) ad (zF ad cI cC cE n ln) A hJ cI rfl o1 hq1 _ _ _ _ hw) caWriter_50 ⟨Nat.le_of_ble_eq_true rfl, Nat.le_of_ble_eq_true rfl⟩ ⟨rfl, rfl⟩ rfl hl.1 rfl (Nat.le_of_ble_eq_true rfl) dWriter_writeCall_56) hS (fun r56 h56 H locs hw hP hS => ?_)
        refine zr_v (zr_V (As := [.int r50, .int r56]) (rest := []) S hK hT hN hP hS (zk (by decide)) (zF_28 _) rfl (cWriter_writeArgument l D cI cC cE ad n ln A hJ _ _ _ _ hw) caWriter_53 ⟨Nat.le_of_ble_eq_true rfl, Nat.le_of_ble_eq_true rfl⟩ ⟨rfl, rfl⟩ rfl hl.1 rfl (Nat.le_of_ble_eq_true rfl) dWriter_writeCall_59) hS (fun h59 H locs hw hP hS => ?_)
        refine lv_iinc (v := (v3 + 1)) (lv' := [(3, .int (v3 + 1)), (0, .ref (ad 28)), (1, .ref (ad o1)), (2, .int v2)]) (k := 3) S.1 S.2.1 dWriter_writeCall_62 hl rfl rfl (by decide) rfl (fun ls hl => ?_)
        refine lv_goto S.1 S.2.1 dWriter_writeCall_65 rfl ?_
        exact ih21 _ _ _ _ _ _ hw (lv_sub hl [1, 2, 3, 0] rfl) hP hS
      unfold stWriter_writeCall_21 at hw
      dsimp only at hw
      refine lv_iload_n S.1 S.2.1 dWriter_writeCall_21 rfl (lv_at hl 3 rfl) ?_
      refine lv_iconst (v := 2) S.1 S.2.1 dWriter_writeCall_22 (by decide) ?_
      refine lv_icmp_ge S.1 S.2.1 dWriter_writeCall_23 rfl (fun hc => ?_) (fun hc => ?_)
      · have hw := hw.1 hc
        refine lv_aload_n S.1 S.2.1 dWriter_writeCall_68 rfl (lv_at hl 0 rfl) ?_
        refine lv_bipush (v := 41) S.1 S.2.1 dWriter_writeCall_69 (by decide) ?_
        refine zr_v (zr_V (As := [.int 41]) (rest := []) S hK hT hN hP hS (zk (by decide)) (zF_28 _) rfl (cWriter_put l D cI cC cE ad n ln A hJ _ _ _ hw) caWriter_42 ⟨Nat.le_of_ble_eq_true rfl, Nat.le_of_ble_eq_true rfl⟩ ⟨rfl, rfl⟩ rfl hl.1 rfl (Nat.le_of_ble_eq_true rfl) dWriter_writeCall_71) hS (fun h71 H locs hw hP hS => ?_)
        exact zr_vret S hr hlk hK hP hS hw dWriter_writeCall_74
      · have hw := hw.2 hc
        refine lv_iload_n S.1 S.2.1 dWriter_writeCall_26 rfl (lv_at hl 3 rfl) ?_
        refine lv_if_le S.1 S.2.1 dWriter_writeCall_27 rfl (fun hc => ?_) (fun hc => ?_)
        · have hw := hw.1 hc
          exact J46 _ _ _ _ _ _ hw (lv_sub hl [0, 1, 2, 3] rfl) hP hS
        · have hw := hw.2 hc
          refine lv_aload_n S.1 S.2.1 dWriter_writeCall_30 rfl (lv_at hl 1 rfl) ?_
          refine lv_iload_n S.1 S.2.1 dWriter_writeCall_31 rfl (lv_at hl 2 rfl) ?_
          refine lv_iload_n S.1 S.2.1 dWriter_writeCall_32 rfl (lv_at hl 3 rfl) ?_
          refine zr_i (zr_V (As := [.int v2, .int v3]) (rest := []) S hK hT hN hP hS (Nat.lt_of_succ_lt (hq1).1) ((hq1).2.1 _) rfl (cSequence_form l D (zty cI cC cE) (34 + 4 * n) ad (zF ad cI cC cE n ln) A hJ cI rfl o1 hq1 _ _ _ _ hw) caWriter_46 ⟨Nat.le_of_ble_eq_true rfl, Nat.le_of_ble_eq_true rfl⟩ ⟨rfl, rfl⟩ rfl hl.1 rfl (Nat.le_of_ble_eq_true rfl) dWriter_writeCall_33) hS (fun r33 h33 H locs hw hP hS => ?_)
          refine lv_iconst (v := (-1)) S.1 S.2.1 dWriter_writeCall_36 (by decide) ?_
          refine lv_icmp_eq S.1 S.2.1 dWriter_writeCall_37 rfl (fun hc => ?_) (fun hc => ?_)
          · have hw := hw.1 hc
            exact J46 _ _ _ _ _ _ hw (lv_sub hl [0, 1, 2, 3] rfl) hP hS
          · have hw := hw.2 hc
            refine lv_aload_n S.1 S.2.1 dWriter_writeCall_40 rfl (lv_at hl 0 rfl) ?_
            refine lv_bipush (v := 44) S.1 S.2.1 dWriter_writeCall_41 (by decide) ?_
            refine zr_v (zr_V (As := [.int 44]) (rest := []) S hK hT hN hP hS (zk (by decide)) (zF_28 _) rfl (cWriter_put l D cI cC cE ad n ln A hJ _ _ _ hw) caWriter_42 ⟨Nat.le_of_ble_eq_true rfl, Nat.le_of_ble_eq_true rfl⟩ ⟨rfl, rfl⟩ rfl hl.1 rfl (Nat.le_of_ble_eq_true rfl) dWriter_writeCall_43) hS (fun h43 H locs hw hP hS => ?_)
            exact J46 _ _ _ _ _ _ hw (lv_sub hl [0, 1, 2, 3] rfl) hP hS
  unfold wpWriter_writeCall at hw
  refine lv_aload_n S.1 S.2.1 dWriter_writeCall_0 rfl (lv_at hl 0 rfl) ?_
  refine lv_bipush (v := 97) S.1 S.2.1 dWriter_writeCall_1 (by decide) ?_
  refine lv_aload_n S.1 S.2.1 dWriter_writeCall_3 rfl (lv_at hl 1 rfl) ?_
  refine lv_iload_n S.1 S.2.1 dWriter_writeCall_4 rfl (lv_at hl 2 rfl) ?_
  refine zr_i (zr_V (As := [.int x2]) (rest := [.int 97, .ref (ad 28)]) S hK hT hN hP hS (Nat.lt_of_succ_lt (hq1).1) ((hq1).2.1 _) rfl (cSequence_operationOf l D (zty cI cC cE) (34 + 4 * n) ad (zF ad cI cC cE n ln) A hJ cI rfl o1 hq1 _ _ _ hw) caWriter_38 ⟨Nat.le_of_ble_eq_true rfl, Nat.le_of_ble_eq_true rfl⟩ ⟨rfl, rfl⟩ rfl hl.1 rfl (Nat.le_of_ble_eq_true rfl) dWriter_writeCall_5) hS (fun r5 h5 H locs hw hP hS => ?_)
  refine lv_iadd S.1 S.2.1 dWriter_writeCall_8 ?_
  refine lv_i2c S.1 S.2.1 dWriter_writeCall_9 rfl ?_
  refine zr_v (zr_V (As := [.int ((Int32.toUInt32 (97 + r5) % 65536).toInt32)]) (rest := []) S hK hT hN hP hS (zk (by decide)) (zF_28 _) rfl (cWriter_put l D cI cC cE ad n ln A hJ _ _ _ hw) caWriter_42 ⟨Nat.le_of_ble_eq_true rfl, Nat.le_of_ble_eq_true rfl⟩ ⟨rfl, rfl⟩ rfl hl.1 rfl (Nat.le_of_ble_eq_true rfl) dWriter_writeCall_10) hS (fun h10 H locs hw hP hS => ?_)
  refine lv_aload_n S.1 S.2.1 dWriter_writeCall_13 rfl (lv_at hl 0 rfl) ?_
  refine lv_bipush (v := 40) S.1 S.2.1 dWriter_writeCall_14 (by decide) ?_
  refine zr_v (zr_V (As := [.int 40]) (rest := []) S hK hT hN hP hS (zk (by decide)) (zF_28 _) rfl (cWriter_put l D cI cC cE ad n ln A hJ _ _ _ hw) caWriter_42 ⟨Nat.le_of_ble_eq_true rfl, Nat.le_of_ble_eq_true rfl⟩ ⟨rfl, rfl⟩ rfl hl.1 rfl (Nat.le_of_ble_eq_true rfl) dWriter_writeCall_16) hS (fun h16 H locs hw hP hS => ?_)
  refine lv_iconst (v := 0) S.1 S.2.1 dWriter_writeCall_19 (by decide) ?_
  refine lv_istore_n (lv' := [(3, .int 0), (0, .ref (ad 28)), (1, .ref (ad o1)), (2, .int x2)]) S.1 S.2.1 dWriter_writeCall_20 rfl hl (by decide) rfl (fun ls hl => ?_)
  obtain ⟨fu, hw⟩ := hw
  exact J21 fu _ _ _ _ _ _ hw (lv_sub hl [1, 2, 3, 0] rfl) hP hS
/-! Writer.writeResult -/
theorem dWriter_writeResult_0 : decode bWriter_writeResult 0 = .ok (.aload_n 1, 1) := by decide +kernel
theorem dWriter_writeResult_1 : decode bWriter_writeResult 1 = .ok (.getfield 70, 3) := by decide +kernel
theorem dWriter_writeResult_4 : decode bWriter_writeResult 4 = .ok (.iconst 1, 1) := by decide +kernel
theorem dWriter_writeResult_5 : decode bWriter_writeResult 5 = .ok (.if_icmp .ne 14, 3) := by decide +kernel
theorem dWriter_writeResult_8 : decode bWriter_writeResult 8 = .ok (.aload_n 0, 1) := by decide +kernel
theorem dWriter_writeResult_9 : decode bWriter_writeResult 9 = .ok (.aload_n 1, 1) := by decide +kernel
theorem dWriter_writeResult_10 : decode bWriter_writeResult 10 = .ok (.getfield 73, 3) := by decide +kernel
theorem dWriter_writeResult_13 : decode bWriter_writeResult 13 = .ok (.invokevirtual 57, 3) := by decide +kernel
theorem dWriter_writeResult_16 : decode bWriter_writeResult 16 = .ok (.goto 22, 3) := by decide +kernel
theorem dWriter_writeResult_19 : decode bWriter_writeResult 19 = .ok (.aload_n 0, 1) := by decide +kernel
theorem dWriter_writeResult_20 : decode bWriter_writeResult 20 = .ok (.aload_n 1, 1) := by decide +kernel
theorem dWriter_writeResult_21 : decode bWriter_writeResult 21 = .ok (.getfield 70, 3) := by decide +kernel
theorem dWriter_writeResult_24 : decode bWriter_writeResult 24 = .ok (.iconst 2, 1) := by decide +kernel
theorem dWriter_writeResult_25 : decode bWriter_writeResult 25 = .ok (.if_icmp .ne 8, 3) := by decide +kernel
theorem dWriter_writeResult_28 : decode bWriter_writeResult 28 = .ok (.bipush 110, 2) := by decide +kernel
theorem dWriter_writeResult_30 : decode bWriter_writeResult 30 = .ok (.goto 5, 3) := by decide +kernel
theorem dWriter_writeResult_33 : decode bWriter_writeResult 33 = .ok (.bipush 111, 2) := by decide +kernel
theorem dWriter_writeResult_35 : decode bWriter_writeResult 35 = .ok (.invokevirtual 42, 3) := by decide +kernel
theorem dWriter_writeResult_38 : decode bWriter_writeResult 38 = .ok (.return_, 1) := by decide +kernel
def wbWriter_writeResult_35 (n : Nat) (ln : Nat → Nat) (j1 : Nat) (post : zM → Prop) (k1 : Int32) (h : zM) : Prop := wpWriter_put n ln k1 h (fun h35 => post h35)
def wpWriter_writeResult (n : Nat) (ln : Nat → Nat) (j1 : Nat) (h : zM) (post : zM → Prop) : Prop := ((¬ (h (34 + 4 * j1) 4) = 1 → ((¬ (h (34 + 4 * j1) 4) = 2 → wbWriter_writeResult_35 n ln j1 post 111 h) ∧ ((h (34 + 4 * j1) 4) = 2 → wbWriter_writeResult_35 n ln j1 post 110 h))) ∧ ((h (34 + 4 * j1) 4) = 1 → wpWriter_writeNumber n ln (h (34 + 4 * j1) 5) h (fun h13 => post h13)))
abbrev rmWriter_writeResult : Room := { frames := 2, cells := 0, slots := 0, locals := 47 }
set_option maxHeartbeats 4000000 in
set_option maxRecDepth 100000 in
theorem cWriter_writeResult (l : Launch) (D : va_G) (cI cC cE : ClassId) (ad : Nat → Nat) (n : Nat) (ln : Nat → Nat) (A : Nat → Prop) (hJ : zJ A (34 + 4 * n) ad) (j1 : Nat) (hj1 : j1 < n) (h : zM) (post : zM → Prop) (hw : wpWriter_writeResult n ln j1 h post) : Met l yWriter_writeResult (.code yWriter_writeResult bWriter_writeResult 2 none :: zt) rmWriter_writeResult (va_Pc [.ref (ad 28), .ref (ad (34 + 4 * j1))] (zPre D (zty cI cC cE) (34 + 4 * n) ad (zF ad cI cC cE n ln) A h)) (va_Qv post (zPst D (zty cI cC cE) (34 + 4 * n) ad (zF ad cI cC cE n ln)) A) 0 0 A := by
  refine Met.ofW (cc := bWriter_writeResult) (maxL := 2) (ret := none) (by decide) rfl ?_
  intro p e s m args below meth c s₁ B hml hv
  obtain ⟨rfl, hP, hK, hT, hN⟩ := hv
  have hr := B.returns
  have hlk := B.notSynchronized
  have S : zS p m c bWriter_writeResult 2 s _ "CallExplorer$Writer" := ⟨B.exec, B.bytes, hml, findClass_of_methodNamed B.named, fun w hw => atoms_spec (ws := .code yWriter_writeResult bWriter_writeResult 2 none :: zt) B.pre w (List.mem_cons_of_mem _ hw)⟩
  have hS : va_S A s.heap s.heap [] := va_S.rf
  have hl := lv_entry ([.ref (ad 28), .ref (ad (34 + 4 * j1))]) (n := 2) (Nat.le_of_ble_eq_true rfl)
  rw [lg_entry_eq]
  generalize (lg_sl ([.ref (ad 28), .ref (ad (34 + 4 * j1))]) ++ List.replicate (2 - (lg_sl ([.ref (ad 28), .ref (ad (34 + 4 * j1))])).length) Slot.unset).toArray = ls at hl ⊢
  have hl : lv_has ls 2 [(0, .ref (ad 28)), (1, .ref (ad (34 + 4 * j1)))] := hl
  show W p l e rmWriter_writeResult s m ([.ref (ad 28), .ref (ad (34 + 4 * j1))] : List Value).toArray below meth c s.heap [] 0 0 (zQv post D (zty cI cC cE) (34 + 4 * n) ad (zF ad cI cC cE n ln) A below ([.ref (ad 28), .ref (ad (34 + 4 * j1))] : List Value).toArray s) _
  have J35 : ∀ (k1 : Int32) (h : zM) (H : Heap) (locs : List Loc) (ls : Array Slot), wbWriter_writeResult_35 n ln j1 post k1 h → lv_has ls 2 [] → va_P D zcl (zW (34 + 4 * n) ad (zF ad cI cC cE n ln) h) H → va_S A s.heap H locs → W p l e rmWriter_writeResult s m ([.ref (ad 28), .ref (ad (34 + 4 * j1))] : List Value).toArray below meth c H locs 0 0 (zQv post D (zty cI cC cE) (34 + 4 * n) ad (zF ad cI cC cE n ln) A below ([.ref (ad 28), .ref (ad (34 + 4 * j1))] : List Value).toArray s) (F0 m 35 ls [.int k1, .ref (ad 28)]) := by
    intro k1 h H locs ls hw hl hP hS
    unfold wbWriter_writeResult_35 at hw
    refine zr_v (zr_V (As := [.int k1]) (rest := []) S hK hT hN hP hS (zk (by decide)) (zF_28 _) rfl (cWriter_put l D cI cC cE ad n ln A hJ _ _ _ hw) caWriter_42 ⟨Nat.le_of_ble_eq_true rfl, Nat.le_of_ble_eq_true rfl⟩ ⟨rfl, rfl⟩ rfl hl.1 rfl (Nat.le_of_ble_eq_true rfl) dWriter_writeResult_35) hS (fun h35 H locs hw hP hS => ?_)
    exact zr_vret S hr hlk hK hP hS hw dWriter_writeResult_38
  unfold wpWriter_writeResult at hw
  refine lv_aload_n S.1 S.2.1 dWriter_writeResult_0 rfl (lv_at hl 1 rfl) ?_
  refine zr_get S hK hP (zke0 hj1) ((zFe_0 j1) _) fEntry_gave q618 rfl dWriter_writeResult_1 ?_
  refine lv_iconst (v := 1) S.1 S.2.1 dWriter_writeResult_4 (by decide) ?_
  refine lv_icmp_ne S.1 S.2.1 dWriter_writeResult_5 rfl (fun hc => ?_) (fun hc => ?_)
  · have hw := hw.1 hc
    refine lv_aload_n S.1 S.2.1 dWriter_writeResult_19 rfl (lv_at hl 0 rfl) ?_
    refine lv_aload_n S.1 S.2.1 dWriter_writeResult_20 rfl (lv_at hl 1 rfl) ?_
    refine zr_get S hK hP (zke0 hj1) ((zFe_0 j1) _) fEntry_gave q618 rfl dWriter_writeResult_21 ?_
    refine lv_iconst (v := 2) S.1 S.2.1 dWriter_writeResult_24 (by decide) ?_
    refine lv_icmp_ne S.1 S.2.1 dWriter_writeResult_25 rfl (fun hc => ?_) (fun hc => ?_)
    · have hw := hw.1 hc
      refine lv_bipush (v := 111) S.1 S.2.1 dWriter_writeResult_33 (by decide) ?_
      exact J35 _ _ _ _ _ hw (lv_sub hl [] rfl) hP hS
    · have hw := hw.2 hc
      refine lv_bipush (v := 110) S.1 S.2.1 dWriter_writeResult_28 (by decide) ?_
      refine lv_goto S.1 S.2.1 dWriter_writeResult_30 rfl ?_
      exact J35 _ _ _ _ _ hw (lv_sub hl [] rfl) hP hS
  · have hw := hw.2 hc
    refine lv_aload_n S.1 S.2.1 dWriter_writeResult_8 rfl (lv_at hl 0 rfl) ?_
    refine lv_aload_n S.1 S.2.1 dWriter_writeResult_9 rfl (lv_at hl 1 rfl) ?_
    refine zr_get S hK hP (zke0 hj1) ((zFe_0 j1) _) fEntry_number q620 rfl dWriter_writeResult_10 ?_
    refine zr_v (zr_V (As := [.int (h (34 + 4 * j1) 5)]) (rest := []) S hK hT hN hP hS (zk (by decide)) (zF_28 _) rfl (cWriter_writeNumber l D cI cC cE ad n ln A hJ _ _ _ hw) caWriter_57 ⟨Nat.le_of_ble_eq_true rfl, Nat.le_of_ble_eq_true rfl⟩ ⟨rfl, rfl⟩ rfl hl.1 rfl (Nat.le_of_ble_eq_true rfl) dWriter_writeResult_13) hS (fun h13 H locs hw hP hS => ?_)
    refine lv_goto S.1 S.2.1 dWriter_writeResult_16 rfl ?_
    exact zr_vret S hr hlk hK hP hS hw dWriter_writeResult_38
/-! Writer.writeEnd -/
theorem dWriter_writeEnd_0 : decode bWriter_writeEnd 0 = .ok (.aload_n 1, 1) := by decide +kernel
theorem dWriter_writeEnd_1 : decode bWriter_writeEnd 1 = .ok (.getfield 61, 3) := by decide +kernel
theorem dWriter_writeEnd_4 : decode bWriter_writeEnd 4 = .ok (.lookupswitch 62 #[(2, 28), (3, 45)], 28) := by decide +kernel
theorem dWriter_writeEnd_32 : decode bWriter_writeEnd 32 = .ok (.aload_n 0, 1) := by decide +kernel
theorem dWriter_writeEnd_33 : decode bWriter_writeEnd 33 = .ok (.bipush 33, 2) := by decide +kernel
theorem dWriter_writeEnd_35 : decode bWriter_writeEnd 35 = .ok (.invokevirtual 42, 3) := by decide +kernel
theorem dWriter_writeEnd_38 : decode bWriter_writeEnd 38 = .ok (.aload_n 0, 1) := by decide +kernel
theorem dWriter_writeEnd_39 : decode bWriter_writeEnd 39 = .ok (.aload_n 1, 1) := by decide +kernel
theorem dWriter_writeEnd_40 : decode bWriter_writeEnd 40 = .ok (.getfield 64, 3) := by decide +kernel
theorem dWriter_writeEnd_43 : decode bWriter_writeEnd 43 = .ok (.invokevirtual 57, 3) := by decide +kernel
theorem dWriter_writeEnd_46 : decode bWriter_writeEnd 46 = .ok (.goto 31, 3) := by decide +kernel
theorem dWriter_writeEnd_49 : decode bWriter_writeEnd 49 = .ok (.aload_n 0, 1) := by decide +kernel
theorem dWriter_writeEnd_50 : decode bWriter_writeEnd 50 = .ok (.bipush 63, 2) := by decide +kernel
theorem dWriter_writeEnd_52 : decode bWriter_writeEnd 52 = .ok (.invokevirtual 42, 3) := by decide +kernel
theorem dWriter_writeEnd_55 : decode bWriter_writeEnd 55 = .ok (.aload_n 0, 1) := by decide +kernel
theorem dWriter_writeEnd_56 : decode bWriter_writeEnd 56 = .ok (.aload_n 1, 1) := by decide +kernel
theorem dWriter_writeEnd_57 : decode bWriter_writeEnd 57 = .ok (.getfield 64, 3) := by decide +kernel
theorem dWriter_writeEnd_60 : decode bWriter_writeEnd 60 = .ok (.invokevirtual 57, 3) := by decide +kernel
theorem dWriter_writeEnd_63 : decode bWriter_writeEnd 63 = .ok (.goto 14, 3) := by decide +kernel
theorem dWriter_writeEnd_66 : decode bWriter_writeEnd 66 = .ok (.aload_n 0, 1) := by decide +kernel
theorem dWriter_writeEnd_67 : decode bWriter_writeEnd 67 = .ok (.bipush 61, 2) := by decide +kernel
theorem dWriter_writeEnd_69 : decode bWriter_writeEnd 69 = .ok (.invokevirtual 42, 3) := by decide +kernel
theorem dWriter_writeEnd_72 : decode bWriter_writeEnd 72 = .ok (.aload_n 0, 1) := by decide +kernel
theorem dWriter_writeEnd_73 : decode bWriter_writeEnd 73 = .ok (.aload_n 1, 1) := by decide +kernel
theorem dWriter_writeEnd_74 : decode bWriter_writeEnd 74 = .ok (.invokevirtual 67, 3) := by decide +kernel
theorem dWriter_writeEnd_77 : decode bWriter_writeEnd 77 = .ok (.return_, 1) := by decide +kernel
def wpWriter_writeEnd (n : Nat) (ln : Nat → Nat) (j1 : Nat) (h : zM) (post : zM → Prop) : Prop := (((h (34 + 4 * j1) 1) = 2 → wpWriter_put n ln 33 h (fun h35 => wpWriter_writeNumber n ln (h35 (34 + 4 * j1) 2) h35 (fun h43 => post h43))) ∧ (¬ (h (34 + 4 * j1) 1) = 2 → (((h (34 + 4 * j1) 1) = 3 → wpWriter_put n ln 63 h (fun h52 => wpWriter_writeNumber n ln (h52 (34 + 4 * j1) 2) h52 (fun h60 => post h60))) ∧ (¬ (h (34 + 4 * j1) 1) = 3 → wpWriter_put n ln 61 h (fun h69 => wpWriter_writeResult n ln j1 h69 (fun h74 => post h74))))))
abbrev rmWriter_writeEnd : Room := { frames := 3, cells := 0, slots := 0, locals := 68 }
set_option maxHeartbeats 4000000 in
set_option maxRecDepth 100000 in
theorem cWriter_writeEnd (l : Launch) (D : va_G) (cI cC cE : ClassId) (ad : Nat → Nat) (n : Nat) (ln : Nat → Nat) (A : Nat → Prop) (hJ : zJ A (34 + 4 * n) ad) (j1 : Nat) (hj1 : j1 < n) (h : zM) (post : zM → Prop) (hw : wpWriter_writeEnd n ln j1 h post) : Met l yWriter_writeEnd (.code yWriter_writeEnd bWriter_writeEnd 2 none :: zt) rmWriter_writeEnd (va_Pc [.ref (ad 28), .ref (ad (34 + 4 * j1))] (zPre D (zty cI cC cE) (34 + 4 * n) ad (zF ad cI cC cE n ln) A h)) (va_Qv post (zPst D (zty cI cC cE) (34 + 4 * n) ad (zF ad cI cC cE n ln)) A) 0 0 A := by
  refine Met.ofW (cc := bWriter_writeEnd) (maxL := 2) (ret := none) (by decide) rfl ?_
  intro p e s m args below meth c s₁ B hml hv
  obtain ⟨rfl, hP, hK, hT, hN⟩ := hv
  have hr := B.returns
  have hlk := B.notSynchronized
  have S : zS p m c bWriter_writeEnd 2 s _ "CallExplorer$Writer" := ⟨B.exec, B.bytes, hml, findClass_of_methodNamed B.named, fun w hw => atoms_spec (ws := .code yWriter_writeEnd bWriter_writeEnd 2 none :: zt) B.pre w (List.mem_cons_of_mem _ hw)⟩
  have hS : va_S A s.heap s.heap [] := va_S.rf
  have hl := lv_entry ([.ref (ad 28), .ref (ad (34 + 4 * j1))]) (n := 2) (Nat.le_of_ble_eq_true rfl)
  rw [lg_entry_eq]
  generalize (lg_sl ([.ref (ad 28), .ref (ad (34 + 4 * j1))]) ++ List.replicate (2 - (lg_sl ([.ref (ad 28), .ref (ad (34 + 4 * j1))])).length) Slot.unset).toArray = ls at hl ⊢
  have hl : lv_has ls 2 [(0, .ref (ad 28)), (1, .ref (ad (34 + 4 * j1)))] := hl
  show W p l e rmWriter_writeEnd s m ([.ref (ad 28), .ref (ad (34 + 4 * j1))] : List Value).toArray below meth c s.heap [] 0 0 (zQv post D (zty cI cC cE) (34 + 4 * n) ad (zF ad cI cC cE n ln) A below ([.ref (ad 28), .ref (ad (34 + 4 * j1))] : List Value).toArray s) _
  unfold wpWriter_writeEnd at hw
  refine lv_aload_n S.1 S.2.1 dWriter_writeEnd_0 rfl (lv_at hl 1 rfl) ?_
  refine zr_get S hK hP (zke0 hj1) ((zFe_0 j1) _) fEntry_outcome q607 rfl dWriter_writeEnd_1 ?_
  by_cases c0 : (h (34 + 4 * j1) 1) = 2
  · have hw := hw.1 c0
    refine lv_lookup (off := 28) S.1 S.2.1 dWriter_writeEnd_4 (by decide) (by rw [c0]; decide) rfl ?_
    refine lv_aload_n S.1 S.2.1 dWriter_writeEnd_32 rfl (lv_at hl 0 rfl) ?_
    refine lv_bipush (v := 33) S.1 S.2.1 dWriter_writeEnd_33 (by decide) ?_
    refine zr_v (zr_V (As := [.int 33]) (rest := []) S hK hT hN hP hS (zk (by decide)) (zF_28 _) rfl (cWriter_put l D cI cC cE ad n ln A hJ _ _ _ hw) caWriter_42 ⟨Nat.le_of_ble_eq_true rfl, Nat.le_of_ble_eq_true rfl⟩ ⟨rfl, rfl⟩ rfl hl.1 rfl (Nat.le_of_ble_eq_true rfl) dWriter_writeEnd_35) hS (fun h35 H locs hw hP hS => ?_)
    refine lv_aload_n S.1 S.2.1 dWriter_writeEnd_38 rfl (lv_at hl 0 rfl) ?_
    refine lv_aload_n S.1 S.2.1 dWriter_writeEnd_39 rfl (lv_at hl 1 rfl) ?_
    refine zr_get S hK hP (zke0 hj1) ((zFe_0 j1) _) fEntry_detail q612 rfl dWriter_writeEnd_40 ?_
    refine zr_v (zr_V (As := [.int (h35 (34 + 4 * j1) 2)]) (rest := []) S hK hT hN hP hS (zk (by decide)) (zF_28 _) rfl (cWriter_writeNumber l D cI cC cE ad n ln A hJ _ _ _ hw) caWriter_57 ⟨Nat.le_of_ble_eq_true rfl, Nat.le_of_ble_eq_true rfl⟩ ⟨rfl, rfl⟩ rfl hl.1 rfl (Nat.le_of_ble_eq_true rfl) dWriter_writeEnd_43) hS (fun h43 H locs hw hP hS => ?_)
    refine lv_goto S.1 S.2.1 dWriter_writeEnd_46 rfl ?_
    exact zr_vret S hr hlk hK hP hS hw dWriter_writeEnd_77
  · have hw := hw.2 c0
    by_cases c1 : (h (34 + 4 * j1) 1) = 3
    · have hw := hw.1 c1
      refine lv_lookup (off := 45) S.1 S.2.1 dWriter_writeEnd_4 (by decide) (by rw [c1]; decide) rfl ?_
      refine lv_aload_n S.1 S.2.1 dWriter_writeEnd_49 rfl (lv_at hl 0 rfl) ?_
      refine lv_bipush (v := 63) S.1 S.2.1 dWriter_writeEnd_50 (by decide) ?_
      refine zr_v (zr_V (As := [.int 63]) (rest := []) S hK hT hN hP hS (zk (by decide)) (zF_28 _) rfl (cWriter_put l D cI cC cE ad n ln A hJ _ _ _ hw) caWriter_42 ⟨Nat.le_of_ble_eq_true rfl, Nat.le_of_ble_eq_true rfl⟩ ⟨rfl, rfl⟩ rfl hl.1 rfl (Nat.le_of_ble_eq_true rfl) dWriter_writeEnd_52) hS (fun h52 H locs hw hP hS => ?_)
      refine lv_aload_n S.1 S.2.1 dWriter_writeEnd_55 rfl (lv_at hl 0 rfl) ?_
      refine lv_aload_n S.1 S.2.1 dWriter_writeEnd_56 rfl (lv_at hl 1 rfl) ?_
      refine zr_get S hK hP (zke0 hj1) ((zFe_0 j1) _) fEntry_detail q612 rfl dWriter_writeEnd_57 ?_
      refine zr_v (zr_V (As := [.int (h52 (34 + 4 * j1) 2)]) (rest := []) S hK hT hN hP hS (zk (by decide)) (zF_28 _) rfl (cWriter_writeNumber l D cI cC cE ad n ln A hJ _ _ _ hw) caWriter_57 ⟨Nat.le_of_ble_eq_true rfl, Nat.le_of_ble_eq_true rfl⟩ ⟨rfl, rfl⟩ rfl hl.1 rfl (Nat.le_of_ble_eq_true rfl) dWriter_writeEnd_60) hS (fun h60 H locs hw hP hS => ?_)
      refine lv_goto S.1 S.2.1 dWriter_writeEnd_63 rfl ?_
      exact zr_vret S hr hlk hK hP hS hw dWriter_writeEnd_77
    · have hw := hw.2 c1
      refine lv_lookup S.1 S.2.1 dWriter_writeEnd_4 (by decide) (by show Op.lookupswitch.offset [(2, 28), (3, 45)] _ _ = _; rw [lv_osw c0 (by decide), lv_osw c1 (by decide)] <;> rfl) rfl ?_
      refine lv_aload_n S.1 S.2.1 dWriter_writeEnd_66 rfl (lv_at hl 0 rfl) ?_
      refine lv_bipush (v := 61) S.1 S.2.1 dWriter_writeEnd_67 (by decide) ?_
      refine zr_v (zr_V (As := [.int 61]) (rest := []) S hK hT hN hP hS (zk (by decide)) (zF_28 _) rfl (cWriter_put l D cI cC cE ad n ln A hJ _ _ _ hw) caWriter_42 ⟨Nat.le_of_ble_eq_true rfl, Nat.le_of_ble_eq_true rfl⟩ ⟨rfl, rfl⟩ rfl hl.1 rfl (Nat.le_of_ble_eq_true rfl) dWriter_writeEnd_69) hS (fun h69 H locs hw hP hS => ?_)
      refine lv_aload_n S.1 S.2.1 dWriter_writeEnd_72 rfl (lv_at hl 0 rfl) ?_
      refine lv_aload_n S.1 S.2.1 dWriter_writeEnd_73 rfl (lv_at hl 1 rfl) ?_
      refine zr_v (zr_V (As := [.ref (ad (34 + 4 * j1))]) (rest := []) S hK hT hN hP hS (zk (by decide)) (zF_28 _) rfl (cWriter_writeResult l D cI cC cE ad n ln A hJ j1 hj1 _ _ hw) caWriter_67 ⟨Nat.le_of_ble_eq_true rfl, Nat.le_of_ble_eq_true rfl⟩ ⟨rfl, rfl⟩ rfl hl.1 rfl (Nat.le_of_ble_eq_true rfl) dWriter_writeEnd_74) hS (fun h74 H locs hw hP hS => ?_)
      exact zr_vret S hr hlk hK hP hS hw dWriter_writeEnd_77
/-! Writer.write -/
theorem dWriter_write_0 : decode bWriter_write 0 = .ok (.aload_n 0, 1) := by decide +kernel
theorem dWriter_write_1 : decode bWriter_write 1 = .ok (.iconst 0, 1) := by decide +kernel
theorem dWriter_write_2 : decode bWriter_write 2 = .ok (.putfield 15, 3) := by decide +kernel
theorem dWriter_write_5 : decode bWriter_write 5 = .ok (.iconst 0, 1) := by decide +kernel
theorem dWriter_write_6 : decode bWriter_write 6 = .ok (.istore_n 2, 1) := by decide +kernel
theorem dWriter_write_7 : decode bWriter_write 7 = .ok (.iload_n 2, 1) := by decide +kernel
theorem dWriter_write_8 : decode bWriter_write 8 = .ok (.aload_n 1, 1) := by decide +kernel
theorem dWriter_write_9 : decode bWriter_write 9 = .ok (.getfield 19, 3) := by decide +kernel
theorem dWriter_write_12 : decode bWriter_write 12 = .ok (.getfield 25, 3) := by decide +kernel
theorem dWriter_write_15 : decode bWriter_write 15 = .ok (.if_icmp .ge 18, 3) := by decide +kernel
theorem dWriter_write_18 : decode bWriter_write 18 = .ok (.aload_n 0, 1) := by decide +kernel
theorem dWriter_write_19 : decode bWriter_write 19 = .ok (.aload_n 1, 1) := by decide +kernel
theorem dWriter_write_20 : decode bWriter_write 20 = .ok (.getfield 19, 3) := by decide +kernel
theorem dWriter_write_23 : decode bWriter_write 23 = .ok (.iload_n 2, 1) := by decide +kernel
theorem dWriter_write_24 : decode bWriter_write 24 = .ok (.invokevirtual 30, 3) := by decide +kernel
theorem dWriter_write_27 : decode bWriter_write 27 = .ok (.iinc 2 1, 3) := by decide +kernel
theorem dWriter_write_30 : decode bWriter_write 30 = .ok (.goto (-23), 3) := by decide +kernel
theorem dWriter_write_33 : decode bWriter_write 33 = .ok (.aload_n 0, 1) := by decide +kernel
theorem dWriter_write_34 : decode bWriter_write 34 = .ok (.aload_n 1, 1) := by decide +kernel
theorem dWriter_write_35 : decode bWriter_write 35 = .ok (.invokevirtual 34, 3) := by decide +kernel
theorem dWriter_write_38 : decode bWriter_write 38 = .ok (.return_, 1) := by decide +kernel
def stWriter_write_7 (n : Nat) (ln : Nat → Nat) (j1 : Nat) (post : zM → Prop) (L7 : (Int32 × zM) → Prop) : (Int32 × zM) → Prop := fun s => match s with
  | (v2, h) => ((((h (34 + 4 * j1 + 1) 0) ≤ v2) → wpWriter_writeEnd n ln j1 h (fun h35 => post h35)) ∧ (¬ ((h (34 + 4 * j1 + 1) 0) ≤ v2) → wpWriter_writeCall n ln (34 + 4 * j1 + 1) v2 h (fun h24 => L7 ((v2 + 1), h24))))
def wpWriter_write (n : Nat) (ln : Nat → Nat) (j1 : Nat) (h : zM) (post : zM → Prop) : Prop := ∀ h2 : zM, h2 = zu h 28 1 0 → zL (stWriter_write_7 n ln j1 post) (0, h2)
abbrev rmWriter_write : Room := { frames := 4, cells := 0, slots := 0, locals := 92 }
set_option maxHeartbeats 4000000 in
set_option maxRecDepth 100000 in
theorem cWriter_write (l : Launch) (D : va_G) (cI cC cE : ClassId) (ad : Nat → Nat) (n : Nat) (ln : Nat → Nat) (A : Nat → Prop) (hJ : zJ A (34 + 4 * n) ad) (j1 : Nat) (hj1 : j1 < n) (h : zM) (post : zM → Prop) (hw : wpWriter_write n ln j1 h post) : Met l yWriter_write (.code yWriter_write bWriter_write 3 none :: zt) rmWriter_write (va_Pc [.ref (ad 28), .ref (ad (34 + 4 * j1))] (zPre D (zty cI cC cE) (34 + 4 * n) ad (zF ad cI cC cE n ln) A h)) (va_Qv post (zPst D (zty cI cC cE) (34 + 4 * n) ad (zF ad cI cC cE n ln)) A) 0 0 A := by
  refine Met.ofW (cc := bWriter_write) (maxL := 3) (ret := none) (by decide) rfl ?_
  intro p e s m args below meth c s₁ B hml hv
  obtain ⟨rfl, hP, hK, hT, hN⟩ := hv
  have hr := B.returns
  have hlk := B.notSynchronized
  have S : zS p m c bWriter_write 3 s _ "CallExplorer$Writer" := ⟨B.exec, B.bytes, hml, findClass_of_methodNamed B.named, fun w hw => atoms_spec (ws := .code yWriter_write bWriter_write 3 none :: zt) B.pre w (List.mem_cons_of_mem _ hw)⟩
  have hS : va_S A s.heap s.heap [] := va_S.rf
  have hl := lv_entry ([.ref (ad 28), .ref (ad (34 + 4 * j1))]) (n := 3) (Nat.le_of_ble_eq_true rfl)
  rw [lg_entry_eq]
  generalize (lg_sl ([.ref (ad 28), .ref (ad (34 + 4 * j1))]) ++ List.replicate (3 - (lg_sl ([.ref (ad 28), .ref (ad (34 + 4 * j1))])).length) Slot.unset).toArray = ls at hl ⊢
  have hl : lv_has ls 3 [(0, .ref (ad 28)), (1, .ref (ad (34 + 4 * j1)))] := hl
  show W p l e rmWriter_write s m ([.ref (ad 28), .ref (ad (34 + 4 * j1))] : List Value).toArray below meth c s.heap [] 0 0 (zQv post D (zty cI cC cE) (34 + 4 * n) ad (zF ad cI cC cE n ln) A below ([.ref (ad 28), .ref (ad (34 + 4 * j1))] : List Value).toArray s) _
  have J7 : ∀ (fu : Nat) (v2 : Int32) (h : zM) (H : Heap) (locs : List Loc) (ls : Array Slot), zl (stWriter_write_7 n ln j1 post) fu (v2, h) → lv_has ls 3 [(0, .ref (ad 28)), (1, .ref (ad (34 + 4 * j1))), (2, .int v2)] → va_P D zcl (zW (34 + 4 * n) ad (zF ad cI cC cE n ln) h) H → va_S A s.heap H locs → W p l e rmWriter_write s m ([.ref (ad 28), .ref (ad (34 + 4 * j1))] : List Value).toArray below meth c H locs 0 0 (zQv post D (zty cI cC cE) (34 + 4 * n) ad (zF ad cI cC cE n ln) A below ([.ref (ad 28), .ref (ad (34 + 4 * j1))] : List Value).toArray s) (F0 m 7 ls []) := by
    intro fu7
    induction fu7 with
    | zero =>
      intro v2 h H locs ls hw
      exact (zl_0 hw).elim
    | succ fu7 ih7 =>
      intro v2 h H locs ls hw hl hP hS
      have hw := zl_s hw
      generalize zl (stWriter_write_7 n ln j1 post) fu7 = L7 at hw ih7
      unfold stWriter_write_7 at hw
      dsimp only at hw
      refine lv_iload_n S.1 S.2.1 dWriter_write_7 rfl (lv_at hl 2 rfl) ?_
      refine lv_aload_n S.1 S.2.1 dWriter_write_8 rfl (lv_at hl 1 rfl) ?_
      refine zr_get S hK hP (zke0 hj1) ((zFe_0 j1) _) fEntry_sequence q601 rfl dWriter_write_9 ?_
      refine zr_get S hK hP (zke 1 hj1) ((zFe_1 j1) _) fSequence_size q178 rfl dWriter_write_12 ?_
      refine lv_icmp_ge S.1 S.2.1 dWriter_write_15 rfl (fun hc => ?_) (fun hc => ?_)
      · have hw := hw.1 hc
        refine lv_aload_n S.1 S.2.1 dWriter_write_33 rfl (lv_at hl 0 rfl) ?_
        refine lv_aload_n S.1 S.2.1 dWriter_write_34 rfl (lv_at hl 1 rfl) ?_
        refine zr_v (zr_V (As := [.ref (ad (34 + 4 * j1))]) (rest := []) S hK hT hN hP hS (zk (by decide)) (zF_28 _) rfl (cWriter_writeEnd l D cI cC cE ad n ln A hJ j1 hj1 _ _ hw) caWriter_34 ⟨Nat.le_of_ble_eq_true rfl, Nat.le_of_ble_eq_true rfl⟩ ⟨rfl, rfl⟩ rfl hl.1 rfl (Nat.le_of_ble_eq_true rfl) dWriter_write_35) hS (fun h35 H locs hw hP hS => ?_)
        exact zr_vret S hr hlk hK hP hS hw dWriter_write_38
      · have hw := hw.2 hc
        refine lv_aload_n S.1 S.2.1 dWriter_write_18 rfl (lv_at hl 0 rfl) ?_
        refine lv_aload_n S.1 S.2.1 dWriter_write_19 rfl (lv_at hl 1 rfl) ?_
        refine zr_get S hK hP (zke0 hj1) ((zFe_0 j1) _) fEntry_sequence q601 rfl dWriter_write_20 ?_
        refine lv_iload_n S.1 S.2.1 dWriter_write_23 rfl (lv_at hl 2 rfl) ?_
        refine zr_v (zr_V (As := [.ref (ad (34 + 4 * j1 + 1)), .int v2]) (rest := []) S hK hT hN hP hS (zk (by decide)) (zF_28 _) rfl (cWriter_writeCall l D cI cC cE ad n ln A hJ (34 + 4 * j1 + 1) (zs_e hj1) _ _ _ hw) caWriter_30 ⟨Nat.le_of_ble_eq_true rfl, Nat.le_of_ble_eq_true rfl⟩ ⟨rfl, rfl⟩ rfl hl.1 rfl (Nat.le_of_ble_eq_true rfl) dWriter_write_24) hS (fun h24 H locs hw hP hS => ?_)
        refine lv_iinc (v := (v2 + 1)) (lv' := [(2, .int (v2 + 1)), (0, .ref (ad 28)), (1, .ref (ad (34 + 4 * j1)))]) (k := 2) S.1 S.2.1 dWriter_write_27 hl rfl rfl (by decide) rfl (fun ls hl => ?_)
        refine lv_goto S.1 S.2.1 dWriter_write_30 rfl ?_
        exact ih7 _ _ _ _ _ hw (lv_sub hl [1, 2, 0] rfl) hP hS
  unfold wpWriter_write at hw
  refine lv_aload_n S.1 S.2.1 dWriter_write_0 rfl (lv_at hl 0 rfl) ?_
  refine lv_iconst (v := 0) S.1 S.2.1 dWriter_write_1 (by decide) ?_
  refine zr_put S hK hJ hP hS (zk (by decide)) (zF_28 _) fWriter_length q247 rfl rfl (Nat.le_of_ble_eq_true rfl) (zF_28 _) dWriter_write_2 (fun h2 H locs e2 hP hS => ?_)
  have hw := hw h2 e2
  refine lv_iconst (v := 0) S.1 S.2.1 dWriter_write_5 (by decide) ?_
  refine lv_istore_n (lv' := [(2, .int 0), (0, .ref (ad 28)), (1, .ref (ad (34 + 4 * j1)))]) S.1 S.2.1 dWriter_write_6 rfl hl (by decide) rfl (fun ls hl => ?_)
  obtain ⟨fu, hw⟩ := hw
  exact J7 fu _ _ _ _ _ hw (lv_sub hl [1, 2, 0] rfl) hP hS
