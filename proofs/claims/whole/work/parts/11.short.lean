/-! predicates and contracts, printed by wip/whole/gen -/
/-! Shortener.keepIfSame -/
theorem dShortener_keepIfSame_0 : decode bShortener_keepIfSame 0 = .ok (.aload_n 0, 1) := by decide +kernel
theorem dShortener_keepIfSame_1 : decode bShortener_keepIfSame 1 = .ok (.getfield 22, 3) := by decide +kernel
theorem dShortener_keepIfSame_4 : decode bShortener_keepIfSame 4 = .ok (.aload_n 0, 1) := by decide +kernel
theorem dShortener_keepIfSame_5 : decode bShortener_keepIfSame 5 = .ok (.getfield 12, 3) := by decide +kernel
theorem dShortener_keepIfSame_8 : decode bShortener_keepIfSame 8 = .ok (.invokevirtual 86, 3) := by decide +kernel
theorem dShortener_keepIfSame_11 : decode bShortener_keepIfSame 11 = .ok (.aload_n 0, 1) := by decide +kernel
theorem dShortener_keepIfSame_12 : decode bShortener_keepIfSame 12 = .ok (.getfield 22, 3) := by decide +kernel
theorem dShortener_keepIfSame_15 : decode bShortener_keepIfSame 15 = .ok (.getfield 91, 3) := by decide +kernel
theorem dShortener_keepIfSame_18 : decode bShortener_keepIfSame 18 = .ok (.aload_n 1, 1) := by decide +kernel
theorem dShortener_keepIfSame_19 : decode bShortener_keepIfSame 19 = .ok (.getfield 94, 3) := by decide +kernel
theorem dShortener_keepIfSame_22 : decode bShortener_keepIfSame 22 = .ok (.if_icmp .ne 28, 3) := by decide +kernel
theorem dShortener_keepIfSame_25 : decode bShortener_keepIfSame 25 = .ok (.aload_n 0, 1) := by decide +kernel
theorem dShortener_keepIfSame_26 : decode bShortener_keepIfSame 26 = .ok (.getfield 22, 3) := by decide +kernel
theorem dShortener_keepIfSame_29 : decode bShortener_keepIfSame 29 = .ok (.getfield 95, 3) := by decide +kernel
theorem dShortener_keepIfSame_32 : decode bShortener_keepIfSame 32 = .ok (.aload_n 1, 1) := by decide +kernel
theorem dShortener_keepIfSame_33 : decode bShortener_keepIfSame 33 = .ok (.getfield 98, 3) := by decide +kernel
theorem dShortener_keepIfSame_36 : decode bShortener_keepIfSame 36 = .ok (.if_icmp .ne 14, 3) := by decide +kernel
theorem dShortener_keepIfSame_39 : decode bShortener_keepIfSame 39 = .ok (.aload_n 1, 1) := by decide +kernel
theorem dShortener_keepIfSame_40 : decode bShortener_keepIfSame 40 = .ok (.getfield 26, 3) := by decide +kernel
theorem dShortener_keepIfSame_43 : decode bShortener_keepIfSame 43 = .ok (.aload_n 0, 1) := by decide +kernel
theorem dShortener_keepIfSame_44 : decode bShortener_keepIfSame 44 = .ok (.getfield 12, 3) := by decide +kernel
theorem dShortener_keepIfSame_47 : decode bShortener_keepIfSame 47 = .ok (.invokevirtual 57, 3) := by decide +kernel
theorem dShortener_keepIfSame_50 : decode bShortener_keepIfSame 50 = .ok (.return_, 1) := by decide +kernel
def wpShortener_keepIfSame (n : Nat) (ln : Nat → Nat) (j1 : Nat) (h : zM) (post : zM → Prop) : Prop := wpRunner_run n ln 26 h (fun h8 => ((¬ (h8 12 3) = (h8 (34 + 4 * j1) 1) → post h8) ∧ ((h8 12 3) = (h8 (34 + 4 * j1) 1) → ((¬ (h8 12 4) = (h8 (34 + 4 * j1) 2) → post h8) ∧ ((h8 12 4) = (h8 (34 + 4 * j1) 2) → wpSequence_copy (34 + 4 * j1 + 1) 26 h8 (fun h47 => post h47))))))
abbrev rmShortener_keepIfSame : Room := { frames := 5, cells := 0, slots := 0, locals := 120 }
set_option maxHeartbeats 4000000 in
set_option maxRecDepth 100000 in
theorem cShortener_keepIfSame (l : Launch) (D : va_G) (cI cC cE : ClassId) (ad : Nat → Nat) (n : Nat) (ln : Nat → Nat) (A : Nat → Prop) (hJ : zJ A (34 + 4 * n) ad) (j1 : Nat) (hj1 : j1 < n) (h : zM) (post : zM → Prop) (hw : wpShortener_keepIfSame n ln j1 h post) : Met l yShortener_keepIfSame (.code yShortener_keepIfSame bShortener_keepIfSame 2 none :: zt) rmShortener_keepIfSame (va_Pc [.ref (ad 25), .ref (ad (34 + 4 * j1))] (zPre D (zty cI cC cE) (34 + 4 * n) ad (zF ad cI cC cE n ln) A h)) (va_Qv post (zPst D (zty cI cC cE) (34 + 4 * n) ad (zF ad cI cC cE n ln)) A) 0 0 A := by
  refine Met.ofW (cc := bShortener_keepIfSame) (maxL := 2) (ret := none) (by decide) rfl ?_
  intro p e s m args below meth c s₁ B hml hv
  obtain ⟨rfl, hP, hK, hT, hN⟩ := hv
  have hr := B.returns
  have hlk := B.notSynchronized
  have S : zS p m c bShortener_keepIfSame 2 s _ "CallExplorer$Shortener" := ⟨B.exec, B.bytes, hml, findClass_of_methodNamed B.named, fun w hw => atoms_spec (ws := .code yShortener_keepIfSame bShortener_keepIfSame 2 none :: zt) B.pre w (List.mem_cons_of_mem _ hw)⟩
  have hS : va_S A s.heap s.heap [] := va_S.rf
  have hl := lv_entry ([.ref (ad 25), .ref (ad (34 + 4 * j1))]) (n := 2) (Nat.le_of_ble_eq_true rfl)
  rw [lg_entry_eq]
  generalize (lg_sl ([.ref (ad 25), .ref (ad (34 + 4 * j1))]) ++ List.replicate (2 - (lg_sl ([.ref (ad 25), .ref (ad (34 + 4 * j1))])).length) Slot.unset).toArray = ls at hl ⊢
  have hl : lv_has ls 2 [(0, .ref (ad 25)), (1, .ref (ad (34 + 4 * j1)))] := hl
  show W p l e rmShortener_keepIfSame s m ([.ref (ad 25), .ref (ad (34 + 4 * j1))] : List Value).toArray below meth c s.heap [] 0 0 (zQv post D (zty cI cC cE) (34 + 4 * n) ad (zF ad cI cC cE n ln) A below ([.ref (ad 25), .ref (ad (34 + 4 * j1))] : List Value).toArray s) _
  unfold wpShortener_keepIfSame at hw
  refine lv_aload_n S.1 S.2.1 dShortener_keepIfSame_0 rfl (lv_at hl 0 rfl) ?_
  refine zr_get S hK hP (zk (by decide)) (zF_25 _) fShortener_runner q230 rfl dShortener_keepIfSame_1 ?_
  refine lv_aload_n S.1 S.2.1 dShortener_keepIfSame_4 rfl (lv_at hl 0 rfl) ?_
  refine zr_get S hK hP (zk (by decide)) (zF_25 _) fShortener_trial q231 rfl dShortener_keepIfSame_5 ?_
  refine zr_v (zr_V (As := [.ref (ad 26)]) (rest := []) S hK hT hN hP hS (zk (by decide)) (zF_12 _) rfl (cRunner_run l D cI cC cE ad n ln A hJ 26 zs_26 _ _ hw) caShortener_86 ⟨Nat.le_of_ble_eq_true rfl, Nat.le_of_ble_eq_true rfl⟩ ⟨rfl, rfl⟩ rfl hl.1 rfl (Nat.le_of_ble_eq_true rfl) dShortener_keepIfSame_8) hS (fun h8 H locs hw hP hS => ?_)
  refine lv_aload_n S.1 S.2.1 dShortener_keepIfSame_11 rfl (lv_at hl 0 rfl) ?_
  refine zr_get S hK hP (zk (by decide)) (zF_25 _) fShortener_runner q230 rfl dShortener_keepIfSame_12 ?_
  refine zr_get S hK hP (zk (by decide)) (zF_12 _) fRunner_outcome q131 rfl dShortener_keepIfSame_15 ?_
  refine lv_aload_n S.1 S.2.1 dShortener_keepIfSame_18 rfl (lv_at hl 1 rfl) ?_
  refine zr_get S hK hP (zke0 hj1) ((zFe_0 j1) _) fEntry_outcome q608 rfl dShortener_keepIfSame_19 ?_
  refine lv_icmp_ne S.1 S.2.1 dShortener_keepIfSame_22 rfl (fun hc => ?_) (fun hc => ?_)
  · have hw := hw.1 hc
    exact zr_vret S hr hlk hK hP hS hw dShortener_keepIfSame_50
  · have hw := hw.2 hc
    refine lv_aload_n S.1 S.2.1 dShortener_keepIfSame_25 rfl (lv_at hl 0 rfl) ?_
    refine zr_get S hK hP (zk (by decide)) (zF_25 _) fShortener_runner q230 rfl dShortener_keepIfSame_26 ?_
    refine zr_get S hK hP (zk (by decide)) (zF_12 _) fRunner_detail q135 rfl dShortener_keepIfSame_29 ?_
    refine lv_aload_n S.1 S.2.1 dShortener_keepIfSame_32 rfl (lv_at hl 1 rfl) ?_
    refine zr_get S hK hP (zke0 hj1) ((zFe_0 j1) _) fEntry_detail q611 rfl dShortener_keepIfSame_33 ?_
    refine lv_icmp_ne S.1 S.2.1 dShortener_keepIfSame_36 rfl (fun hc => ?_) (fun hc => ?_)
    · have hw := hw.1 hc
      exact zr_vret S hr hlk hK hP hS hw dShortener_keepIfSame_50
    · have hw := hw.2 hc
      refine lv_aload_n S.1 S.2.1 dShortener_keepIfSame_39 rfl (lv_at hl 1 rfl) ?_
      refine zr_get S hK hP (zke0 hj1) ((zFe_0 j1) _) fEntry_sequence q600 rfl dShortener_keepIfSame_40 ?_
      refine lv_aload_n S.1 S.2.1 dShortener_keepIfSame_43 rfl (lv_at hl 0 rfl) ?_
      refine zr_get S hK hP (zk (by decide)) (zF_25 _) fShortener_trial q231 rfl dShortener_keepIfSame_44 ?_
      refine zr_v (zr_V (As := [.ref (ad 26)]) (rest := []) S hK hT hN hP hS (zke 1 hj1) ((zFe_1 j1) _) rfl (cSequence_copy l D (zty cI cC cE) (34 + 4 * n) ad (zF ad cI cC cE n ln) A hJ cI rfl (34 + 4 * j1 + 1) (zs_e hj1) 26 zs_26 _ _ hw) caShortener_57 ⟨Nat.le_of_ble_eq_true rfl, Nat.le_of_ble_eq_true rfl⟩ ⟨rfl, rfl⟩ rfl hl.1 rfl (Nat.le_of_ble_eq_true rfl) dShortener_keepIfSame_47) hS (fun h47 H locs hw hP hS => ?_)
      exact zr_vret S hr hlk hK hP hS hw dShortener_keepIfSame_50
/-! Shortener.lowerInTrial -/
theorem dShortener_lowerInTrial_0 : decode bShortener_lowerInTrial 0 = .ok (.aload_n 0, 1) := by decide +kernel
theorem dShortener_lowerInTrial_1 : decode bShortener_lowerInTrial 1 = .ok (.getfield 18, 3) := by decide +kernel
theorem dShortener_lowerInTrial_4 : decode bShortener_lowerInTrial 4 = .ok (.aload_n 1, 1) := by decide +kernel
theorem dShortener_lowerInTrial_5 : decode bShortener_lowerInTrial 5 = .ok (.iload_n 2, 1) := by decide +kernel
theorem dShortener_lowerInTrial_6 : decode bShortener_lowerInTrial 6 = .ok (.invokevirtual 47, 3) := by decide +kernel
theorem dShortener_lowerInTrial_9 : decode bShortener_lowerInTrial 9 = .ok (.iload_n 3, 1) := by decide +kernel
theorem dShortener_lowerInTrial_10 : decode bShortener_lowerInTrial 10 = .ok (.invokevirtual 51, 3) := by decide +kernel
theorem dShortener_lowerInTrial_13 : decode bShortener_lowerInTrial 13 = .ok (.istore 4, 2) := by decide +kernel
theorem dShortener_lowerInTrial_15 : decode bShortener_lowerInTrial 15 = .ok (.aload_n 0, 1) := by decide +kernel
theorem dShortener_lowerInTrial_16 : decode bShortener_lowerInTrial 16 = .ok (.getfield 12, 3) := by decide +kernel
theorem dShortener_lowerInTrial_19 : decode bShortener_lowerInTrial 19 = .ok (.aload_n 1, 1) := by decide +kernel
theorem dShortener_lowerInTrial_20 : decode bShortener_lowerInTrial 20 = .ok (.invokevirtual 57, 3) := by decide +kernel
theorem dShortener_lowerInTrial_23 : decode bShortener_lowerInTrial 23 = .ok (.iload 4, 2) := by decide +kernel
theorem dShortener_lowerInTrial_25 : decode bShortener_lowerInTrial 25 = .ok (.ifCond .ne 16, 3) := by decide +kernel
theorem dShortener_lowerInTrial_28 : decode bShortener_lowerInTrial 28 = .ok (.aload_n 0, 1) := by decide +kernel
theorem dShortener_lowerInTrial_29 : decode bShortener_lowerInTrial 29 = .ok (.getfield 12, 3) := by decide +kernel
theorem dShortener_lowerInTrial_32 : decode bShortener_lowerInTrial 32 = .ok (.iload_n 2, 1) := by decide +kernel
theorem dShortener_lowerInTrial_33 : decode bShortener_lowerInTrial 33 = .ok (.iload_n 3, 1) := by decide +kernel
theorem dShortener_lowerInTrial_34 : decode bShortener_lowerInTrial 34 = .ok (.iconst 1, 1) := by decide +kernel
theorem dShortener_lowerInTrial_35 : decode bShortener_lowerInTrial 35 = .ok (.iconst 0, 1) := by decide +kernel
theorem dShortener_lowerInTrial_36 : decode bShortener_lowerInTrial 36 = .ok (.invokevirtual 61, 3) := by decide +kernel
theorem dShortener_lowerInTrial_39 : decode bShortener_lowerInTrial 39 = .ok (.iconst 1, 1) := by decide +kernel
theorem dShortener_lowerInTrial_40 : decode bShortener_lowerInTrial 40 = .ok (.ireturn, 1) := by decide +kernel
theorem dShortener_lowerInTrial_41 : decode bShortener_lowerInTrial 41 = .ok (.aload_n 1, 1) := by decide +kernel
theorem dShortener_lowerInTrial_42 : decode bShortener_lowerInTrial 42 = .ok (.iload_n 2, 1) := by decide +kernel
theorem dShortener_lowerInTrial_43 : decode bShortener_lowerInTrial 43 = .ok (.iload_n 3, 1) := by decide +kernel
theorem dShortener_lowerInTrial_44 : decode bShortener_lowerInTrial 44 = .ok (.invokevirtual 65, 3) := by decide +kernel
theorem dShortener_lowerInTrial_47 : decode bShortener_lowerInTrial 47 = .ok (.istore 5, 2) := by decide +kernel
theorem dShortener_lowerInTrial_49 : decode bShortener_lowerInTrial 49 = .ok (.iconst 0, 1) := by decide +kernel
theorem dShortener_lowerInTrial_50 : decode bShortener_lowerInTrial 50 = .ok (.istore 6, 2) := by decide +kernel
theorem dShortener_lowerInTrial_52 : decode bShortener_lowerInTrial 52 = .ok (.iload 6, 2) := by decide +kernel
theorem dShortener_lowerInTrial_54 : decode bShortener_lowerInTrial 54 = .ok (.iload 5, 2) := by decide +kernel
theorem dShortener_lowerInTrial_56 : decode bShortener_lowerInTrial 56 = .ok (.if_icmp .ge 49, 3) := by decide +kernel
theorem dShortener_lowerInTrial_59 : decode bShortener_lowerInTrial 59 = .ok (.aload_n 0, 1) := by decide +kernel
theorem dShortener_lowerInTrial_60 : decode bShortener_lowerInTrial 60 = .ok (.getfield 18, 3) := by decide +kernel
theorem dShortener_lowerInTrial_63 : decode bShortener_lowerInTrial 63 = .ok (.aload_n 0, 1) := by decide +kernel
theorem dShortener_lowerInTrial_64 : decode bShortener_lowerInTrial 64 = .ok (.getfield 18, 3) := by decide +kernel
theorem dShortener_lowerInTrial_67 : decode bShortener_lowerInTrial 67 = .ok (.getfield 68, 3) := by decide +kernel
theorem dShortener_lowerInTrial_70 : decode bShortener_lowerInTrial 70 = .ok (.aload_n 1, 1) := by decide +kernel
theorem dShortener_lowerInTrial_71 : decode bShortener_lowerInTrial 71 = .ok (.iload 6, 2) := by decide +kernel
theorem dShortener_lowerInTrial_73 : decode bShortener_lowerInTrial 73 = .ok (.invokevirtual 47, 3) := by decide +kernel
theorem dShortener_lowerInTrial_76 : decode bShortener_lowerInTrial 76 = .ok (.iaload, 1) := by decide +kernel
theorem dShortener_lowerInTrial_77 : decode bShortener_lowerInTrial 77 = .ok (.iload 4, 2) := by decide +kernel
theorem dShortener_lowerInTrial_79 : decode bShortener_lowerInTrial 79 = .ok (.invokevirtual 72, 3) := by decide +kernel
theorem dShortener_lowerInTrial_82 : decode bShortener_lowerInTrial 82 = .ok (.ifCond .eq 17, 3) := by decide +kernel
theorem dShortener_lowerInTrial_85 : decode bShortener_lowerInTrial 85 = .ok (.aload_n 0, 1) := by decide +kernel
theorem dShortener_lowerInTrial_86 : decode bShortener_lowerInTrial 86 = .ok (.getfield 12, 3) := by decide +kernel
theorem dShortener_lowerInTrial_89 : decode bShortener_lowerInTrial 89 = .ok (.iload_n 2, 1) := by decide +kernel
theorem dShortener_lowerInTrial_90 : decode bShortener_lowerInTrial 90 = .ok (.iload_n 3, 1) := by decide +kernel
theorem dShortener_lowerInTrial_91 : decode bShortener_lowerInTrial 91 = .ok (.iconst 0, 1) := by decide +kernel
theorem dShortener_lowerInTrial_92 : decode bShortener_lowerInTrial 92 = .ok (.iload 6, 2) := by decide +kernel
theorem dShortener_lowerInTrial_94 : decode bShortener_lowerInTrial 94 = .ok (.invokevirtual 61, 3) := by decide +kernel
theorem dShortener_lowerInTrial_97 : decode bShortener_lowerInTrial 97 = .ok (.iconst 1, 1) := by decide +kernel
theorem dShortener_lowerInTrial_98 : decode bShortener_lowerInTrial 98 = .ok (.ireturn, 1) := by decide +kernel
theorem dShortener_lowerInTrial_99 : decode bShortener_lowerInTrial 99 = .ok (.iinc 6 1, 3) := by decide +kernel
theorem dShortener_lowerInTrial_102 : decode bShortener_lowerInTrial 102 = .ok (.goto (-50), 3) := by decide +kernel
theorem dShortener_lowerInTrial_105 : decode bShortener_lowerInTrial 105 = .ok (.iconst 0, 1) := by decide +kernel
theorem dShortener_lowerInTrial_106 : decode bShortener_lowerInTrial 106 = .ok (.ireturn, 1) := by decide +kernel
def stShortener_lowerInTrial_52 (n : Nat) (ln : Nat → Nat) (o1 : Nat) (post : Int32 → zM → Prop) (L52 : (Int32 × Int32 × Int32 × Int32 × Int32 × zM) → Prop) : (Int32 × Int32 × Int32 × Int32 × Int32 × zM) → Prop := fun s => match s with
  | (v2, v3, v4, v5, v6, h) => (((v5 ≤ v6) → post 0 h) ∧ (¬ (v5 ≤ v6) → wpSequence_operationOf o1 v6 h (fun r73 h73 => (vp_in r73 10 ∧ wpCatalog_is n ln (h73 8 (Int32.toNatClampNeg r73)) v4 h73 (fun r79 h79 => ((r79 = 0 → L52 (v2, v3, v4, v5, (v6 + 1), h79)) ∧ (¬ r79 = 0 → wpSequence_setArgument 26 v2 v3 0 v6 h79 (fun h94 => post 1 h94))))))))
def wpShortener_lowerInTrial (n : Nat) (ln : Nat → Nat) (o1 : Nat) (x2 : Int32) (x3 : Int32) (h : zM) (post : Int32 → zM → Prop) : Prop := wpSequence_operationOf o1 x2 h (fun r6 h6 => wpCatalog_argumentType n ln r6 x3 h6 (fun r10 h10 => wpSequence_copy 26 o1 h10 (fun h20 => ((¬ r10 = 0 → wpSequence_content o1 x2 x3 h20 (fun r44 h44 => zL (stShortener_lowerInTrial_52 n ln o1 post) (x2, x3, r10, r44, 0, h44))) ∧ (r10 = 0 → wpSequence_setArgument 26 x2 x3 1 0 h20 (fun h36 => post 1 h36))))))
abbrev rmShortener_lowerInTrial : Room := { frames := 2, cells := 0, slots := 0, locals := 39 }
set_option maxHeartbeats 4000000 in
set_option maxRecDepth 100000 in
theorem cShortener_lowerInTrial (l : Launch) (D : va_G) (cI cC cE : ClassId) (ad : Nat → Nat) (n : Nat) (ln : Nat → Nat) (A : Nat → Prop) (hJ : zJ A (34 + 4 * n) ad) (o1 : Nat) (hq1 : zSeq (34 + 4 * n) ad (zF ad cI cC cE n ln) cI o1) (x2 : Int32) (x3 : Int32) (h : zM) (post : Int32 → zM → Prop) (hw : wpShortener_lowerInTrial n ln o1 x2 x3 h post) : Met l yShortener_lowerInTrial (.code yShortener_lowerInTrial bShortener_lowerInTrial 7 (some .boolean) :: zt) rmShortener_lowerInTrial (va_Pc [.ref (ad 25), .ref (ad o1), .int x2, .int x3] (zPre D (zty cI cC cE) (34 + 4 * n) ad (zF ad cI cC cE n ln) A h)) (va_Qi post (zPst D (zty cI cC cE) (34 + 4 * n) ad (zF ad cI cC cE n ln)) A) 0 0 A := by
  refine Met.ofW (cc := bShortener_lowerInTrial) (maxL := 7) (ret := (some .boolean)) (by decide) rfl ?_
  intro p e s m args below meth c s₁ B hml hv
  obtain ⟨rfl, hP, hK, hT, hN⟩ := hv
  have hr := B.returns
  have hlk := B.notSynchronized
  have S : zS p m c bShortener_lowerInTrial 7 s _ "CallExplorer$Shortener" := ⟨B.exec, B.bytes, hml, findClass_of_methodNamed B.named, fun w hw => atoms_spec (ws := .code yShortener_lowerInTrial bShortener_lowerInTrial 7 (some .boolean) :: zt) B.pre w (List.mem_cons_of_mem _ hw)⟩
  have hS : va_S A s.heap s.heap [] := va_S.rf
  have hl := lv_entry ([.ref (ad 25), .ref (ad o1), .int x2, .int x3]) (n := 7) (Nat.le_of_ble_eq_true rfl)
  rw [lg_entry_eq]
  generalize (lg_sl ([.ref (ad 25), .ref (ad o1), .int x2, .int x3]) ++ List.replicate (7 - (lg_sl ([.ref (ad 25), .ref (ad o1), .int x2, .int x3])).length) Slot.unset).toArray = ls at hl ⊢
  have hl : lv_has ls 7 [(0, .ref (ad 25)), (1, .ref (ad o1)), (2, .int x2), (3, .int x3)] := hl
  show W p l e rmShortener_lowerInTrial s m ([.ref (ad 25), .ref (ad o1), .int x2, .int x3] : List Value).toArray below meth c s.heap [] 0 0 (zQi post D (zty cI cC cE) (34 + 4 * n) ad (zF ad cI cC cE n ln) A below ([.ref (ad 25), .ref (ad o1), .int x2, .int x3] : List Value).toArray s) _
  have J52 : ∀ (fu : Nat) (v2 : Int32) (v3 : Int32) (v4 : Int32) (v5 : Int32) (v6 : Int32) (h : zM) (H : Heap) (locs : List Loc) (ls : Array Slot), zl (stShortener_lowerInTrial_52 n ln o1 post) fu (v2, v3, v4, v5, v6, h) → lv_has ls 7 [(0, .ref (ad 25)), (1, .ref (ad o1)), (2, .int v2), (3, .int v3), (4, .int v4), (5, .int v5), (6, .int v6)] → va_P D zcl (zW (34 + 4 * n) ad (zF ad cI cC cE n ln) h) H → va_S A s.heap H locs → W p l e rmShortener_lowerInTrial s m ([.ref (ad 25), .ref (ad o1), .int x2, .int x3] : List Value).toArray below meth c H locs 0 0 (zQi post D (zty cI cC cE) (34 + 4 * n) ad (zF ad cI cC cE n ln) A below ([.ref (ad 25), .ref (ad o1), .int x2, .int x3] : List Value).toArray s) (F0 m 52 ls []) := by
    intro fu52
    induction fu52 with
    | zero =>
      intro v2 v3 v4 v5 v6 h H locs ls hw
      exact (zl_0 hw).elim
    | succ fu52 ih52 =>
      intro v2 v3 v4 v5 v6 h H locs ls hw hl hP hS
      have hw := zl_s hw
      generalize zl (stShortener_lowerInTrial_52 n ln o1 post) fu52 = L52 at hw ih52
      unfold stShortener_lowerInTrial_52 at hw
      dsimp only at hw
      refine lv_iload S.1 S.2.1 dShortener_lowerInTrial_52 (lv_at hl 6 rfl) ?_
      refine lv_iload S.1 S.2.1 dShortener_lowerInTrial_54 (lv_at hl 5 rfl) ?_
      refine lv_icmp_ge S.1 S.2.1 dShortener_lowerInTrial_56 rfl (fun hc => ?_) (fun hc => ?_)
      · have hw := hw.1 hc
        refine lv_iconst (v := 0) S.1 S.2.1 dShortener_lowerInTrial_105 (by decide) ?_
        exact zr_iret S hr hlk hK hP hS rfl hw dShortener_lowerInTrial_106
      · have hw := hw.2 hc
        refine lv_aload_n S.1 S.2.1 dShortener_lowerInTrial_59 rfl (lv_at hl 0 rfl) ?_
        refine zr_get S hK hP (zk (by decide)) (zF_25 _) fShortener_catalog q229 rfl dShortener_lowerInTrial_60 ?_
        refine lv_aload_n S.1 S.2.1 dShortener_lowerInTrial_63 rfl (lv_at hl 0 rfl) ?_
        refine zr_get S hK hP (zk (by decide)) (zF_25 _) fShortener_catalog q229 rfl dShortener_lowerInTrial_64 ?_
        refine zr_get S hK hP (zk (by decide)) (zF_1 _) fCatalog_resultTypes q44 rfl dShortener_lowerInTrial_67 ?_
        refine lv_aload_n S.1 S.2.1 dShortener_lowerInTrial_70 rfl (lv_at hl 1 rfl) ?_
        refine lv_iload S.1 S.2.1 dShortener_lowerInTrial_71 (lv_at hl 6 rfl) ?_
        refine zr_i (zr_V (As := [.int v6]) (rest := [.ref (ad 8), .ref (ad 1)]) S hK hT hN hP hS (Nat.lt_of_succ_lt (hq1).1) ((hq1).2.1 _) rfl (cSequence_operationOf l D (zty cI cC cE) (34 + 4 * n) ad (zF ad cI cC cE n ln) A hJ cI rfl o1 hq1 _ _ _ hw) caShortener_47 ⟨Nat.le_of_ble_eq_true rfl, Nat.le_of_ble_eq_true rfl⟩ ⟨rfl, rfl⟩ rfl hl.1 rfl (Nat.le_of_ble_eq_true rfl) dShortener_lowerInTrial_73) hS (fun r73 h73 H locs hw hP hS => ?_)
        obtain ⟨z76, hw⟩ := hw
        refine zr_ald S hK hP (zk (by decide)) (zF_8 _) 0 rfl z76 dShortener_lowerInTrial_76 ?_
        refine lv_iload S.1 S.2.1 dShortener_lowerInTrial_77 (lv_at hl 4 rfl) ?_
        refine zr_i (zr_V (As := [.int (h73 8 (Int32.toNatClampNeg r73)), .int v4]) (rest := []) S hK hT hN hP hS (zk (by decide)) (zF_1 _) rfl (cCatalog_is l D cI cC cE ad n ln A hJ _ _ _ _ hw) caShortener_72 ⟨Nat.le_of_ble_eq_true rfl, Nat.le_of_ble_eq_true rfl⟩ ⟨rfl, rfl⟩ rfl hl.1 rfl (Nat.le_of_ble_eq_true rfl) dShortener_lowerInTrial_79) hS (fun r79 h79 H locs hw hP hS => ?_)
        refine lv_if_eq S.1 S.2.1 dShortener_lowerInTrial_82 rfl (fun hc => ?_) (fun hc => ?_)
        · have hw := hw.1 hc
          refine lv_iinc (v := (v6 + 1)) (lv' := [(6, .int (v6 + 1)), (0, .ref (ad 25)), (1, .ref (ad o1)), (2, .int v2), (3, .int v3), (4, .int v4), (5, .int v5)]) (k := 6) S.1 S.2.1 dShortener_lowerInTrial_99 hl rfl rfl (by decide) rfl (fun ls hl => ?_)
          refine lv_goto S.1 S.2.1 dShortener_lowerInTrial_102 rfl ?_
          exact ih52 _ _ _ _ _ _ _ _ _ hw (lv_sub hl [1, 2, 3, 4, 5, 6, 0] rfl) hP hS
        · have hw := hw.2 hc
          refine lv_aload_n S.1 S.2.1 dShortener_lowerInTrial_85 rfl (lv_at hl 0 rfl) ?_
          refine zr_get S hK hP (zk (by decide)) (zF_25 _) fShortener_trial q231 rfl dShortener_lowerInTrial_86 ?_
          refine lv_iload_n S.1 S.2.1 dShortener_lowerInTrial_89 rfl (lv_at hl 2 rfl) ?_
          refine lv_iload_n S.1 S.2.1 dShortener_lowerInTrial_90 rfl (lv_at hl 3 rfl) ?_
          refine lv_iconst (v := 0) S.1 S.2.1 dShortener_lowerInTrial_91 (by decide) ?_
          refine lv_iload S.1 S.2.1 dShortener_lowerInTrial_92 (lv_at hl 6 rfl) ?_
          refine zr_v (zr_V (As := [.int v2, .int v3, .int 0, .int v6]) (rest := []) S hK hT hN hP hS (zk (by decide)) (zF_26 _) rfl (cSequence_setArgument l D (zty cI cC cE) (34 + 4 * n) ad (zF ad cI cC cE n ln) A hJ cI rfl 26 zs_26 _ _ _ _ _ _ hw) caShortener_61 ⟨Nat.le_of_ble_eq_true rfl, Nat.le_of_ble_eq_true rfl⟩ ⟨rfl, rfl⟩ rfl hl.1 rfl (Nat.le_of_ble_eq_true rfl) dShortener_lowerInTrial_94) hS (fun h94 H locs hw hP hS => ?_)
          refine lv_iconst (v := 1) S.1 S.2.1 dShortener_lowerInTrial_97 (by decide) ?_
          exact zr_iret S hr hlk hK hP hS rfl hw dShortener_lowerInTrial_98
  unfold wpShortener_lowerInTrial at hw
  refine lv_aload_n S.1 S.2.1 dShortener_lowerInTrial_0 rfl (lv_at hl 0 rfl) ?_
  refine zr_get S hK hP (zk (by decide)) (zF_25 _) fShortener_catalog q229 rfl dShortener_lowerInTrial_1 ?_
  refine lv_aload_n S.1 S.2.1 dShortener_lowerInTrial_4 rfl (lv_at hl 1 rfl) ?_
  refine lv_iload_n S.1 S.2.1 dShortener_lowerInTrial_5 rfl (lv_at hl 2 rfl) ?_
  refine zr_i (zr_V (As := [.int x2]) (rest := [.ref (ad 1)]) S hK hT hN hP hS (Nat.lt_of_succ_lt (hq1).1) ((hq1).2.1 _) rfl (cSequence_operationOf l D (zty cI cC cE) (34 + 4 * n) ad (zF ad cI cC cE n ln) A hJ cI rfl o1 hq1 _ _ _ hw) caShortener_47 ⟨Nat.le_of_ble_eq_true rfl, Nat.le_of_ble_eq_true rfl⟩ ⟨rfl, rfl⟩ rfl hl.1 rfl (Nat.le_of_ble_eq_true rfl) dShortener_lowerInTrial_6) hS (fun r6 h6 H locs hw hP hS => ?_)
  refine lv_iload_n S.1 S.2.1 dShortener_lowerInTrial_9 rfl (lv_at hl 3 rfl) ?_
  refine zr_i (zr_V (As := [.int r6, .int x3]) (rest := []) S hK hT hN hP hS (zk (by decide)) (zF_1 _) rfl (cCatalog_argumentType l D cI cC cE ad n ln A hJ _ _ _ _ hw) caShortener_51 ⟨Nat.le_of_ble_eq_true rfl, Nat.le_of_ble_eq_true rfl⟩ ⟨rfl, rfl⟩ rfl hl.1 rfl (Nat.le_of_ble_eq_true rfl) dShortener_lowerInTrial_10) hS (fun r10 h10 H locs hw hP hS => ?_)
  refine lv_istore (lv' := [(4, .int r10), (0, .ref (ad 25)), (1, .ref (ad o1)), (2, .int x2), (3, .int x3)]) S.1 S.2.1 dShortener_lowerInTrial_13 hl (by decide) rfl (fun ls hl => ?_)
  refine lv_aload_n S.1 S.2.1 dShortener_lowerInTrial_15 rfl (lv_at hl 1 rfl) ?_
  refine zr_get S hK hP (zk (by decide)) (zF_25 _) fShortener_trial q231 rfl dShortener_lowerInTrial_16 ?_
  refine lv_aload_n S.1 S.2.1 dShortener_lowerInTrial_19 rfl (lv_at hl 2 rfl) ?_
  refine zr_v (zr_V (As := [.ref (ad o1)]) (rest := []) S hK hT hN hP hS (zk (by decide)) (zF_26 _) rfl (cSequence_copy l D (zty cI cC cE) (34 + 4 * n) ad (zF ad cI cC cE n ln) A hJ cI rfl 26 zs_26 o1 hq1 _ _ hw) caShortener_57 ⟨Nat.le_of_ble_eq_true rfl, Nat.le_of_ble_eq_true rfl⟩ ⟨rfl, rfl⟩ rfl hl.1 rfl (Nat.le_of_ble_eq_true rfl) dShortener_lowerInTrial_20) hS (fun h20 H locs hw hP hS => ?_)
  refine lv_iload S.1 S.2.1 dShortener_lowerInTrial_23 (lv_at hl 0 rfl) ?_
  refine lv_if_ne S.1 S.2.1 dShortener_lowerInTrial_25 rfl (fun hc => ?_) (fun hc => ?_)
  · have hw := hw.1 hc
    refine lv_aload_n S.1 S.2.1 dShortener_lowerInTrial_41 rfl (lv_at hl 2 rfl) ?_
    refine lv_iload_n S.1 S.2.1 dShortener_lowerInTrial_42 rfl (lv_at hl 3 rfl) ?_
    refine lv_iload_n S.1 S.2.1 dShortener_lowerInTrial_43 rfl (lv_at hl 4 rfl) ?_
    refine zr_i (zr_V (As := [.int x2, .int x3]) (rest := []) S hK hT hN hP hS (Nat.lt_of_succ_lt (hq1).1) ((hq1).2.1 _) rfl (cSequence_content l D (zty cI cC cE) (34 + 4 * n) ad (zF ad cI cC cE n ln) A hJ cI rfl o1 hq1 _ _ _ _ hw) caShortener_65 ⟨Nat.le_of_ble_eq_true rfl, Nat.le_of_ble_eq_true rfl⟩ ⟨rfl, rfl⟩ rfl hl.1 rfl (Nat.le_of_ble_eq_true rfl) dShortener_lowerInTrial_44) hS (fun r44 h44 H locs hw hP hS => ?_)
    refine lv_istore (lv' := [(5, .int r44), (4, .int r10), (0, .ref (ad 25)), (1, .ref (ad o1)), (2, .int x2), (3, .int x3)]) S.1 S.2.1 dShortener_lowerInTrial_47 hl (by decide) rfl (fun ls hl => ?_)
    refine lv_iconst (v := 0) S.1 S.2.1 dShortener_lowerInTrial_49 (by decide) ?_
    refine lv_istore (lv' := [(6, .int 0), (5, .int r44), (4, .int r10), (0, .ref (ad 25)), (1, .ref (ad o1)), (2, .int x2), (3, .int x3)]) S.1 S.2.1 dShortener_lowerInTrial_50 hl (by decide) rfl (fun ls hl => ?_)
    obtain ⟨fu, hw⟩ := hw
    exact J52 fu _ _ _ _ _ _ _ _ _ hw (lv_sub hl [3, 4, 5, 6, 2, 1, 0] rfl) hP hS
  · have hw := hw.2 hc
    refine lv_aload_n S.1 S.2.1 dShortener_lowerInTrial_28 rfl (lv_at hl 1 rfl) ?_
    refine zr_get S hK hP (zk (by decide)) (zF_25 _) fShortener_trial q231 rfl dShortener_lowerInTrial_29 ?_
    refine lv_iload_n S.1 S.2.1 dShortener_lowerInTrial_32 rfl (lv_at hl 3 rfl) ?_
    refine lv_iload_n S.1 S.2.1 dShortener_lowerInTrial_33 rfl (lv_at hl 4 rfl) ?_
    refine lv_iconst (v := 1) S.1 S.2.1 dShortener_lowerInTrial_34 (by decide) ?_
    refine lv_iconst (v := 0) S.1 S.2.1 dShortener_lowerInTrial_35 (by decide) ?_
    refine zr_v (zr_V (As := [.int x2, .int x3, .int 1, .int 0]) (rest := []) S hK hT hN hP hS (zk (by decide)) (zF_26 _) rfl (cSequence_setArgument l D (zty cI cC cE) (34 + 4 * n) ad (zF ad cI cC cE n ln) A hJ cI rfl 26 zs_26 _ _ _ _ _ _ hw) caShortener_61 ⟨Nat.le_of_ble_eq_true rfl, Nat.le_of_ble_eq_true rfl⟩ ⟨rfl, rfl⟩ rfl hl.1 rfl (Nat.le_of_ble_eq_true rfl) dShortener_lowerInTrial_36) hS (fun h36 H locs hw hP hS => ?_)
    refine lv_iconst (v := 1) S.1 S.2.1 dShortener_lowerInTrial_39 (by decide) ?_
    exact zr_iret S hr hlk hK hP hS rfl hw dShortener_lowerInTrial_40
/-! Shortener.lowerVariables -/
theorem dShortener_lowerVariables_0 : decode bShortener_lowerVariables 0 = .ok (.aload_n 1, 1) := by decide +kernel
theorem dShortener_lowerVariables_1 : decode bShortener_lowerVariables 1 = .ok (.getfield 26, 3) := by decide +kernel
theorem dShortener_lowerVariables_4 : decode bShortener_lowerVariables 4 = .ok (.astore_n 2, 1) := by decide +kernel
theorem dShortener_lowerVariables_5 : decode bShortener_lowerVariables 5 = .ok (.iconst 0, 1) := by decide +kernel
theorem dShortener_lowerVariables_6 : decode bShortener_lowerVariables 6 = .ok (.istore_n 3, 1) := by decide +kernel
theorem dShortener_lowerVariables_7 : decode bShortener_lowerVariables 7 = .ok (.iload_n 3, 1) := by decide +kernel
theorem dShortener_lowerVariables_8 : decode bShortener_lowerVariables 8 = .ok (.aload_n 2, 1) := by decide +kernel
theorem dShortener_lowerVariables_9 : decode bShortener_lowerVariables 9 = .ok (.getfield 31, 3) := by decide +kernel
theorem dShortener_lowerVariables_12 : decode bShortener_lowerVariables 12 = .ok (.if_icmp .ge 50, 3) := by decide +kernel
theorem dShortener_lowerVariables_15 : decode bShortener_lowerVariables 15 = .ok (.iconst 0, 1) := by decide +kernel
theorem dShortener_lowerVariables_16 : decode bShortener_lowerVariables 16 = .ok (.istore 4, 2) := by decide +kernel
theorem dShortener_lowerVariables_18 : decode bShortener_lowerVariables 18 = .ok (.iload 4, 2) := by decide +kernel
theorem dShortener_lowerVariables_20 : decode bShortener_lowerVariables 20 = .ok (.iconst 2, 1) := by decide +kernel
theorem dShortener_lowerVariables_21 : decode bShortener_lowerVariables 21 = .ok (.if_icmp .ge 35, 3) := by decide +kernel
theorem dShortener_lowerVariables_24 : decode bShortener_lowerVariables 24 = .ok (.aload_n 2, 1) := by decide +kernel
theorem dShortener_lowerVariables_25 : decode bShortener_lowerVariables 25 = .ok (.iload_n 3, 1) := by decide +kernel
theorem dShortener_lowerVariables_26 : decode bShortener_lowerVariables 26 = .ok (.iload 4, 2) := by decide +kernel
theorem dShortener_lowerVariables_28 : decode bShortener_lowerVariables 28 = .ok (.invokevirtual 35, 3) := by decide +kernel
theorem dShortener_lowerVariables_31 : decode bShortener_lowerVariables 31 = .ok (.ifCond .eq 19, 3) := by decide +kernel
theorem dShortener_lowerVariables_34 : decode bShortener_lowerVariables 34 = .ok (.aload_n 0, 1) := by decide +kernel
theorem dShortener_lowerVariables_35 : decode bShortener_lowerVariables 35 = .ok (.aload_n 2, 1) := by decide +kernel
theorem dShortener_lowerVariables_36 : decode bShortener_lowerVariables 36 = .ok (.iload_n 3, 1) := by decide +kernel
theorem dShortener_lowerVariables_37 : decode bShortener_lowerVariables 37 = .ok (.iload 4, 2) := by decide +kernel
theorem dShortener_lowerVariables_39 : decode bShortener_lowerVariables 39 = .ok (.invokevirtual 39, 3) := by decide +kernel
theorem dShortener_lowerVariables_42 : decode bShortener_lowerVariables 42 = .ok (.ifCond .eq 8, 3) := by decide +kernel
theorem dShortener_lowerVariables_45 : decode bShortener_lowerVariables 45 = .ok (.aload_n 0, 1) := by decide +kernel
theorem dShortener_lowerVariables_46 : decode bShortener_lowerVariables 46 = .ok (.aload_n 1, 1) := by decide +kernel
theorem dShortener_lowerVariables_47 : decode bShortener_lowerVariables 47 = .ok (.invokevirtual 43, 3) := by decide +kernel
theorem dShortener_lowerVariables_50 : decode bShortener_lowerVariables 50 = .ok (.iinc 4 1, 3) := by decide +kernel
theorem dShortener_lowerVariables_53 : decode bShortener_lowerVariables 53 = .ok (.goto (-35), 3) := by decide +kernel
theorem dShortener_lowerVariables_56 : decode bShortener_lowerVariables 56 = .ok (.iinc 3 1, 3) := by decide +kernel
theorem dShortener_lowerVariables_59 : decode bShortener_lowerVariables 59 = .ok (.goto (-52), 3) := by decide +kernel
theorem dShortener_lowerVariables_62 : decode bShortener_lowerVariables 62 = .ok (.return_, 1) := by decide +kernel
def wbShortener_lowerVariables_50 (n : Nat) (ln : Nat → Nat) (j1 : Nat) (post : zM → Prop) (L7 : (Int32 × zM) → Prop) (L18 : (Int32 × Int32 × zM) → Prop) (v3 : Int32) (v4 : Int32) (h : zM) : Prop := L18 (v3, (v4 + 1), h)
def stShortener_lowerVariables_18 (n : Nat) (ln : Nat → Nat) (j1 : Nat) (post : zM → Prop) (L7 : (Int32 × zM) → Prop) (L18 : (Int32 × Int32 × zM) → Prop) : (Int32 × Int32 × zM) → Prop := fun s => match s with
  | (v3, v4, h) => (((2 ≤ v4) → L7 ((v3 + 1), h)) ∧ (¬ (2 ≤ v4) → wpSequence_isVariable (34 + 4 * j1 + 1) v3 v4 h (fun r28 h28 => ((r28 = 0 → wbShortener_lowerVariables_50 n ln j1 post L7 L18 v3 v4 h28) ∧ (¬ r28 = 0 → wpShortener_lowerInTrial n ln (34 + 4 * j1 + 1) v3 v4 h28 (fun r39 h39 => ((r39 = 0 → wbShortener_lowerVariables_50 n ln j1 post L7 L18 v3 v4 h39) ∧ (¬ r39 = 0 → wpShortener_keepIfSame n ln j1 h39 (fun h47 => wbShortener_lowerVariables_50 n ln j1 post L7 L18 v3 v4 h47)))))))))
def stShortener_lowerVariables_7 (n : Nat) (ln : Nat → Nat) (j1 : Nat) (post : zM → Prop) (L7 : (Int32 × zM) → Prop) : (Int32 × zM) → Prop := fun s => match s with
  | (v3, h) => ((((h (34 + 4 * j1 + 1) 0) ≤ v3) → post h) ∧ (¬ ((h (34 + 4 * j1 + 1) 0) ≤ v3) → zL (stShortener_lowerVariables_18 n ln j1 post L7) (v3, 0, h)))
def wpShortener_lowerVariables (n : Nat) (ln : Nat → Nat) (j1 : Nat) (h : zM) (post : zM → Prop) : Prop := zL (stShortener_lowerVariables_7 n ln j1 post) (0, h)
abbrev rmShortener_lowerVariables : Room := { frames := 6, cells := 0, slots := 0, locals := 141 }
set_option maxHeartbeats 4000000 in
set_option maxRecDepth 100000 in
theorem cShortener_lowerVariables (l : Launch) (D : va_G) (cI cC cE : ClassId) (ad : Nat → Nat) (n : Nat) (ln : Nat → Nat) (A : Nat → Prop) (hJ : zJ A (34 + 4 * n) ad) (j1 : Nat) (hj1 : j1 < n) (h : zM) (post : zM → Prop) (hw : wpShortener_lowerVariables n ln j1 h post) : Met l yShortener_lowerVariables (.code yShortener_lowerVariables bShortener_lowerVariables 5 none :: zt) rmShortener_lowerVariables (va_Pc [.ref (ad 25), .ref (ad (34 + 4 * j1))] (zPre D (zty cI cC cE) (34 + 4 * n) ad (zF ad cI cC cE n ln) A h)) (va_Qv post (zPst D (zty cI cC cE) (34 + 4 * n) ad (zF ad cI cC cE n ln)) A) 0 0 A := by
  refine Met.ofW (cc := bShortener_lowerVariables) (maxL := 5) (ret := none) (by decide) rfl ?_
  intro p e s m args below meth c s₁ B hml hv
  obtain ⟨rfl, hP, hK, hT, hN⟩ := hv
  have hr := B.returns
  have hlk := B.notSynchronized
  have S : zS p m c bShortener_lowerVariables 5 s _ "CallExplorer$Shortener" := ⟨B.exec, B.bytes, hml, findClass_of_methodNamed B.named, fun w hw => atoms_spec (ws := .code yShortener_lowerVariables bShortener_lowerVariables 5 none :: zt) B.pre w (List.mem_cons_of_mem _ hw)⟩
  have hS : va_S A s.heap s.heap [] := va_S.rf
  have hl := lv_entry ([.ref (ad 25), .ref (ad (34 + 4 * j1))]) (n := 5) (Nat.le_of_ble_eq_true rfl)
  rw [lg_entry_eq]
  generalize (lg_sl ([.ref (ad 25), .ref (ad (34 + 4 * j1))]) ++ List.replicate (5 - (lg_sl ([.ref (ad 25), .ref (ad (34 + 4 * j1))])).length) Slot.unset).toArray = ls at hl ⊢
  have hl : lv_has ls 5 [(0, .ref (ad 25)), (1, .ref (ad (34 + 4 * j1)))] := hl
  show W p l e rmShortener_lowerVariables s m ([.ref (ad 25), .ref (ad (34 + 4 * j1))] : List Value).toArray below meth c s.heap [] 0 0 (zQv post D (zty cI cC cE) (34 + 4 * n) ad (zF ad cI cC cE n ln) A below ([.ref (ad 25), .ref (ad (34 + 4 * j1))] : List Value).toArray s) _
  have J7 : ∀ (fu : Nat) (v3 : Int32) (h : zM) (H : Heap) (locs : List Loc) (ls : Array Slot), zl (stShortener_lowerVariables_7 n ln j1 post) fu (v3, h) → lv_has ls 5 [(0, .ref (ad 25)), (1, .ref (ad (34 + 4 * j1))), (2, .ref (ad (34 + 4 * j1 + 1))), (3, .int v3)] → va_P D zcl (zW (34 + 4 * n) ad (zF ad cI cC cE n ln) h) H → va_S A s.heap H locs → W p l e rmShortener_lowerVariables s m ([.ref (ad 25), .ref (ad (34 + 4 * j1))] : List Value).toArray below meth c H locs 0 0 (zQv post D (zty cI cC cE) (34 + 4 * n) ad (zF ad cI cC cE n ln) A below ([.ref (ad 25), .ref (ad (34 + 4 * j1))] : List Value).toArray s) (F0 m 7 ls []) := by
    intro fu7
    induction fu7 with
    | zero =>
      intro v3 h H locs ls hw
      exact (zl_0 hw).elim
    | succ fu7 ih7 =>
      intro v3 h H locs ls hw hl hP hS
      have hw := zl_s hw
      generalize zl (stShortener_lowerVariables_7 n ln j1 post) fu7 = L7 at hw ih7
      have J18 : ∀ (fu : Nat) (v3 : Int32) (v4 : Int32) (h : zM) (H : Heap) (locs : List Loc) (ls : Array Slot), zl (stShortener_lowerVariables_18 n ln j1 post L7) fu (v3, v4, h) → lv_has ls 5 [(0, .ref (ad 25)), (1, .ref (ad (34 + 4 * j1))), (2, .ref (ad (34 + 4 * j1 + 1))), (3, .int v3), (4, .int v4)] → va_P D zcl (zW (34 + 4 * n) ad (zF ad cI cC cE n ln) h) H → va_S A s.heap H locs → W p l e rmShortener_lowerVariables s m ([.ref (ad 25), .ref (ad (34 + 4 * j1))] : List Value).toArray below meth c H locs 0 0 (zQv post D (zty cI cC cE) (34 + 4 * n) ad (zF ad cI cC cE n ln) A below ([.ref (ad 25), .ref (ad (34 + 4 * j1))] : List Value).toArray s) (F0 m 18 ls []) := by
        intro fu18
        induction fu18 with
        | zero =>
          intro v3 v4 h H locs ls hw
          exact (zl_0 hw).elim
        | succ fu18 ih18 =>
          intro v3 v4 h H locs ls hw hl hP hS
          have hw := zl_s hw
          generalize zl (stShortener_lowerVariables_18 n ln j1 post L7) fu18 = L18 at hw ih18
          have J50 : ∀ (v3 : Int32) (v4 : Int32) (h : zM) (H : Heap) (locs : List Loc) (ls : Array Slot), wbShortener_lowerVariables_50 n ln j1 post L7 L18 v3 v4 h → lv_has ls 5 [(0, .ref (ad 25)), (1, .ref (ad (34 + 4 * j1))), (2, .ref (ad (34 + 4 * j1 + 1))), (3, .int v3), (4, .int v4)] → va_P D zcl (zW (34 + 4 * n) ad (zF ad cI cC cE n ln) h) H → va_S A s.heap H locs → W p l e rmShortener_lowerVariables s m ([.ref (ad 25), .ref (ad (34 + 4 * j1))] : List Value).toArray below meth c H locs 0 0 (zQv post D (zty cI cC cE) (34 + 4 * n) ad (zF ad cI cC cE n ln) A below ([.ref (ad 25), .ref (ad (34 + 4 * j1))] : List Value).toArray s) (F0 m 50 ls []) := by
            intro v3 v4 h H locs ls hw hl hP hS
            unfold wbShortener_lowerVariables_50 at hw
            refine lv_iinc (v := (v4 + 1)) (lv' := [(4, .int (v4 + 1)), (0, .ref (ad 25)), (1, .ref (ad (34 + 4 * j1))), (2, .ref (ad (34 + 4 * j1 + 1))), (3, .int v3)]) (k := 4) S.1 S.2.1 dShortener_lowerVariables_50 hl rfl rfl (by decide) rfl (fun ls hl => ?_)
            refine lv_goto S.1 S.2.1 dShortener_lowerVariables_53 rfl ?_
            exact ih18 _ _ _ _ _ _ hw (lv_sub hl [1, 2, 3, 4, 0] rfl) hP hS
          unfold stShortener_lowerVariables_18 at hw
          dsimp only at hw
          refine lv_iload S.1 S.2.1 dShortener_lowerVariables_18 (lv_at hl 4 rfl) ?_
          refine lv_iconst (v := 2) S.1 S.2.1 dShortener_lowerVariables_20 (by decide) ?_
          refine lv_icmp_ge S.1 S.2.1 dShortener_lowerVariables_21 rfl (fun hc => ?_) (fun hc => ?_)
          · have hw := hw.1 hc
            refine lv_iinc (v := (v3 + 1)) (lv' := [(3, .int (v3 + 1)), (0, .ref (ad 25)), (1, .ref (ad (34 + 4 * j1))), (2, .ref (ad (34 + 4 * j1 + 1))), (4, .int v4)]) (k := 3) S.1 S.2.1 dShortener_lowerVariables_56 hl rfl rfl (by decide) rfl (fun ls hl => ?_)
            refine lv_goto S.1 S.2.1 dShortener_lowerVariables_59 rfl ?_
            exact ih7 _ _ _ _ _ hw (lv_sub hl [1, 2, 3, 0] rfl) hP hS
          · have hw := hw.2 hc
            refine lv_aload_n S.1 S.2.1 dShortener_lowerVariables_24 rfl (lv_at hl 2 rfl) ?_
            refine lv_iload_n S.1 S.2.1 dShortener_lowerVariables_25 rfl (lv_at hl 3 rfl) ?_
            refine lv_iload S.1 S.2.1 dShortener_lowerVariables_26 (lv_at hl 4 rfl) ?_
            refine zr_i (zr_V (As := [.int v3, .int v4]) (rest := []) S hK hT hN hP hS (zke 1 hj1) ((zFe_1 j1) _) rfl (cSequence_isVariable l D (zty cI cC cE) (34 + 4 * n) ad (zF ad cI cC cE n ln) A hJ cI rfl (34 + 4 * j1 + 1) (zs_e hj1) _ _ _ _ hw) caShortener_35 ⟨Nat.le_of_ble_eq_true rfl, Nat.le_of_ble_eq_true rfl⟩ ⟨rfl, rfl⟩ rfl hl.1 rfl (Nat.le_of_ble_eq_true rfl) dShortener_lowerVariables_28) hS (fun r28 h28 H locs hw hP hS => ?_)
            refine lv_if_eq S.1 S.2.1 dShortener_lowerVariables_31 rfl (fun hc => ?_) (fun hc => ?_)
            · have hw := hw.1 hc
              exact J50 _ _ _ _ _ _ hw (lv_sub hl [0, 1, 2, 3, 4] rfl) hP hS
            · have hw := hw.2 hc
              refine lv_aload_n S.1 S.2.1 dShortener_lowerVariables_34 rfl (lv_at hl 0 rfl) ?_
              refine lv_aload_n S.1 S.2.1 dShortener_lowerVariables_35 rfl (lv_at hl 2 rfl) ?_
              refine lv_iload_n S.1 S.2.1 dShortener_lowerVariables_36 rfl (lv_at hl 3 rfl) ?_
              refine lv_iload S.1 S.2.1 dShortener_lowerVariables_37 (lv_at hl 4 rfl) ?_
              refine zr_i (zr_V (As := [.ref (ad (34 + 4 * j1 + 1)), .int v3, .int v4]) (rest := []) S hK hT hN hP hS (zk (by decide)) (zF_25 _) rfl (cShortener_lowerInTrial l D cI cC cE ad n ln A hJ (34 + 4 * j1 + 1) (zs_e hj1) _ _ _ _ hw) caShortener_39 ⟨Nat.le_of_ble_eq_true rfl, Nat.le_of_ble_eq_true rfl⟩ ⟨rfl, rfl⟩ rfl hl.1 rfl (Nat.le_of_ble_eq_true rfl) dShortener_lowerVariables_39) hS (fun r39 h39 H locs hw hP hS => ?_)
              refine lv_if_eq S.1 S.2.1 dShortener_lowerVariables_42 rfl (fun hc => ?_) (fun hc => ?_)
              · have hw := hw.1 hc
                exact J50 _ _ _ _ _ _ hw (lv_sub hl [0, 1, 2, 3, 4] rfl) hP hS
              · have hw := hw.2 hc
                refine lv_aload_n S.1 S.2.1 dShortener_lowerVariables_45 rfl (lv_at hl 0 rfl) ?_
                refine lv_aload_n S.1 S.2.1 dShortener_lowerVariables_46 rfl (lv_at hl 1 rfl) ?_
                refine zr_v (zr_V (As := [.ref (ad (34 + 4 * j1))]) (rest := []) S hK hT hN hP hS (zk (by decide)) (zF_25 _) rfl (cShortener_keepIfSame l D cI cC cE ad n ln A hJ j1 hj1 _ _ hw) caShortener_43 ⟨Nat.le_of_ble_eq_true rfl, Nat.le_of_ble_eq_true rfl⟩ ⟨rfl, rfl⟩ rfl hl.1 rfl (Nat.le_of_ble_eq_true rfl) dShortener_lowerVariables_47) hS (fun h47 H locs hw hP hS => ?_)
                exact J50 _ _ _ _ _ _ hw (lv_sub hl [0, 1, 2, 3, 4] rfl) hP hS
      unfold stShortener_lowerVariables_7 at hw
      dsimp only at hw
      refine lv_iload_n S.1 S.2.1 dShortener_lowerVariables_7 rfl (lv_at hl 3 rfl) ?_
      refine lv_aload_n S.1 S.2.1 dShortener_lowerVariables_8 rfl (lv_at hl 2 rfl) ?_
      refine zr_get S hK hP (zke 1 hj1) ((zFe_1 j1) _) fSequence_size q177 rfl dShortener_lowerVariables_9 ?_
      refine lv_icmp_ge S.1 S.2.1 dShortener_lowerVariables_12 rfl (fun hc => ?_) (fun hc => ?_)
      · have hw := hw.1 hc
        exact zr_vret S hr hlk hK hP hS hw dShortener_lowerVariables_62
      · have hw := hw.2 hc
        refine lv_iconst (v := 0) S.1 S.2.1 dShortener_lowerVariables_15 (by decide) ?_
        refine lv_istore (lv' := [(4, .int 0), (0, .ref (ad 25)), (1, .ref (ad (34 + 4 * j1))), (2, .ref (ad (34 + 4 * j1 + 1))), (3, .int v3)]) S.1 S.2.1 dShortener_lowerVariables_16 hl (by decide) rfl (fun ls hl => ?_)
        obtain ⟨fu, hw⟩ := hw
        exact J18 fu _ _ _ _ _ _ hw (lv_sub hl [1, 2, 3, 4, 0] rfl) hP hS
  unfold wpShortener_lowerVariables at hw
  refine lv_aload_n S.1 S.2.1 dShortener_lowerVariables_0 rfl (lv_at hl 1 rfl) ?_
  refine zr_get S hK hP (zke0 hj1) ((zFe_0 j1) _) fEntry_sequence q600 rfl dShortener_lowerVariables_1 ?_
  refine lv_astore_n (lv' := [(2, .ref (ad (34 + 4 * j1 + 1))), (0, .ref (ad 25)), (1, .ref (ad (34 + 4 * j1)))]) S.1 S.2.1 dShortener_lowerVariables_4 rfl hl (by decide) rfl (fun ls hl => ?_)
  refine lv_iconst (v := 0) S.1 S.2.1 dShortener_lowerVariables_5 (by decide) ?_
  refine lv_istore_n (lv' := [(3, .int 0), (2, .ref (ad (34 + 4 * j1 + 1))), (0, .ref (ad 25)), (1, .ref (ad (34 + 4 * j1)))]) S.1 S.2.1 dShortener_lowerVariables_6 rfl hl (by decide) rfl (fun ls hl => ?_)
  obtain ⟨fu, hw⟩ := hw
  exact J7 fu _ _ _ _ _ hw (lv_sub hl [2, 3, 1, 0] rfl) hP hS
/-! Shortener.dropStatements -/
theorem dShortener_dropStatements_0 : decode bShortener_dropStatements 0 = .ok (.aload_n 1, 1) := by decide +kernel
theorem dShortener_dropStatements_1 : decode bShortener_dropStatements 1 = .ok (.getfield 26, 3) := by decide +kernel
theorem dShortener_dropStatements_4 : decode bShortener_dropStatements 4 = .ok (.getfield 31, 3) := by decide +kernel
theorem dShortener_dropStatements_7 : decode bShortener_dropStatements 7 = .ok (.iconst 2, 1) := by decide +kernel
theorem dShortener_dropStatements_8 : decode bShortener_dropStatements 8 = .ok (.isub, 1) := by decide +kernel
theorem dShortener_dropStatements_9 : decode bShortener_dropStatements 9 = .ok (.istore_n 2, 1) := by decide +kernel
theorem dShortener_dropStatements_10 : decode bShortener_dropStatements 10 = .ok (.iload_n 2, 1) := by decide +kernel
theorem dShortener_dropStatements_11 : decode bShortener_dropStatements 11 = .ok (.ifCond .lt 44, 3) := by decide +kernel
theorem dShortener_dropStatements_14 : decode bShortener_dropStatements 14 = .ok (.aload_n 1, 1) := by decide +kernel
theorem dShortener_dropStatements_15 : decode bShortener_dropStatements 15 = .ok (.getfield 26, 3) := by decide +kernel
theorem dShortener_dropStatements_18 : decode bShortener_dropStatements 18 = .ok (.iload_n 2, 1) := by decide +kernel
theorem dShortener_dropStatements_19 : decode bShortener_dropStatements 19 = .ok (.invokevirtual 75, 3) := by decide +kernel
theorem dShortener_dropStatements_22 : decode bShortener_dropStatements 22 = .ok (.ifCond .ne 27, 3) := by decide +kernel
theorem dShortener_dropStatements_25 : decode bShortener_dropStatements 25 = .ok (.aload_n 0, 1) := by decide +kernel
theorem dShortener_dropStatements_26 : decode bShortener_dropStatements 26 = .ok (.getfield 12, 3) := by decide +kernel
theorem dShortener_dropStatements_29 : decode bShortener_dropStatements 29 = .ok (.aload_n 1, 1) := by decide +kernel
theorem dShortener_dropStatements_30 : decode bShortener_dropStatements 30 = .ok (.getfield 26, 3) := by decide +kernel
theorem dShortener_dropStatements_33 : decode bShortener_dropStatements 33 = .ok (.invokevirtual 57, 3) := by decide +kernel
theorem dShortener_dropStatements_36 : decode bShortener_dropStatements 36 = .ok (.aload_n 0, 1) := by decide +kernel
theorem dShortener_dropStatements_37 : decode bShortener_dropStatements 37 = .ok (.getfield 12, 3) := by decide +kernel
theorem dShortener_dropStatements_40 : decode bShortener_dropStatements 40 = .ok (.iload_n 2, 1) := by decide +kernel
theorem dShortener_dropStatements_41 : decode bShortener_dropStatements 41 = .ok (.invokevirtual 79, 3) := by decide +kernel
theorem dShortener_dropStatements_44 : decode bShortener_dropStatements 44 = .ok (.aload_n 0, 1) := by decide +kernel
theorem dShortener_dropStatements_45 : decode bShortener_dropStatements 45 = .ok (.aload_n 1, 1) := by decide +kernel
theorem dShortener_dropStatements_46 : decode bShortener_dropStatements 46 = .ok (.invokevirtual 43, 3) := by decide +kernel
theorem dShortener_dropStatements_49 : decode bShortener_dropStatements 49 = .ok (.iinc 2 (-1), 3) := by decide +kernel
theorem dShortener_dropStatements_52 : decode bShortener_dropStatements 52 = .ok (.goto (-42), 3) := by decide +kernel
theorem dShortener_dropStatements_55 : decode bShortener_dropStatements 55 = .ok (.return_, 1) := by decide +kernel
def wbShortener_dropStatements_49 (n : Nat) (ln : Nat → Nat) (j1 : Nat) (post : zM → Prop) (L10 : (Int32 × zM) → Prop) (v2 : Int32) (h : zM) : Prop := L10 ((v2 + (-1)), h)
def stShortener_dropStatements_10 (n : Nat) (ln : Nat → Nat) (j1 : Nat) (post : zM → Prop) (L10 : (Int32 × zM) → Prop) : (Int32 × zM) → Prop := fun s => match s with
  | (v2, h) => (((v2 < 0) → post h) ∧ (¬ (v2 < 0) → wpSequence_usesLater (34 + 4 * j1 + 1) v2 h (fun r19 h19 => ((¬ r19 = 0 → wbShortener_dropStatements_49 n ln j1 post L10 v2 h19) ∧ (r19 = 0 → wpSequence_copy 26 (34 + 4 * j1 + 1) h19 (fun h33 => wpSequence_remove 26 v2 h33 (fun h41 => wpShortener_keepIfSame n ln j1 h41 (fun h46 => wbShortener_dropStatements_49 n ln j1 post L10 v2 h46))))))))
def wpShortener_dropStatements (n : Nat) (ln : Nat → Nat) (j1 : Nat) (h : zM) (post : zM → Prop) : Prop := ∀ y9 : Int32, y9 = ((h (34 + 4 * j1 + 1) 0) - 2) → zL (stShortener_dropStatements_10 n ln j1 post) (y9, h)
abbrev rmShortener_dropStatements : Room := { frames := 6, cells := 0, slots := 0, locals := 141 }
set_option maxHeartbeats 4000000 in
set_option maxRecDepth 100000 in
theorem cShortener_dropStatements (l : Launch) (D : va_G) (cI cC cE : ClassId) (ad : Nat → Nat) (n : Nat) (ln : Nat → Nat) (A : Nat → Prop) (hJ : zJ A (34 + 4 * n) ad) (j1 : Nat) (hj1 : j1 < n) (h : zM) (post : zM → Prop) (hw : wpShortener_dropStatements n ln j1 h post) : Met l yShortener_dropStatements (.code yShortener_dropStatements bShortener_dropStatements 3 none :: zt) rmShortener_dropStatements (va_Pc [.ref (ad 25), .ref (ad (34 + 4 * j1))] (zPre D (zty cI cC cE) (34 + 4 * n) ad (zF ad cI cC cE n ln) A h)) (va_Qv post (zPst D (zty cI cC cE) (34 + 4 * n) ad (zF ad cI cC cE n ln)) A) 0 0 A := by
  refine Met.ofW (cc := bShortener_dropStatements) (maxL := 3) (ret := none) (by decide) rfl ?_
  intro p e s m args below meth c s₁ B hml hv
  obtain ⟨rfl, hP, hK, hT, hN⟩ := hv
  have hr := B.returns
  have hlk := B.notSynchronized
  have S : zS p m c bShortener_dropStatements 3 s _ "CallExplorer$Shortener" := ⟨B.exec, B.bytes, hml, findClass_of_methodNamed B.named, fun w hw => atoms_spec (ws := .code yShortener_dropStatements bShortener_dropStatements 3 none :: zt) B.pre w (List.mem_cons_of_mem _ hw)⟩
  have hS : va_S A s.heap s.heap [] := va_S.rf
  have hl := lv_entry ([.ref (ad 25), .ref (ad (34 + 4 * j1))]) (n := 3) (Nat.le_of_ble_eq_true rfl)
  rw [lg_entry_eq]
  generalize (lg_sl ([.ref (ad 25), .ref (ad (34 + 4 * j1))]) ++ List.replicate (3 - (lg_sl ([.ref (ad 25), .ref (ad (34 + 4 * j1))])).length) Slot.unset).toArray = ls at hl ⊢
  have hl : lv_has ls 3 [(0, .ref (ad 25)), (1, .ref (ad (34 + 4 * j1)))] := hl
  show W p l e rmShortener_dropStatements s m ([.ref (ad 25), .ref (ad (34 + 4 * j1))] : List Value).toArray below meth c s.heap [] 0 0 (zQv post D (zty cI cC cE) (34 + 4 * n) ad (zF ad cI cC cE n ln) A below ([.ref (ad 25), .ref (ad (34 + 4 * j1))] : List Value).toArray s) _
  have J10 : ∀ (fu : Nat) (v2 : Int32) (h : zM) (H : Heap) (locs : List Loc) (ls : Array Slot), zl (stShortener_dropStatements_10 n ln j1 post) fu (v2, h) → lv_has ls 3 [(0, .ref (ad 25)), (1, .ref (ad (34 + 4 * j1))), (2, .int v2)] → va_P D zcl (zW (34 + 4 * n) ad (zF ad cI cC cE n ln) h) H → va_S A s.heap H locs → W p l e rmShortener_dropStatements s m ([.ref (ad 25), .ref (ad (34 + 4 * j1))] : List Value).toArray below meth c H locs 0 0 (zQv post D (zty cI cC cE) (34 + 4 * n) ad (zF ad cI cC cE n ln) A below ([.ref (ad 25), .ref (ad (34 + 4 * j1))] : List Value).toArray s) (F0 m 10 ls []) := by
    intro fu10
    induction fu10 with
    | zero =>
      intro v2 h H locs ls hw
      exact (zl_0 hw).elim
    | succ fu10 ih10 =>
      intro v2 h H locs ls hw hl hP hS
      have hw := zl_s hw
      generalize zl (stShortener_dropStatements_10 n ln j1 post) fu10 = L10 at hw ih10
      have J49 : ∀ (v2 : Int32) (h : zM) (H : Heap) (locs : List Loc) (ls : Array Slot), wbShortener_dropStatements_49 n ln j1 post L10 v2 h → lv_has ls 3 [(0, .ref (ad 25)), (1, .ref (ad (34 + 4 * j1))), (2, .int v2)] → va_P D zcl (zW (34 + 4 * n) ad (zF ad cI cC cE n ln) h) H → va_S A s.heap H locs → W p l e rmShortener_dropStatements s m ([.ref (ad 25), .ref (ad (34 + 4 * j1))] : List Value).toArray below meth c H locs 0 0 (zQv post D (zty cI cC cE) (34 + 4 * n) ad (zF ad cI cC cE n ln) A below ([.ref (ad 25), .ref (ad (34 + 4 * j1))] : List Value).toArray s) (F0 m 49 ls []) := by
        intro v2 h H locs ls hw hl hP hS
        unfold wbShortener_dropStatements_49 at hw
        refine lv_iinc (v := (v2 + (-1))) (lv' := [(2, .int (v2 + (-1))), (0, .ref (ad 25)), (1, .ref (ad (34 + 4 * j1)))]) (k := 2) S.1 S.2.1 dShortener_dropStatements_49 hl rfl rfl (by decide) rfl (fun ls hl => ?_)
        refine lv_goto S.1 S.2.1 dShortener_dropStatements_52 rfl ?_
        exact ih10 _ _ _ _ _ hw (lv_sub hl [1, 2, 0] rfl) hP hS
      unfold stShortener_dropStatements_10 at hw
      dsimp only at hw
      refine lv_iload_n S.1 S.2.1 dShortener_dropStatements_10 rfl (lv_at hl 2 rfl) ?_
      refine lv_if_lt S.1 S.2.1 dShortener_dropStatements_11 rfl (fun hc => ?_) (fun hc => ?_)
      · have hw := hw.1 hc
        exact zr_vret S hr hlk hK hP hS hw dShortener_dropStatements_55
      · have hw := hw.2 hc
        refine lv_aload_n S.1 S.2.1 dShortener_dropStatements_14 rfl (lv_at hl 1 rfl) ?_
        refine zr_get S hK hP (zke0 hj1) ((zFe_0 j1) _) fEntry_sequence q600 rfl dShortener_dropStatements_15 ?_
        refine lv_iload_n S.1 S.2.1 dShortener_dropStatements_18 rfl (lv_at hl 2 rfl) ?_
        refine zr_i (zr_V (As := [.int v2]) (rest := []) S hK hT hN hP hS (zke 1 hj1) ((zFe_1 j1) _) rfl (cSequence_usesLater l D (zty cI cC cE) (34 + 4 * n) ad (zF ad cI cC cE n ln) A hJ cI rfl (34 + 4 * j1 + 1) (zs_e hj1) _ _ _ hw) caShortener_75 ⟨Nat.le_of_ble_eq_true rfl, Nat.le_of_ble_eq_true rfl⟩ ⟨rfl, rfl⟩ rfl hl.1 rfl (Nat.le_of_ble_eq_true rfl) dShortener_dropStatements_19) hS (fun r19 h19 H locs hw hP hS => ?_)
        refine lv_if_ne S.1 S.2.1 dShortener_dropStatements_22 rfl (fun hc => ?_) (fun hc => ?_)
        · have hw := hw.1 hc
          exact J49 _ _ _ _ _ hw (lv_sub hl [0, 1, 2] rfl) hP hS
        · have hw := hw.2 hc
          refine lv_aload_n S.1 S.2.1 dShortener_dropStatements_25 rfl (lv_at hl 0 rfl) ?_
          refine zr_get S hK hP (zk (by decide)) (zF_25 _) fShortener_trial q231 rfl dShortener_dropStatements_26 ?_
          refine lv_aload_n S.1 S.2.1 dShortener_dropStatements_29 rfl (lv_at hl 1 rfl) ?_
          refine zr_get S hK hP (zke0 hj1) ((zFe_0 j1) _) fEntry_sequence q600 rfl dShortener_dropStatements_30 ?_
          refine zr_v (zr_V (As := [.ref (ad (34 + 4 * j1 + 1))]) (rest := []) S hK hT hN hP hS (zk (by decide)) (zF_26 _) rfl (cSequence_copy l D (zty cI cC cE) (34 + 4 * n) ad (zF ad cI cC cE n ln) A hJ cI rfl 26 zs_26 (34 + 4 * j1 + 1) (zs_e hj1) _ _ hw) caShortener_57 ⟨Nat.le_of_ble_eq_true rfl, Nat.le_of_ble_eq_true rfl⟩ ⟨rfl, rfl⟩ rfl hl.1 rfl (Nat.le_of_ble_eq_true rfl) dShortener_dropStatements_33) hS (fun h33 H locs hw hP hS => ?_)
          refine lv_aload_n S.1 S.2.1 dShortener_dropStatements_36 rfl (lv_at hl 0 rfl) ?_
          refine zr_get S hK hP (zk (by decide)) (zF_25 _) fShortener_trial q231 rfl dShortener_dropStatements_37 ?_
          refine lv_iload_n S.1 S.2.1 dShortener_dropStatements_40 rfl (lv_at hl 2 rfl) ?_
          refine zr_v (zr_V (As := [.int v2]) (rest := []) S hK hT hN hP hS (zk (by decide)) (zF_26 _) rfl (cSequence_remove l D (zty cI cC cE) (34 + 4 * n) ad (zF ad cI cC cE n ln) A hJ cI rfl 26 zs_26 _ _ _ hw) caShortener_79 ⟨Nat.le_of_ble_eq_true rfl, Nat.le_of_ble_eq_true rfl⟩ ⟨rfl, rfl⟩ rfl hl.1 rfl (Nat.le_of_ble_eq_true rfl) dShortener_dropStatements_41) hS (fun h41 H locs hw hP hS => ?_)
          refine lv_aload_n S.1 S.2.1 dShortener_dropStatements_44 rfl (lv_at hl 0 rfl) ?_
          refine lv_aload_n S.1 S.2.1 dShortener_dropStatements_45 rfl (lv_at hl 1 rfl) ?_
          refine zr_v (zr_V (As := [.ref (ad (34 + 4 * j1))]) (rest := []) S hK hT hN hP hS (zk (by decide)) (zF_25 _) rfl (cShortener_keepIfSame l D cI cC cE ad n ln A hJ j1 hj1 _ _ hw) caShortener_43 ⟨Nat.le_of_ble_eq_true rfl, Nat.le_of_ble_eq_true rfl⟩ ⟨rfl, rfl⟩ rfl hl.1 rfl (Nat.le_of_ble_eq_true rfl) dShortener_dropStatements_46) hS (fun h46 H locs hw hP hS => ?_)
          exact J49 _ _ _ _ _ hw (lv_sub hl [0, 1, 2] rfl) hP hS
  unfold wpShortener_dropStatements at hw
  refine lv_aload_n S.1 S.2.1 dShortener_dropStatements_0 rfl (lv_at hl 1 rfl) ?_
  refine zr_get S hK hP (zke0 hj1) ((zFe_0 j1) _) fEntry_sequence q600 rfl dShortener_dropStatements_1 ?_
  refine zr_get S hK hP (zke 1 hj1) ((zFe_1 j1) _) fSequence_size q177 rfl dShortener_dropStatements_4 ?_
  refine lv_iconst (v := 2) S.1 S.2.1 dShortener_dropStatements_7 (by decide) ?_
  refine lv_isub S.1 S.2.1 dShortener_dropStatements_8 ?_
  refine lv_topi (fun y9 e9 => ?_)
  have hw := hw y9 e9
  refine lv_istore_n (lv' := [(2, .int y9), (0, .ref (ad 25)), (1, .ref (ad (34 + 4 * j1)))]) S.1 S.2.1 dShortener_dropStatements_9 rfl hl (by decide) rfl (fun ls hl => ?_)
  obtain ⟨fu, hw⟩ := hw
  exact J10 fu _ _ _ _ _ hw (lv_sub hl [1, 2, 0] rfl) hP hS
/-! Shortener.zeroLiterals -/
theorem dShortener_zeroLiterals_0 : decode bShortener_zeroLiterals 0 = .ok (.aload_n 1, 1) := by decide +kernel
theorem dShortener_zeroLiterals_1 : decode bShortener_zeroLiterals 1 = .ok (.getfield 26, 3) := by decide +kernel
theorem dShortener_zeroLiterals_4 : decode bShortener_zeroLiterals 4 = .ok (.astore_n 2, 1) := by decide +kernel
theorem dShortener_zeroLiterals_5 : decode bShortener_zeroLiterals 5 = .ok (.iconst 0, 1) := by decide +kernel
theorem dShortener_zeroLiterals_6 : decode bShortener_zeroLiterals 6 = .ok (.istore_n 3, 1) := by decide +kernel
theorem dShortener_zeroLiterals_7 : decode bShortener_zeroLiterals 7 = .ok (.iload_n 3, 1) := by decide +kernel
theorem dShortener_zeroLiterals_8 : decode bShortener_zeroLiterals 8 = .ok (.aload_n 2, 1) := by decide +kernel
theorem dShortener_zeroLiterals_9 : decode bShortener_zeroLiterals 9 = .ok (.getfield 31, 3) := by decide +kernel
theorem dShortener_zeroLiterals_12 : decode bShortener_zeroLiterals 12 = .ok (.if_icmp .ge 70, 3) := by decide +kernel
theorem dShortener_zeroLiterals_15 : decode bShortener_zeroLiterals 15 = .ok (.iconst 0, 1) := by decide +kernel
theorem dShortener_zeroLiterals_16 : decode bShortener_zeroLiterals 16 = .ok (.istore 4, 2) := by decide +kernel
theorem dShortener_zeroLiterals_18 : decode bShortener_zeroLiterals 18 = .ok (.iload 4, 2) := by decide +kernel
theorem dShortener_zeroLiterals_20 : decode bShortener_zeroLiterals 20 = .ok (.iconst 2, 1) := by decide +kernel
theorem dShortener_zeroLiterals_21 : decode bShortener_zeroLiterals 21 = .ok (.if_icmp .ge 55, 3) := by decide +kernel
theorem dShortener_zeroLiterals_24 : decode bShortener_zeroLiterals 24 = .ok (.aload_n 2, 1) := by decide +kernel
theorem dShortener_zeroLiterals_25 : decode bShortener_zeroLiterals 25 = .ok (.iload_n 3, 1) := by decide +kernel
theorem dShortener_zeroLiterals_26 : decode bShortener_zeroLiterals 26 = .ok (.iload 4, 2) := by decide +kernel
theorem dShortener_zeroLiterals_28 : decode bShortener_zeroLiterals 28 = .ok (.invokevirtual 83, 3) := by decide +kernel
theorem dShortener_zeroLiterals_31 : decode bShortener_zeroLiterals 31 = .ok (.iconst 1, 1) := by decide +kernel
theorem dShortener_zeroLiterals_32 : decode bShortener_zeroLiterals 32 = .ok (.if_icmp .ne 38, 3) := by decide +kernel
theorem dShortener_zeroLiterals_35 : decode bShortener_zeroLiterals 35 = .ok (.aload_n 2, 1) := by decide +kernel
theorem dShortener_zeroLiterals_36 : decode bShortener_zeroLiterals 36 = .ok (.iload_n 3, 1) := by decide +kernel
theorem dShortener_zeroLiterals_37 : decode bShortener_zeroLiterals 37 = .ok (.iload 4, 2) := by decide +kernel
theorem dShortener_zeroLiterals_39 : decode bShortener_zeroLiterals 39 = .ok (.invokevirtual 65, 3) := by decide +kernel
theorem dShortener_zeroLiterals_42 : decode bShortener_zeroLiterals 42 = .ok (.ifCond .eq 28, 3) := by decide +kernel
theorem dShortener_zeroLiterals_45 : decode bShortener_zeroLiterals 45 = .ok (.aload_n 0, 1) := by decide +kernel
theorem dShortener_zeroLiterals_46 : decode bShortener_zeroLiterals 46 = .ok (.getfield 12, 3) := by decide +kernel
theorem dShortener_zeroLiterals_49 : decode bShortener_zeroLiterals 49 = .ok (.aload_n 2, 1) := by decide +kernel
theorem dShortener_zeroLiterals_50 : decode bShortener_zeroLiterals 50 = .ok (.invokevirtual 57, 3) := by decide +kernel
theorem dShortener_zeroLiterals_53 : decode bShortener_zeroLiterals 53 = .ok (.aload_n 0, 1) := by decide +kernel
theorem dShortener_zeroLiterals_54 : decode bShortener_zeroLiterals 54 = .ok (.getfield 12, 3) := by decide +kernel
theorem dShortener_zeroLiterals_57 : decode bShortener_zeroLiterals 57 = .ok (.iload_n 3, 1) := by decide +kernel
theorem dShortener_zeroLiterals_58 : decode bShortener_zeroLiterals 58 = .ok (.iload 4, 2) := by decide +kernel
theorem dShortener_zeroLiterals_60 : decode bShortener_zeroLiterals 60 = .ok (.iconst 1, 1) := by decide +kernel
theorem dShortener_zeroLiterals_61 : decode bShortener_zeroLiterals 61 = .ok (.iconst 0, 1) := by decide +kernel
theorem dShortener_zeroLiterals_62 : decode bShortener_zeroLiterals 62 = .ok (.invokevirtual 61, 3) := by decide +kernel
theorem dShortener_zeroLiterals_65 : decode bShortener_zeroLiterals 65 = .ok (.aload_n 0, 1) := by decide +kernel
theorem dShortener_zeroLiterals_66 : decode bShortener_zeroLiterals 66 = .ok (.aload_n 1, 1) := by decide +kernel
theorem dShortener_zeroLiterals_67 : decode bShortener_zeroLiterals 67 = .ok (.invokevirtual 43, 3) := by decide +kernel
theorem dShortener_zeroLiterals_70 : decode bShortener_zeroLiterals 70 = .ok (.iinc 4 1, 3) := by decide +kernel
theorem dShortener_zeroLiterals_73 : decode bShortener_zeroLiterals 73 = .ok (.goto (-55), 3) := by decide +kernel
theorem dShortener_zeroLiterals_76 : decode bShortener_zeroLiterals 76 = .ok (.iinc 3 1, 3) := by decide +kernel
theorem dShortener_zeroLiterals_79 : decode bShortener_zeroLiterals 79 = .ok (.goto (-72), 3) := by decide +kernel
theorem dShortener_zeroLiterals_82 : decode bShortener_zeroLiterals 82 = .ok (.return_, 1) := by decide +kernel
def wbShortener_zeroLiterals_70 (n : Nat) (ln : Nat → Nat) (j1 : Nat) (post : zM → Prop) (L7 : (Int32 × zM) → Prop) (L18 : (Int32 × Int32 × zM) → Prop) (v3 : Int32) (v4 : Int32) (h : zM) : Prop := L18 (v3, (v4 + 1), h)
def stShortener_zeroLiterals_18 (n : Nat) (ln : Nat → Nat) (j1 : Nat) (post : zM → Prop) (L7 : (Int32 × zM) → Prop) (L18 : (Int32 × Int32 × zM) → Prop) : (Int32 × Int32 × zM) → Prop := fun s => match s with
  | (v3, v4, h) => (((2 ≤ v4) → L7 ((v3 + 1), h)) ∧ (¬ (2 ≤ v4) → wpSequence_form (34 + 4 * j1 + 1) v3 v4 h (fun r28 h28 => ((¬ r28 = 1 → wbShortener_zeroLiterals_70 n ln j1 post L7 L18 v3 v4 h28) ∧ (r28 = 1 → wpSequence_content (34 + 4 * j1 + 1) v3 v4 h28 (fun r39 h39 => ((r39 = 0 → wbShortener_zeroLiterals_70 n ln j1 post L7 L18 v3 v4 h39) ∧ (¬ r39 = 0 → wpSequence_copy 26 (34 + 4 * j1 + 1) h39 (fun h50 => wpSequence_setArgument 26 v3 v4 1 0 h50 (fun h62 => wpShortener_keepIfSame n ln j1 h62 (fun h67 => wbShortener_zeroLiterals_70 n ln j1 post L7 L18 v3 v4 h67)))))))))))
def stShortener_zeroLiterals_7 (n : Nat) (ln : Nat → Nat) (j1 : Nat) (post : zM → Prop) (L7 : (Int32 × zM) → Prop) : (Int32 × zM) → Prop := fun s => match s with
  | (v3, h) => ((((h (34 + 4 * j1 + 1) 0) ≤ v3) → post h) ∧ (¬ ((h (34 + 4 * j1 + 1) 0) ≤ v3) → zL (stShortener_zeroLiterals_18 n ln j1 post L7) (v3, 0, h)))
def wpShortener_zeroLiterals (n : Nat) (ln : Nat → Nat) (j1 : Nat) (h : zM) (post : zM → Prop) : Prop := zL (stShortener_zeroLiterals_7 n ln j1 post) (0, h)
abbrev rmShortener_zeroLiterals : Room := { frames := 6, cells := 0, slots := 0, locals := 141 }
set_option maxHeartbeats 4000000 in
set_option maxRecDepth 100000 in
theorem cShortener_zeroLiterals (l : Launch) (D : va_G) (cI cC cE : ClassId) (ad : Nat → Nat) (n : Nat) (ln : Nat → Nat) (A : Nat → Prop) (hJ : zJ A (34 + 4 * n) ad) (j1 : Nat) (hj1 : j1 < n) (h : zM) (post : zM → Prop) (hw : wpShortener_zeroLiterals n ln j1 h post) : Met l yShortener_zeroLiterals (.code yShortener_zeroLiterals bShortener_zeroLiterals 5 none :: zt) rmShortener_zeroLiterals (va_Pc [.ref (ad 25), .ref (ad (34 + 4 * j1))] (zPre D (zty cI cC cE) (34 + 4 * n) ad (zF ad cI cC cE n ln) A h)) (va_Qv post (zPst D (zty cI cC cE) (34 + 4 * n) ad (zF ad cI cC cE n ln)) A) 0 0 A := by
  refine Met.ofW (cc := bShortener_zeroLiterals) (maxL := 5) (ret := none) (by decide) rfl ?_
  intro p e s m args below meth c s₁ B hml hv
  obtain ⟨rfl, hP, hK, hT, hN⟩ := hv
  have hr := B.returns
  have hlk := B.notSynchronized
  have S : zS p m c bShortener_zeroLiterals 5 s _ "CallExplorer$Shortener" := ⟨B.exec, B.bytes, hml, findClass_of_methodNamed B.named, fun w hw => atoms_spec (ws := .code yShortener_zeroLiterals bShortener_zeroLiterals 5 none :: zt) B.pre w (List.mem_cons_of_mem _ hw)⟩
  have hS : va_S A s.heap s.heap [] := va_S.rf
  have hl := lv_entry ([.ref (ad 25), .ref (ad (34 + 4 * j1))]) (n := 5) (Nat.le_of_ble_eq_true rfl)
  rw [lg_entry_eq]
  generalize (lg_sl ([.ref (ad 25), .ref (ad (34 + 4 * j1))]) ++ List.replicate (5 - (lg_sl ([.ref (ad 25), .ref (ad (34 + 4 * j1))])).length) Slot.unset).toArray = ls at hl ⊢
  have hl : lv_has ls 5 [(0, .ref (ad 25)), (1, .ref (ad (34 + 4 * j1)))] := hl
  show W p l e rmShortener_zeroLiterals s m ([.ref (ad 25), .ref (ad (34 + 4 * j1))] : List Value).toArray below meth c s.heap [] 0 0 (zQv post D (zty cI cC cE) (34 + 4 * n) ad (zF ad cI cC cE n ln) A below ([.ref (ad 25), .ref (ad (34 + 4 * j1))] : List Value).toArray s) _
  have J7 : ∀ (fu : Nat) (v3 : Int32) (h : zM) (H : Heap) (locs : List Loc) (ls : Array Slot), zl (stShortener_zeroLiterals_7 n ln j1 post) fu (v3, h) → lv_has ls 5 [(0, .ref (ad 25)), (1, .ref (ad (34 + 4 * j1))), (2, .ref (ad (34 + 4 * j1 + 1))), (3, .int v3)] → va_P D zcl (zW (34 + 4 * n) ad (zF ad cI cC cE n ln) h) H → va_S A s.heap H locs → W p l e rmShortener_zeroLiterals s m ([.ref (ad 25), .ref (ad (34 + 4 * j1))] : List Value).toArray below meth c H locs 0 0 (zQv post D (zty cI cC cE) (34 + 4 * n) ad (zF ad cI cC cE n ln) A below ([.ref (ad 25), .ref (ad (34 + 4 * j1))] : List Value).toArray s) (F0 m 7 ls []) := by
    intro fu7
    induction fu7 with
    | zero =>
      intro v3 h H locs ls hw
      exact (zl_0 hw).elim
    | succ fu7 ih7 =>
      intro v3 h H locs ls hw hl hP hS
      have hw := zl_s hw
      generalize zl (stShortener_zeroLiterals_7 n ln j1 post) fu7 = L7 at hw ih7
      have J18 : ∀ (fu : Nat) (v3 : Int32) (v4 : Int32) (h : zM) (H : Heap) (locs : List Loc) (ls : Array Slot), zl (stShortener_zeroLiterals_18 n ln j1 post L7) fu (v3, v4, h) → lv_has ls 5 [(0, .ref (ad 25)), (1, .ref (ad (34 + 4 * j1))), (2, .ref (ad (34 + 4 * j1 + 1))), (3, .int v3), (4, .int v4)] → va_P D zcl (zW (34 + 4 * n) ad (zF ad cI cC cE n ln) h) H → va_S A s.heap H locs → W p l e rmShortener_zeroLiterals s m ([.ref (ad 25), .ref (ad (34 + 4 * j1))] : List Value).toArray below meth c H locs 0 0 (zQv post D (zty cI cC cE) (34 + 4 * n) ad (zF ad cI cC cE n ln) A below ([.ref (ad 25), .ref (ad (34 + 4 * j1))] : List Value).toArray s) (F0 m 18 ls []) := by
        intro fu18
        induction fu18 with
        | zero =>
          intro v3 v4 h H locs ls hw
          exact (zl_0 hw).elim
        | succ fu18 ih18 =>
          intro v3 v4 h H locs ls hw hl hP hS
          have hw := zl_s hw
          generalize zl (stShortener_zeroLiterals_18 n ln j1 post L7) fu18 = L18 at hw ih18
          have J70 : ∀ (v3 : Int32) (v4 : Int32) (h : zM) (H : Heap) (locs : List Loc) (ls : Array Slot), wbShortener_zeroLiterals_70 n ln j1 post L7 L18 v3 v4 h → lv_has ls 5 [(0, .ref (ad 25)), (1, .ref (ad (34 + 4 * j1))), (2, .ref (ad (34 + 4 * j1 + 1))), (3, .int v3), (4, .int v4)] → va_P D zcl (zW (34 + 4 * n) ad (zF ad cI cC cE n ln) h) H → va_S A s.heap H locs → W p l e rmShortener_zeroLiterals s m ([.ref (ad 25), .ref (ad (34 + 4 * j1))] : List Value).toArray below meth c H locs 0 0 (zQv post D (zty cI cC cE) (34 + 4 * n) ad (zF ad cI cC cE n ln) A below ([.ref (ad 25), .ref (ad (34 + 4 * j1))] : List Value).toArray s) (F0 m 70 ls []) := by
            intro v3 v4 h H locs ls hw hl hP hS
            unfold wbShortener_zeroLiterals_70 at hw
            refine lv_iinc (v := (v4 + 1)) (lv' := [(4, .int (v4 + 1)), (0, .ref (ad 25)), (1, .ref (ad (34 + 4 * j1))), (2, .ref (ad (34 + 4 * j1 + 1))), (3, .int v3)]) (k := 4) S.1 S.2.1 dShortener_zeroLiterals_70 hl rfl rfl (by decide) rfl (fun ls hl => ?_)
            refine lv_goto S.1 S.2.1 dShortener_zeroLiterals_73 rfl ?_
            exact ih18 _ _ _ _ _ _ hw (lv_sub hl [1, 2, 3, 4, 0] rfl) hP hS
          unfold stShortener_zeroLiterals_18 at hw
          dsimp only at hw
          refine lv_iload S.1 S.2.1 dShortener_zeroLiterals_18 (lv_at hl 4 rfl) ?_
          refine lv_iconst (v := 2) S.1 S.2.1 dShortener_zeroLiterals_20 (by decide) ?_
          refine lv_icmp_ge S.1 S.2.1 dShortener_zeroLiterals_21 rfl (fun hc => ?_) (fun hc => ?_)
          · have hw := hw.1 hc
            refine lv_iinc (v := (v3 + 1)) (lv' := [(3, .int (v3 + 1)), (0, .ref (ad 25)), (1, .ref (ad (34 + 4 * j1))), (2, .ref (ad (34 + 4 * j1 + 1))), (4, .int v4)]) (k := 3) S.1 S.2.1 dShortener_zeroLiterals_76 hl rfl rfl (by decide) rfl (fun ls hl => ?_)
            refine lv_goto S.1 S.2.1 dShortener_zeroLiterals_79 rfl ?_
            exact ih7 _ _ _ _ _ hw (lv_sub hl [1, 2, 3, 0] rfl) hP hS
          · have hw := hw.2 hc
            refine lv_aload_n S.1 S.2.1 dShortener_zeroLiterals_24 rfl (lv_at hl 2 rfl) ?_
            refine lv_iload_n S.1 S.2.1 dShortener_zeroLiterals_25 rfl (lv_at hl 3 rfl) ?_
            refine lv_iload S.1 S.2.1 dShortener_zeroLiterals_26 (lv_at hl 4 rfl) ?_
            refine zr_i (zr_V (As := [.int v3, .int v4]) (rest := []) S hK hT hN hP hS (zke 1 hj1) ((zFe_1 j1) _) rfl (cSequence_form l D (zty cI cC cE) (34 + 4 * n) ad (zF ad cI cC cE n ln) A hJ cI rfl (34 + 4 * j1 + 1) (zs_e hj1) _ _ _ _ hw) caShortener_83 ⟨Nat.le_of_ble_eq_true rfl, Nat.le_of_ble_eq_true rfl⟩ ⟨rfl, rfl⟩ rfl hl.1 rfl (Nat.le_of_ble_eq_true rfl) dShortener_zeroLiterals_28) hS (fun r28 h28 H locs hw hP hS => ?_)
            refine lv_iconst (v := 1) S.1 S.2.1 dShortener_zeroLiterals_31 (by decide) ?_
            refine lv_icmp_ne S.1 S.2.1 dShortener_zeroLiterals_32 rfl (fun hc => ?_) (fun hc => ?_)
            · have hw := hw.1 hc
              exact J70 _ _ _ _ _ _ hw (lv_sub hl [0, 1, 2, 3, 4] rfl) hP hS
            · have hw := hw.2 hc
              refine lv_aload_n S.1 S.2.1 dShortener_zeroLiterals_35 rfl (lv_at hl 2 rfl) ?_
              refine lv_iload_n S.1 S.2.1 dShortener_zeroLiterals_36 rfl (lv_at hl 3 rfl) ?_
              refine lv_iload S.1 S.2.1 dShortener_zeroLiterals_37 (lv_at hl 4 rfl) ?_
              refine zr_i (zr_V (As := [.int v3, .int v4]) (rest := []) S hK hT hN hP hS (zke 1 hj1) ((zFe_1 j1) _) rfl (cSequence_content l D (zty cI cC cE) (34 + 4 * n) ad (zF ad cI cC cE n ln) A hJ cI rfl (34 + 4 * j1 + 1) (zs_e hj1) _ _ _ _ hw) caShortener_65 ⟨Nat.le_of_ble_eq_true rfl, Nat.le_of_ble_eq_true rfl⟩ ⟨rfl, rfl⟩ rfl hl.1 rfl (Nat.le_of_ble_eq_true rfl) dShortener_zeroLiterals_39) hS (fun r39 h39 H locs hw hP hS => ?_)
              refine lv_if_eq S.1 S.2.1 dShortener_zeroLiterals_42 rfl (fun hc => ?_) (fun hc => ?_)
              · have hw := hw.1 hc
                exact J70 _ _ _ _ _ _ hw (lv_sub hl [0, 1, 2, 3, 4] rfl) hP hS
              · have hw := hw.2 hc
                refine lv_aload_n S.1 S.2.1 dShortener_zeroLiterals_45 rfl (lv_at hl 0 rfl) ?_
                refine zr_get S hK hP (zk (by decide)) (zF_25 _) fShortener_trial q231 rfl dShortener_zeroLiterals_46 ?_
                refine lv_aload_n S.1 S.2.1 dShortener_zeroLiterals_49 rfl (lv_at hl 2 rfl) ?_
                refine zr_v (zr_V (As := [.ref (ad (34 + 4 * j1 + 1))]) (rest := []) S hK hT hN hP hS (zk (by decide)) (zF_26 _) rfl (cSequence_copy l D (zty cI cC cE) (34 + 4 * n) ad (zF ad cI cC cE n ln) A hJ cI rfl 26 zs_26 (34 + 4 * j1 + 1) (zs_e hj1) _ _ hw) caShortener_57 ⟨Nat.le_of_ble_eq_true rfl, Nat.le_of_ble_eq_true rfl⟩ ⟨rfl, rfl⟩ rfl hl.1 rfl (Nat.le_of_ble_eq_true rfl) dShortener_zeroLiterals_50) hS (fun h50 H locs hw hP hS => ?_)
                refine lv_aload_n S.1 S.2.1 dShortener_zeroLiterals_53 rfl (lv_at hl 0 rfl) ?_
                refine zr_get S hK hP (zk (by decide)) (zF_25 _) fShortener_trial q231 rfl dShortener_zeroLiterals_54 ?_
                refine lv_iload_n S.1 S.2.1 dShortener_zeroLiterals_57 rfl (lv_at hl 3 rfl) ?_
                refine lv_iload S.1 S.2.1 dShortener_zeroLiterals_58 (lv_at hl 4 rfl) ?_
                refine lv_iconst (v := 1) S.1 S.2.1 dShortener_zeroLiterals_60 (by decide) ?_
                refine lv_iconst (v := 0) S.1 S.2.1 dShortener_zeroLiterals_61 (by decide) ?_
                refine zr_v (zr_V (As := [.int v3, .int v4, .int 1, .int 0]) (rest := []) S hK hT hN hP hS (zk (by decide)) (zF_26 _) rfl (cSequence_setArgument l D (zty cI cC cE) (34 + 4 * n) ad (zF ad cI cC cE n ln) A hJ cI rfl 26 zs_26 _ _ _ _ _ _ hw) caShortener_61 ⟨Nat.le_of_ble_eq_true rfl, Nat.le_of_ble_eq_true rfl⟩ ⟨rfl, rfl⟩ rfl hl.1 rfl (Nat.le_of_ble_eq_true rfl) dShortener_zeroLiterals_62) hS (fun h62 H locs hw hP hS => ?_)
                refine lv_aload_n S.1 S.2.1 dShortener_zeroLiterals_65 rfl (lv_at hl 0 rfl) ?_
                refine lv_aload_n S.1 S.2.1 dShortener_zeroLiterals_66 rfl (lv_at hl 1 rfl) ?_
                refine zr_v (zr_V (As := [.ref (ad (34 + 4 * j1))]) (rest := []) S hK hT hN hP hS (zk (by decide)) (zF_25 _) rfl (cShortener_keepIfSame l D cI cC cE ad n ln A hJ j1 hj1 _ _ hw) caShortener_43 ⟨Nat.le_of_ble_eq_true rfl, Nat.le_of_ble_eq_true rfl⟩ ⟨rfl, rfl⟩ rfl hl.1 rfl (Nat.le_of_ble_eq_true rfl) dShortener_zeroLiterals_67) hS (fun h67 H locs hw hP hS => ?_)
                exact J70 _ _ _ _ _ _ hw (lv_sub hl [0, 1, 2, 3, 4] rfl) hP hS
      unfold stShortener_zeroLiterals_7 at hw
      dsimp only at hw
      refine lv_iload_n S.1 S.2.1 dShortener_zeroLiterals_7 rfl (lv_at hl 3 rfl) ?_
      refine lv_aload_n S.1 S.2.1 dShortener_zeroLiterals_8 rfl (lv_at hl 2 rfl) ?_
      refine zr_get S hK hP (zke 1 hj1) ((zFe_1 j1) _) fSequence_size q177 rfl dShortener_zeroLiterals_9 ?_
      refine lv_icmp_ge S.1 S.2.1 dShortener_zeroLiterals_12 rfl (fun hc => ?_) (fun hc => ?_)
      · have hw := hw.1 hc
        exact zr_vret S hr hlk hK hP hS hw dShortener_zeroLiterals_82
      · have hw := hw.2 hc
        refine lv_iconst (v := 0) S.1 S.2.1 dShortener_zeroLiterals_15 (by decide) ?_
        refine lv_istore (lv' := [(4, .int 0), (0, .ref (ad 25)), (1, .ref (ad (34 + 4 * j1))), (2, .ref (ad (34 + 4 * j1 + 1))), (3, .int v3)]) S.1 S.2.1 dShortener_zeroLiterals_16 hl (by decide) rfl (fun ls hl => ?_)
        obtain ⟨fu, hw⟩ := hw
        exact J18 fu _ _ _ _ _ _ hw (lv_sub hl [1, 2, 3, 4, 0] rfl) hP hS
  unfold wpShortener_zeroLiterals at hw
  refine lv_aload_n S.1 S.2.1 dShortener_zeroLiterals_0 rfl (lv_at hl 1 rfl) ?_
  refine zr_get S hK hP (zke0 hj1) ((zFe_0 j1) _) fEntry_sequence q600 rfl dShortener_zeroLiterals_1 ?_
  refine lv_astore_n (lv' := [(2, .ref (ad (34 + 4 * j1 + 1))), (0, .ref (ad 25)), (1, .ref (ad (34 + 4 * j1)))]) S.1 S.2.1 dShortener_zeroLiterals_4 rfl hl (by decide) rfl (fun ls hl => ?_)
  refine lv_iconst (v := 0) S.1 S.2.1 dShortener_zeroLiterals_5 (by decide) ?_
  refine lv_istore_n (lv' := [(3, .int 0), (2, .ref (ad (34 + 4 * j1 + 1))), (0, .ref (ad 25)), (1, .ref (ad (34 + 4 * j1)))]) S.1 S.2.1 dShortener_zeroLiterals_6 rfl hl (by decide) rfl (fun ls hl => ?_)
  obtain ⟨fu, hw⟩ := hw
  exact J7 fu _ _ _ _ _ hw (lv_sub hl [2, 3, 1, 0] rfl) hP hS
