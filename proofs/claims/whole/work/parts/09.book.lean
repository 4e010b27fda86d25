/-! predicates and contracts, printed by wip/whole/gen -/
/-! Entry.hasShapeOf -/
theorem dEntry_hasShapeOf_0 : decode bEntry_hasShapeOf 0 = .ok (.aload_n 0, 1) := by decide +kernel
theorem dEntry_hasShapeOf_1 : decode bEntry_hasShapeOf 1 = .ok (.getfield 36, 3) := by decide +kernel
theorem dEntry_hasShapeOf_4 : decode bEntry_hasShapeOf 4 = .ok (.aload_n 1, 1) := by decide +kernel
theorem dEntry_hasShapeOf_5 : decode bEntry_hasShapeOf 5 = .ok (.getfield 33, 3) := by decide +kernel
theorem dEntry_hasShapeOf_8 : decode bEntry_hasShapeOf 8 = .ok (.if_icmp .ne 26, 3) := by decide +kernel
theorem dEntry_hasShapeOf_11 : decode bEntry_hasShapeOf 11 = .ok (.aload_n 0, 1) := by decide +kernel
theorem dEntry_hasShapeOf_12 : decode bEntry_hasShapeOf 12 = .ok (.getfield 40, 3) := by decide +kernel
theorem dEntry_hasShapeOf_15 : decode bEntry_hasShapeOf 15 = .ok (.aload_n 1, 1) := by decide +kernel
theorem dEntry_hasShapeOf_16 : decode bEntry_hasShapeOf 16 = .ok (.getfield 37, 3) := by decide +kernel
theorem dEntry_hasShapeOf_19 : decode bEntry_hasShapeOf 19 = .ok (.if_icmp .ne 15, 3) := by decide +kernel
theorem dEntry_hasShapeOf_22 : decode bEntry_hasShapeOf 22 = .ok (.aload_n 0, 1) := by decide +kernel
theorem dEntry_hasShapeOf_23 : decode bEntry_hasShapeOf 23 = .ok (.getfield 54, 3) := by decide +kernel
theorem dEntry_hasShapeOf_26 : decode bEntry_hasShapeOf 26 = .ok (.arraylength, 1) := by decide +kernel
theorem dEntry_hasShapeOf_27 : decode bEntry_hasShapeOf 27 = .ok (.aload_n 1, 1) := by decide +kernel
theorem dEntry_hasShapeOf_28 : decode bEntry_hasShapeOf 28 = .ok (.getfield 45, 3) := by decide +kernel
theorem dEntry_hasShapeOf_31 : decode bEntry_hasShapeOf 31 = .ok (.if_icmp .eq 5, 3) := by decide +kernel
theorem dEntry_hasShapeOf_34 : decode bEntry_hasShapeOf 34 = .ok (.iconst 0, 1) := by decide +kernel
theorem dEntry_hasShapeOf_35 : decode bEntry_hasShapeOf 35 = .ok (.ireturn, 1) := by decide +kernel
theorem dEntry_hasShapeOf_36 : decode bEntry_hasShapeOf 36 = .ok (.iconst 0, 1) := by decide +kernel
theorem dEntry_hasShapeOf_37 : decode bEntry_hasShapeOf 37 = .ok (.istore_n 2, 1) := by decide +kernel
theorem dEntry_hasShapeOf_38 : decode bEntry_hasShapeOf 38 = .ok (.iload_n 2, 1) := by decide +kernel
theorem dEntry_hasShapeOf_39 : decode bEntry_hasShapeOf 39 = .ok (.aload_n 0, 1) := by decide +kernel
theorem dEntry_hasShapeOf_40 : decode bEntry_hasShapeOf 40 = .ok (.getfield 54, 3) := by decide +kernel
theorem dEntry_hasShapeOf_43 : decode bEntry_hasShapeOf 43 = .ok (.arraylength, 1) := by decide +kernel
theorem dEntry_hasShapeOf_44 : decode bEntry_hasShapeOf 44 = .ok (.if_icmp .ge 26, 3) := by decide +kernel
theorem dEntry_hasShapeOf_47 : decode bEntry_hasShapeOf 47 = .ok (.aload_n 0, 1) := by decide +kernel
theorem dEntry_hasShapeOf_48 : decode bEntry_hasShapeOf 48 = .ok (.getfield 54, 3) := by decide +kernel
theorem dEntry_hasShapeOf_51 : decode bEntry_hasShapeOf 51 = .ok (.iload_n 2, 1) := by decide +kernel
theorem dEntry_hasShapeOf_52 : decode bEntry_hasShapeOf 52 = .ok (.iaload, 1) := by decide +kernel
theorem dEntry_hasShapeOf_53 : decode bEntry_hasShapeOf 53 = .ok (.aload_n 1, 1) := by decide +kernel
theorem dEntry_hasShapeOf_54 : decode bEntry_hasShapeOf 54 = .ok (.getfield 41, 3) := by decide +kernel
theorem dEntry_hasShapeOf_57 : decode bEntry_hasShapeOf 57 = .ok (.iload_n 2, 1) := by decide +kernel
theorem dEntry_hasShapeOf_58 : decode bEntry_hasShapeOf 58 = .ok (.iaload, 1) := by decide +kernel
theorem dEntry_hasShapeOf_59 : decode bEntry_hasShapeOf 59 = .ok (.if_icmp .eq 5, 3) := by decide +kernel
theorem dEntry_hasShapeOf_62 : decode bEntry_hasShapeOf 62 = .ok (.iconst 0, 1) := by decide +kernel
theorem dEntry_hasShapeOf_63 : decode bEntry_hasShapeOf 63 = .ok (.ireturn, 1) := by decide +kernel
theorem dEntry_hasShapeOf_64 : decode bEntry_hasShapeOf 64 = .ok (.iinc 2 1, 3) := by decide +kernel
theorem dEntry_hasShapeOf_67 : decode bEntry_hasShapeOf 67 = .ok (.goto (-29), 3) := by decide +kernel
theorem dEntry_hasShapeOf_70 : decode bEntry_hasShapeOf 70 = .ok (.iconst 1, 1) := by decide +kernel
theorem dEntry_hasShapeOf_71 : decode bEntry_hasShapeOf 71 = .ok (.ireturn, 1) := by decide +kernel
def stEntry_hasShapeOf_38 (n : Nat) (ln : Nat → Nat) (j0 : Nat) (post : Int32 → zM → Prop) (L38 : (Int32 × zM) → Prop) : (Int32 × zM) → Prop := fun s => match s with
  | (v2, h) => ((((nI (ln j0)) ≤ v2) → post 1 h) ∧ (¬ ((nI (ln j0)) ≤ v2) → (vp_in v2 (ln j0) ∧ (vp_in v2 20 ∧ (((h (34 + 4 * j0 + 3) (Int32.toNatClampNeg v2)) = (h 14 (Int32.toNatClampNeg v2)) → L38 ((v2 + 1), h)) ∧ (¬ (h (34 + 4 * j0 + 3) (Int32.toNatClampNeg v2)) = (h 14 (Int32.toNatClampNeg v2)) → post 0 h))))))
def wpEntry_hasShapeOf (n : Nat) (ln : Nat → Nat) (j0 : Nat) (h : zM) (post : Int32 → zM → Prop) : Prop := ((¬ (h (34 + 4 * j0) 4) = (h 12 5) → post 0 h) ∧ ((h (34 + 4 * j0) 4) = (h 12 5) → ((¬ (h (34 + 4 * j0) 5) = (h 12 6) → post 0 h) ∧ ((h (34 + 4 * j0) 5) = (h 12 6) → (((nI (ln j0)) = (h 12 7) → zL (stEntry_hasShapeOf_38 n ln j0 post) (0, h)) ∧ (¬ (nI (ln j0)) = (h 12 7) → post 0 h))))))
abbrev rmEntry_hasShapeOf : Room := { frames := 0, cells := 0, slots := 0, locals := 0 }
set_option maxHeartbeats 4000000 in
set_option maxRecDepth 100000 in
theorem cEntry_hasShapeOf (l : Launch) (D : va_G) (cI cC cE : ClassId) (ad : Nat → Nat) (n : Nat) (ln : Nat → Nat) (A : Nat → Prop) (hJ : zJ A (34 + 4 * n) ad) (j0 : Nat) (hj0 : j0 < n) (h : zM) (post : Int32 → zM → Prop) (hw : wpEntry_hasShapeOf n ln j0 h post) : Met l yEntry_hasShapeOf (.code yEntry_hasShapeOf bEntry_hasShapeOf 3 (some .boolean) :: zt) rmEntry_hasShapeOf (va_Pc [.ref (ad (34 + 4 * j0)), .ref (ad 12)] (zPre D (zty cI cC cE) (34 + 4 * n) ad (zF ad cI cC cE n ln) A h)) (va_Qi post (zPst D (zty cI cC cE) (34 + 4 * n) ad (zF ad cI cC cE n ln)) A) 0 0 A := by
  refine Met.ofW (cc := bEntry_hasShapeOf) (maxL := 3) (ret := (some .boolean)) (by decide) rfl ?_
  intro p e s m args below meth c s₁ B hml hv
  obtain ⟨rfl, hP, hK, hT, hN⟩ := hv
  have hr := B.returns
  have hlk := B.notSynchronized
  have S : zS p m c bEntry_hasShapeOf 3 s _ "CallExplorer$Entry" := ⟨B.exec, B.bytes, hml, findClass_of_methodNamed B.named, fun w hw => atoms_spec (ws := .code yEntry_hasShapeOf bEntry_hasShapeOf 3 (some .boolean) :: zt) B.pre w (List.mem_cons_of_mem _ hw)⟩
  have hS : va_S A s.heap s.heap [] := va_S.rf
  have hl := lv_entry ([.ref (ad (34 + 4 * j0)), .ref (ad 12)]) (n := 3) (Nat.le_of_ble_eq_true rfl)
  rw [lg_entry_eq]
  generalize (lg_sl ([.ref (ad (34 + 4 * j0)), .ref (ad 12)]) ++ List.replicate (3 - (lg_sl ([.ref (ad (34 + 4 * j0)), .ref (ad 12)])).length) Slot.unset).toArray = ls at hl ⊢
  have hl : lv_has ls 3 [(0, .ref (ad (34 + 4 * j0))), (1, .ref (ad 12))] := hl
  show W p l e rmEntry_hasShapeOf s m ([.ref (ad (34 + 4 * j0)), .ref (ad 12)] : List Value).toArray below meth c s.heap [] 0 0 (zQi post D (zty cI cC cE) (34 + 4 * n) ad (zF ad cI cC cE n ln) A below ([.ref (ad (34 + 4 * j0)), .ref (ad 12)] : List Value).toArray s) _
  have J38 : ∀ (fu : Nat) (v2 : Int32) (h : zM) (H : Heap) (locs : List Loc) (ls : Array Slot), zl (stEntry_hasShapeOf_38 n ln j0 post) fu (v2, h) → lv_has ls 3 [(0, .ref (ad (34 + 4 * j0))), (1, .ref (ad 12)), (2, .int v2)] → va_P D zcl (zW (34 + 4 * n) ad (zF ad cI cC cE n ln) h) H → va_S A s.heap H locs → W p l e rmEntry_hasShapeOf s m ([.ref (ad (34 + 4 * j0)), .ref (ad 12)] : List Value).toArray below meth c H locs 0 0 (zQi post D (zty cI cC cE) (34 + 4 * n) ad (zF ad cI cC cE n ln) A below ([.ref (ad (34 + 4 * j0)), .ref (ad 12)] : List Value).toArray s) (F0 m 38 ls []) := by
    intro fu38
    induction fu38 with
    | zero =>
      intro v2 h H locs ls hw
      exact (zl_0 hw).elim
    | succ fu38 ih38 =>
      intro v2 h H locs ls hw hl hP hS
      have hw := zl_s hw
      generalize zl (stEntry_hasShapeOf_38 n ln j0 post) fu38 = L38 at hw ih38
      unfold stEntry_hasShapeOf_38 at hw
      dsimp only at hw
      refine lv_iload_n S.1 S.2.1 dEntry_hasShapeOf_38 rfl (lv_at hl 2 rfl) ?_
      refine lv_aload_n S.1 S.2.1 dEntry_hasShapeOf_39 rfl (lv_at hl 0 rfl) ?_
      refine zr_get S hK hP (zke0 hj0) ((zFe_0 j0) _) fEntry_row q622 rfl dEntry_hasShapeOf_40 ?_
      refine zr_len S hK hP (zke 3 hj0) ((zFe_3 j0) _) 0 rfl dEntry_hasShapeOf_43 ?_
      refine lv_icmp_ge S.1 S.2.1 dEntry_hasShapeOf_44 rfl (fun hc => ?_) (fun hc => ?_)
      · have hw := hw.1 hc
        refine lv_iconst (v := 1) S.1 S.2.1 dEntry_hasShapeOf_70 (by decide) ?_
        exact zr_iret S hr hlk hK hP hS rfl hw dEntry_hasShapeOf_71
      · have hw := hw.2 hc
        refine lv_aload_n S.1 S.2.1 dEntry_hasShapeOf_47 rfl (lv_at hl 0 rfl) ?_
        refine zr_get S hK hP (zke0 hj0) ((zFe_0 j0) _) fEntry_row q622 rfl dEntry_hasShapeOf_48 ?_
        refine lv_iload_n S.1 S.2.1 dEntry_hasShapeOf_51 rfl (lv_at hl 2 rfl) ?_
        obtain ⟨z52, hw⟩ := hw
        refine zr_ald S hK hP (zke 3 hj0) ((zFe_3 j0) _) 0 rfl z52 dEntry_hasShapeOf_52 ?_
        refine lv_aload_n S.1 S.2.1 dEntry_hasShapeOf_53 rfl (lv_at hl 1 rfl) ?_
        refine zr_get S hK hP (zk (by decide)) (zF_12 _) fRunner_row q145 rfl dEntry_hasShapeOf_54 ?_
        refine lv_iload_n S.1 S.2.1 dEntry_hasShapeOf_57 rfl (lv_at hl 2 rfl) ?_
        obtain ⟨z58, hw⟩ := hw
        refine zr_ald S hK hP (zk (by decide)) (zF_14 _) 0 rfl z58 dEntry_hasShapeOf_58 ?_
        refine lv_icmp_eq S.1 S.2.1 dEntry_hasShapeOf_59 rfl (fun hc => ?_) (fun hc => ?_)
        · have hw := hw.1 hc
          refine lv_iinc (v := (v2 + 1)) (lv' := [(2, .int (v2 + 1)), (0, .ref (ad (34 + 4 * j0))), (1, .ref (ad 12))]) (k := 2) S.1 S.2.1 dEntry_hasShapeOf_64 hl rfl rfl (by decide) rfl (fun ls hl => ?_)
          refine lv_goto S.1 S.2.1 dEntry_hasShapeOf_67 rfl ?_
          exact ih38 _ _ _ _ _ hw (lv_sub hl [1, 2, 0] rfl) hP hS
        · have hw := hw.2 hc
          refine lv_iconst (v := 0) S.1 S.2.1 dEntry_hasShapeOf_62 (by decide) ?_
          exact zr_iret S hr hlk hK hP hS rfl hw dEntry_hasShapeOf_63
  unfold wpEntry_hasShapeOf at hw
  refine lv_aload_n S.1 S.2.1 dEntry_hasShapeOf_0 rfl (lv_at hl 0 rfl) ?_
  refine zr_get S hK hP (zke0 hj0) ((zFe_0 j0) _) fEntry_gave q617 rfl dEntry_hasShapeOf_1 ?_
  refine lv_aload_n S.1 S.2.1 dEntry_hasShapeOf_4 rfl (lv_at hl 1 rfl) ?_
  refine zr_get S hK hP (zk (by decide)) (zF_12 _) fRunner_gave q136 rfl dEntry_hasShapeOf_5 ?_
  refine lv_icmp_ne S.1 S.2.1 dEntry_hasShapeOf_8 rfl (fun hc => ?_) (fun hc => ?_)
  · have hw := hw.1 hc
    refine lv_iconst (v := 0) S.1 S.2.1 dEntry_hasShapeOf_34 (by decide) ?_
    exact zr_iret S hr hlk hK hP hS rfl hw dEntry_hasShapeOf_35
  · have hw := hw.2 hc
    refine lv_aload_n S.1 S.2.1 dEntry_hasShapeOf_11 rfl (lv_at hl 0 rfl) ?_
    refine zr_get S hK hP (zke0 hj0) ((zFe_0 j0) _) fEntry_number q619 rfl dEntry_hasShapeOf_12 ?_
    refine lv_aload_n S.1 S.2.1 dEntry_hasShapeOf_15 rfl (lv_at hl 1 rfl) ?_
    refine zr_get S hK hP (zk (by decide)) (zF_12 _) fRunner_number q139 rfl dEntry_hasShapeOf_16 ?_
    refine lv_icmp_ne S.1 S.2.1 dEntry_hasShapeOf_19 rfl (fun hc => ?_) (fun hc => ?_)
    · have hw := hw.1 hc
      refine lv_iconst (v := 0) S.1 S.2.1 dEntry_hasShapeOf_34 (by decide) ?_
      exact zr_iret S hr hlk hK hP hS rfl hw dEntry_hasShapeOf_35
    · have hw := hw.2 hc
      refine lv_aload_n S.1 S.2.1 dEntry_hasShapeOf_22 rfl (lv_at hl 0 rfl) ?_
      refine zr_get S hK hP (zke0 hj0) ((zFe_0 j0) _) fEntry_row q622 rfl dEntry_hasShapeOf_23 ?_
      refine zr_len S hK hP (zke 3 hj0) ((zFe_3 j0) _) 0 rfl dEntry_hasShapeOf_26 ?_
      refine lv_aload_n S.1 S.2.1 dEntry_hasShapeOf_27 rfl (lv_at hl 1 rfl) ?_
      refine zr_get S hK hP (zk (by decide)) (zF_12 _) fRunner_rowLength q142 rfl dEntry_hasShapeOf_28 ?_
      refine lv_icmp_eq S.1 S.2.1 dEntry_hasShapeOf_31 rfl (fun hc => ?_) (fun hc => ?_)
      · have hw := hw.1 hc
        refine lv_iconst (v := 0) S.1 S.2.1 dEntry_hasShapeOf_36 (by decide) ?_
        refine lv_istore_n (lv' := [(2, .int 0), (0, .ref (ad (34 + 4 * j0))), (1, .ref (ad 12))]) S.1 S.2.1 dEntry_hasShapeOf_37 rfl hl (by decide) rfl (fun ls hl => ?_)
        obtain ⟨fu, hw⟩ := hw
        exact J38 fu _ _ _ _ _ hw (lv_sub hl [1, 2, 0] rfl) hP hS
      · have hw := hw.2 hc
        refine lv_iconst (v := 0) S.1 S.2.1 dEntry_hasShapeOf_34 (by decide) ?_
        exact zr_iret S hr hlk hK hP hS rfl hw dEntry_hasShapeOf_35
/-! Book.isFull -/
theorem dBook_isFull_0 : decode bBook_isFull 0 = .ok (.aload_n 0, 1) := by decide +kernel
theorem dBook_isFull_1 : decode bBook_isFull 1 = .ok (.getfield 25, 3) := by decide +kernel
theorem dBook_isFull_4 : decode bBook_isFull 4 = .ok (.bipush 40, 2) := by decide +kernel
theorem dBook_isFull_6 : decode bBook_isFull 6 = .ok (.if_icmp .lt 7, 3) := by decide +kernel
theorem dBook_isFull_9 : decode bBook_isFull 9 = .ok (.iconst 1, 1) := by decide +kernel
theorem dBook_isFull_10 : decode bBook_isFull 10 = .ok (.goto 4, 3) := by decide +kernel
theorem dBook_isFull_13 : decode bBook_isFull 13 = .ok (.iconst 0, 1) := by decide +kernel
theorem dBook_isFull_14 : decode bBook_isFull 14 = .ok (.ireturn, 1) := by decide +kernel
def wpBook_isFull (n : Nat) (ln : Nat → Nat) (h : zM) (post : Int32 → zM → Prop) : Prop := ((((h 9 1) < 40) → post 0 h) ∧ (¬ ((h 9 1) < 40) → post 1 h))
abbrev rmBook_isFull : Room := { frames := 0, cells := 0, slots := 0, locals := 0 }
set_option maxHeartbeats 4000000 in
set_option maxRecDepth 100000 in
theorem cBook_isFull (l : Launch) (D : va_G) (cI cC cE : ClassId) (ad : Nat → Nat) (n : Nat) (ln : Nat → Nat) (A : Nat → Prop) (hJ : zJ A (34 + 4 * n) ad) (h : zM) (post : Int32 → zM → Prop) (hw : wpBook_isFull n ln h post) : Met l yBook_isFull (.code yBook_isFull bBook_isFull 1 (some .boolean) :: zt) rmBook_isFull (va_Pc [.ref (ad 9)] (zPre D (zty cI cC cE) (34 + 4 * n) ad (zF ad cI cC cE n ln) A h)) (va_Qi post (zPst D (zty cI cC cE) (34 + 4 * n) ad (zF ad cI cC cE n ln)) A) 0 0 A := by
  refine Met.ofW (cc := bBook_isFull) (maxL := 1) (ret := (some .boolean)) (by decide) rfl ?_
  intro p e s m args below meth c s₁ B hml hv
  obtain ⟨rfl, hP, hK, hT, hN⟩ := hv
  have hr := B.returns
  have hlk := B.notSynchronized
  have S : zS p m c bBook_isFull 1 s _ "CallExplorer$Book" := ⟨B.exec, B.bytes, hml, findClass_of_methodNamed B.named, fun w hw => atoms_spec (ws := .code yBook_isFull bBook_isFull 1 (some .boolean) :: zt) B.pre w (List.mem_cons_of_mem _ hw)⟩
  have hS : va_S A s.heap s.heap [] := va_S.rf
  have hl := lv_entry ([.ref (ad 9)]) (n := 1) (Nat.le_of_ble_eq_true rfl)
  rw [lg_entry_eq]
  generalize (lg_sl ([.ref (ad 9)]) ++ List.replicate (1 - (lg_sl ([.ref (ad 9)])).length) Slot.unset).toArray = ls at hl ⊢
  have hl : lv_has ls 1 [(0, .ref (ad 9))] := hl
  show W p l e rmBook_isFull s m ([.ref (ad 9)] : List Value).toArray below meth c s.heap [] 0 0 (zQi post D (zty cI cC cE) (34 + 4 * n) ad (zF ad cI cC cE n ln) A below ([.ref (ad 9)] : List Value).toArray s) _
  unfold wpBook_isFull at hw
  refine lv_aload_n S.1 S.2.1 dBook_isFull_0 rfl (lv_at hl 0 rfl) ?_
  refine zr_get S hK hP (zk (by decide)) (zF_9 _) fBook_size q78 rfl dBook_isFull_1 ?_
  refine lv_bipush (v := 40) S.1 S.2.1 dBook_isFull_4 (by decide) ?_
  refine lv_icmp_lt S.1 S.2.1 dBook_isFull_6 rfl (fun hc => ?_) (fun hc => ?_)
  · have hw := hw.1 hc
    refine lv_iconst (v := 0) S.1 S.2.1 dBook_isFull_13 (by decide) ?_
    exact zr_iret S hr hlk hK hP hS rfl hw dBook_isFull_14
  · have hw := hw.2 hc
    refine lv_iconst (v := 1) S.1 S.2.1 dBook_isFull_9 (by decide) ?_
    refine lv_goto S.1 S.2.1 dBook_isFull_10 rfl ?_
    exact zr_iret S hr hlk hK hP hS rfl hw dBook_isFull_14
/-! Book.get -/
theorem dBook_get_0 : decode bBook_get 0 = .ok (.iload_n 1, 1) := by decide +kernel
theorem dBook_get_1 : decode bBook_get 1 = .ok (.ifCond .lt 20, 3) := by decide +kernel
theorem dBook_get_4 : decode bBook_get 4 = .ok (.iload_n 1, 1) := by decide +kernel
theorem dBook_get_5 : decode bBook_get 5 = .ok (.aload_n 0, 1) := by decide +kernel
theorem dBook_get_6 : decode bBook_get 6 = .ok (.getfield 25, 3) := by decide +kernel
theorem dBook_get_9 : decode bBook_get 9 = .ok (.if_icmp .ge 12, 3) := by decide +kernel
theorem dBook_get_12 : decode bBook_get 12 = .ok (.aload_n 0, 1) := by decide +kernel
theorem dBook_get_13 : decode bBook_get 13 = .ok (.getfield 11, 3) := by decide +kernel
theorem dBook_get_16 : decode bBook_get 16 = .ok (.iload_n 1, 1) := by decide +kernel
theorem dBook_get_17 : decode bBook_get 17 = .ok (.aaload, 1) := by decide +kernel
theorem dBook_get_18 : decode bBook_get 18 = .ok (.goto 4, 3) := by decide +kernel
theorem dBook_get_21 : decode bBook_get 21 = .ok (.aconst_null, 1) := by decide +kernel
theorem dBook_get_22 : decode bBook_get 22 = .ok (.areturn, 1) := by decide +kernel
def wpBook_get (n : Nat) (ln : Nat → Nat) (x1 : Int32) (h : zM) (post : Option Nat → zM → Prop) : Prop := (((x1 < 0) → post none h) ∧ (¬ (x1 < 0) → ((((h 9 1) ≤ x1) → post none h) ∧ (¬ ((h 9 1) ≤ x1) → (vp_in x1 40 ∧ (Int32.toNatClampNeg x1) < n ∧ post (some (Int32.toNatClampNeg x1)) h)))))
abbrev rmBook_get : Room := { frames := 0, cells := 0, slots := 0, locals := 0 }
set_option maxHeartbeats 4000000 in
set_option maxRecDepth 100000 in
theorem cBook_get (l : Launch) (D : va_G) (cI cC cE : ClassId) (ad : Nat → Nat) (n : Nat) (ln : Nat → Nat) (A : Nat → Prop) (hJ : zJ A (34 + 4 * n) ad) (x1 : Int32) (h : zM) (post : Option Nat → zM → Prop) (hw : wpBook_get n ln x1 h post) : Met l yBook_get (.code yBook_get bBook_get 2 (some ((.object "CallExplorer$Entry"))) :: zt) rmBook_get (va_Pc [.ref (ad 9), .int x1] (zPre D (zty cI cC cE) (34 + 4 * n) ad (zF ad cI cC cE n ln) A h)) (va_Qe (fun j => ad (34 + 4 * j)) post (zPst D (zty cI cC cE) (34 + 4 * n) ad (zF ad cI cC cE n ln)) A) 0 0 A := by
  refine Met.ofW (cc := bBook_get) (maxL := 2) (ret := (some ((.object "CallExplorer$Entry")))) (by decide) rfl ?_
  intro p e s m args below meth c s₁ B hml hv
  obtain ⟨rfl, hP, hK, hT, hN⟩ := hv
  have hr := B.returns
  have hlk := B.notSynchronized
  have S : zS p m c bBook_get 2 s _ "CallExplorer$Book" := ⟨B.exec, B.bytes, hml, findClass_of_methodNamed B.named, fun w hw => atoms_spec (ws := .code yBook_get bBook_get 2 (some ((.object "CallExplorer$Entry"))) :: zt) B.pre w (List.mem_cons_of_mem _ hw)⟩
  have hS : va_S A s.heap s.heap [] := va_S.rf
  have hl := lv_entry ([.ref (ad 9), .int x1]) (n := 2) (Nat.le_of_ble_eq_true rfl)
  rw [lg_entry_eq]
  generalize (lg_sl ([.ref (ad 9), .int x1]) ++ List.replicate (2 - (lg_sl ([.ref (ad 9), .int x1])).length) Slot.unset).toArray = ls at hl ⊢
  have hl : lv_has ls 2 [(0, .ref (ad 9)), (1, .int x1)] := hl
  show W p l e rmBook_get s m ([.ref (ad 9), .int x1] : List Value).toArray below meth c s.heap [] 0 0 (zQe (fun j => ad (34 + 4 * j)) post D (zty cI cC cE) (34 + 4 * n) ad (zF ad cI cC cE n ln) A below ([.ref (ad 9), .int x1] : List Value).toArray s) _
  unfold wpBook_get at hw
  refine lv_iload_n S.1 S.2.1 dBook_get_0 rfl (lv_at hl 1 rfl) ?_
  refine lv_if_lt S.1 S.2.1 dBook_get_1 rfl (fun hc => ?_) (fun hc => ?_)
  · have hw := hw.1 hc
    refine lv_null S.1 S.2.1 dBook_get_21 ?_
    exact zr_eret (r := none) S hr (Or.inl ⟨_, rfl⟩) hlk hK hP hS rfl hw dBook_get_22
  · have hw := hw.2 hc
    refine lv_iload_n S.1 S.2.1 dBook_get_4 rfl (lv_at hl 1 rfl) ?_
    refine lv_aload_n S.1 S.2.1 dBook_get_5 rfl (lv_at hl 0 rfl) ?_
    refine zr_get S hK hP (zk (by decide)) (zF_9 _) fBook_size q78 rfl dBook_get_6 ?_
    refine lv_icmp_ge S.1 S.2.1 dBook_get_9 rfl (fun hc => ?_) (fun hc => ?_)
    · have hw := hw.1 hc
      refine lv_null S.1 S.2.1 dBook_get_21 ?_
      exact zr_eret (r := none) S hr (Or.inl ⟨_, rfl⟩) hlk hK hP hS rfl hw dBook_get_22
    · have hw := hw.2 hc
      refine lv_aload_n S.1 S.2.1 dBook_get_12 rfl (lv_at hl 0 rfl) ?_
      refine zr_get S hK hP (zk (by decide)) (zF_9 _) fBook_rows q80 rfl dBook_get_13 ?_
      refine lv_iload_n S.1 S.2.1 dBook_get_16 rfl (lv_at hl 1 rfl) ?_
      obtain ⟨z17, hj17_, hw⟩ := hw
      refine zr_row S hK hP (zk (by decide)) (zF_10 _) 2 rfl z17 (if_pos hj17_) dBook_get_17 ?_
      refine lv_goto S.1 S.2.1 dBook_get_18 rfl ?_
      exact zr_eret (r := (some (Int32.toNatClampNeg x1))) S hr (Or.inl ⟨_, rfl⟩) hlk hK hP hS rfl hw dBook_get_22
/-! Book.knowsShape -/
theorem dBook_knowsShape_0 : decode bBook_knowsShape 0 = .ok (.iconst 0, 1) := by decide +kernel
theorem dBook_knowsShape_1 : decode bBook_knowsShape 1 = .ok (.istore_n 2, 1) := by decide +kernel
theorem dBook_knowsShape_2 : decode bBook_knowsShape 2 = .ok (.iload_n 2, 1) := by decide +kernel
theorem dBook_knowsShape_3 : decode bBook_knowsShape 3 = .ok (.aload_n 0, 1) := by decide +kernel
theorem dBook_knowsShape_4 : decode bBook_knowsShape 4 = .ok (.getfield 25, 3) := by decide +kernel
theorem dBook_knowsShape_7 : decode bBook_knowsShape 7 = .ok (.if_icmp .ge 36, 3) := by decide +kernel
theorem dBook_knowsShape_10 : decode bBook_knowsShape 10 = .ok (.aload_n 0, 1) := by decide +kernel
theorem dBook_knowsShape_11 : decode bBook_knowsShape 11 = .ok (.getfield 11, 3) := by decide +kernel
theorem dBook_knowsShape_14 : decode bBook_knowsShape 14 = .ok (.iload_n 2, 1) := by decide +kernel
theorem dBook_knowsShape_15 : decode bBook_knowsShape 15 = .ok (.aaload, 1) := by decide +kernel
theorem dBook_knowsShape_16 : decode bBook_knowsShape 16 = .ok (.getfield 53, 3) := by decide +kernel
theorem dBook_knowsShape_19 : decode bBook_knowsShape 19 = .ok (.ifCond .ne 18, 3) := by decide +kernel
theorem dBook_knowsShape_22 : decode bBook_knowsShape 22 = .ok (.aload_n 0, 1) := by decide +kernel
theorem dBook_knowsShape_23 : decode bBook_knowsShape 23 = .ok (.getfield 11, 3) := by decide +kernel
theorem dBook_knowsShape_26 : decode bBook_knowsShape 26 = .ok (.iload_n 2, 1) := by decide +kernel
theorem dBook_knowsShape_27 : decode bBook_knowsShape 27 = .ok (.aaload, 1) := by decide +kernel
theorem dBook_knowsShape_28 : decode bBook_knowsShape 28 = .ok (.aload_n 1, 1) := by decide +kernel
theorem dBook_knowsShape_29 : decode bBook_knowsShape 29 = .ok (.invokevirtual 54, 3) := by decide +kernel
theorem dBook_knowsShape_32 : decode bBook_knowsShape 32 = .ok (.ifCond .eq 5, 3) := by decide +kernel
theorem dBook_knowsShape_35 : decode bBook_knowsShape 35 = .ok (.iconst 1, 1) := by decide +kernel
theorem dBook_knowsShape_36 : decode bBook_knowsShape 36 = .ok (.ireturn, 1) := by decide +kernel
theorem dBook_knowsShape_37 : decode bBook_knowsShape 37 = .ok (.iinc 2 1, 3) := by decide +kernel
theorem dBook_knowsShape_40 : decode bBook_knowsShape 40 = .ok (.goto (-38), 3) := by decide +kernel
theorem dBook_knowsShape_43 : decode bBook_knowsShape 43 = .ok (.iconst 0, 1) := by decide +kernel
theorem dBook_knowsShape_44 : decode bBook_knowsShape 44 = .ok (.ireturn, 1) := by decide +kernel
def wbBook_knowsShape_37 (n : Nat) (ln : Nat → Nat) (post : Int32 → zM → Prop) (L2 : (Int32 × zM) → Prop) (v2 : Int32) (h : zM) : Prop := L2 ((v2 + 1), h)
def stBook_knowsShape_2 (n : Nat) (ln : Nat → Nat) (post : Int32 → zM → Prop) (L2 : (Int32 × zM) → Prop) : (Int32 × zM) → Prop := fun s => match s with
  | (v2, h) => ((((h 9 1) ≤ v2) → post 0 h) ∧ (¬ ((h 9 1) ≤ v2) → (vp_in v2 40 ∧ (Int32.toNatClampNeg v2) < n ∧ ((¬ (h (34 + 4 * (Int32.toNatClampNeg v2)) 1) = 0 → wbBook_knowsShape_37 n ln post L2 v2 h) ∧ ((h (34 + 4 * (Int32.toNatClampNeg v2)) 1) = 0 → (vp_in v2 40 ∧ (Int32.toNatClampNeg v2) < n ∧ wpEntry_hasShapeOf n ln (Int32.toNatClampNeg v2) h (fun r29 h29 => ((r29 = 0 → wbBook_knowsShape_37 n ln post L2 v2 h29) ∧ (¬ r29 = 0 → post 1 h29)))))))))
def wpBook_knowsShape (n : Nat) (ln : Nat → Nat) (h : zM) (post : Int32 → zM → Prop) : Prop := zL (stBook_knowsShape_2 n ln post) (0, h)
abbrev rmBook_knowsShape : Room := { frames := 1, cells := 0, slots := 0, locals := 22 }
set_option maxHeartbeats 4000000 in
set_option maxRecDepth 100000 in
theorem cBook_knowsShape (l : Launch) (D : va_G) (cI cC cE : ClassId) (ad : Nat → Nat) (n : Nat) (ln : Nat → Nat) (A : Nat → Prop) (hJ : zJ A (34 + 4 * n) ad) (h : zM) (post : Int32 → zM → Prop) (hw : wpBook_knowsShape n ln h post) : Met l yBook_knowsShape (.code yBook_knowsShape bBook_knowsShape 3 (some .boolean) :: zt) rmBook_knowsShape (va_Pc [.ref (ad 9), .ref (ad 12)] (zPre D (zty cI cC cE) (34 + 4 * n) ad (zF ad cI cC cE n ln) A h)) (va_Qi post (zPst D (zty cI cC cE) (34 + 4 * n) ad (zF ad cI cC cE n ln)) A) 0 0 A := by
  refine Met.ofW (cc := bBook_knowsShape) (maxL := 3) (ret := (some .boolean)) (by decide) rfl ?_
  intro p e s m args below meth c s₁ B hml hv
  obtain ⟨rfl, hP, hK, hT, hN⟩ := hv
  have hr := B.returns
  have hlk := B.notSynchronized
  have S : zS p m c bBook_knowsShape 3 s _ "CallExplorer$Book" := ⟨B.exec, B.bytes, hml, findClass_of_methodNamed B.named, fun w hw => atoms_spec (ws := .code yBook_knowsShape bBook_knowsShape 3 (some .boolean) :: zt) B.pre w (List.mem_cons_of_mem _ hw)⟩
  have hS : va_S A s.heap s.heap [] := va_S.rf
  have hl := lv_entry ([.ref (ad 9), .ref (ad 12)]) (n := 3) (Nat.le_of_ble_eq_true rfl)
  rw [lg_entry_eq]
  generalize (lg_sl ([.ref (ad 9), .ref (ad 12)]) ++ List.replicate (3 - (lg_sl ([.ref (ad 9), .ref (ad 12)])).length) Slot.unset).toArray = ls at hl ⊢
  have hl : lv_has ls 3 [(0, .ref (ad 9)), (1, .ref (ad 12))] := hl
  show W p l e rmBook_knowsShape s m ([.ref (ad 9), .ref (ad 12)] : List Value).toArray below meth c s.heap [] 0 0 (zQi post D (zty cI cC cE) (34 + 4 * n) ad (zF ad cI cC cE n ln) A below ([.ref (ad 9), .ref (ad 12)] : List Value).toArray s) _
  have J2 : ∀ (fu : Nat) (v2 : Int32) (h : zM) (H : Heap) (locs : List Loc) (ls : Array Slot), zl (stBook_knowsShape_2 n ln post) fu (v2, h) → lv_has ls 3 [(0, .ref (ad 9)), (1, .ref (ad 12)), (2, .int v2)] → va_P D zcl (zW (34 + 4 * n) ad (zF ad cI cC cE n ln) h) H → va_S A s.heap H locs → W p l e rmBook_knowsShape s m ([.ref (ad 9), .ref (ad 12)] : List Value).toArray below meth c H locs 0 0 (zQi post D (zty cI cC cE) (34 + 4 * n) ad (zF ad cI cC cE n ln) A below ([.ref (ad 9), .ref (ad 12)] : List Value).toArray s) (F0 m 2 ls []) := by
    intro fu2
    induction fu2 with
    | zero =>
      intro v2 h H locs ls hw
      exact (zl_0 hw).elim
    | succ fu2 ih2 =>
      intro v2 h H locs ls hw hl hP hS
      have hw := zl_s hw
      generalize zl (stBook_knowsShape_2 n ln post) fu2 = L2 at hw ih2
      have J37 : ∀ (v2 : Int32) (h : zM) (H : Heap) (locs : List Loc) (ls : Array Slot), wbBook_knowsShape_37 n ln post L2 v2 h → lv_has ls 3 [(0, .ref (ad 9)), (1, .ref (ad 12)), (2, .int v2)] → va_P D zcl (zW (34 + 4 * n) ad (zF ad cI cC cE n ln) h) H → va_S A s.heap H locs → W p l e rmBook_knowsShape s m ([.ref (ad 9), .ref (ad 12)] : List Value).toArray below meth c H locs 0 0 (zQi post D (zty cI cC cE) (34 + 4 * n) ad (zF ad cI cC cE n ln) A below ([.ref (ad 9), .ref (ad 12)] : List Value).toArray s) (F0 m 37 ls []) := by
        intro v2 h H locs ls hw hl hP hS
        unfold wbBook_knowsShape_37 at hw
        refine lv_iinc (v := (v2 + 1)) (lv' := [(2, .int (v2 + 1)), (0, .ref (ad 9)), (1, .ref (ad 12))]) (k := 2) S.1 S.2.1 dBook_knowsShape_37 hl rfl rfl (by decide) rfl (fun ls hl => ?_)
        refine lv_goto S.1 S.2.1 dBook_knowsShape_40 rfl ?_
        exact ih2 _ _ _ _ _ hw (lv_sub hl [1, 2, 0] rfl) hP hS
      unfold stBook_knowsShape_2 at hw
      dsimp only at hw
      refine lv_iload_n S.1 S.2.1 dBook_knowsShape_2 rfl (lv_at hl 2 rfl) ?_
      refine lv_aload_n S.1 S.2.1 dBook_knowsShape_3 rfl (lv_at hl 0 rfl) ?_
      refine zr_get S hK hP (zk (by decide)) (zF_9 _) fBook_size q78 rfl dBook_knowsShape_4 ?_
      refine lv_icmp_ge S.1 S.2.1 dBook_knowsShape_7 rfl (fun hc => ?_) (fun hc => ?_)
      · have hw := hw.1 hc
        refine lv_iconst (v := 0) S.1 S.2.1 dBook_knowsShape_43 (by decide) ?_
        exact zr_iret S hr hlk hK hP hS rfl hw dBook_knowsShape_44
      · have hw := hw.2 hc
        refine lv_aload_n S.1 S.2.1 dBook_knowsShape_10 rfl (lv_at hl 0 rfl) ?_
        refine zr_get S hK hP (zk (by decide)) (zF_9 _) fBook_rows q80 rfl dBook_knowsShape_11 ?_
        refine lv_iload_n S.1 S.2.1 dBook_knowsShape_14 rfl (lv_at hl 2 rfl) ?_
        obtain ⟨z15, hj15_, hw⟩ := hw
        refine zr_row S hK hP (zk (by decide)) (zF_10 _) 2 rfl z15 (if_pos hj15_) dBook_knowsShape_15 ?_
        refine zr_get S hK hP (zke0 hj15_) ((zFe_0 (Int32.toNatClampNeg v2)) _) fEntry_outcome q606 rfl dBook_knowsShape_16 ?_
        refine lv_if_ne S.1 S.2.1 dBook_knowsShape_19 rfl (fun hc => ?_) (fun hc => ?_)
        · have hw := hw.1 hc
          exact J37 _ _ _ _ _ hw (lv_sub hl [0, 1, 2] rfl) hP hS
        · have hw := hw.2 hc
          refine lv_aload_n S.1 S.2.1 dBook_knowsShape_22 rfl (lv_at hl 0 rfl) ?_
          refine zr_get S hK hP (zk (by decide)) (zF_9 _) fBook_rows q80 rfl dBook_knowsShape_23 ?_
          refine lv_iload_n S.1 S.2.1 dBook_knowsShape_26 rfl (lv_at hl 2 rfl) ?_
          obtain ⟨z27, hj27_, hw⟩ := hw
          refine zr_row S hK hP (zk (by decide)) (zF_10 _) 2 rfl z27 (if_pos hj27_) dBook_knowsShape_27 ?_
          refine lv_aload_n S.1 S.2.1 dBook_knowsShape_28 rfl (lv_at hl 1 rfl) ?_
          refine zr_i (zr_V (As := [.ref (ad 12)]) (rest := []) S hK hT hN hP hS (zke0 hj27_) ((zFe_0 (Int32.toNatClampNeg v2)) _) rfl (cEntry_hasShapeOf l D cI cC cE ad n ln A hJ (Int32.toNatClampNeg v2) hj27_ _ _ hw) caBook_54 ⟨Nat.le_of_ble_eq_true rfl, Nat.le_of_ble_eq_true rfl⟩ ⟨rfl, rfl⟩ rfl hl.1 rfl (Nat.le_of_ble_eq_true rfl) dBook_knowsShape_29) hS (fun r29 h29 H locs hw hP hS => ?_)
          refine lv_if_eq S.1 S.2.1 dBook_knowsShape_32 rfl (fun hc => ?_) (fun hc => ?_)
          · have hw := hw.1 hc
            exact J37 _ _ _ _ _ hw (lv_sub hl [0, 1, 2] rfl) hP hS
          · have hw := hw.2 hc
            refine lv_iconst (v := 1) S.1 S.2.1 dBook_knowsShape_35 (by decide) ?_
            exact zr_iret S hr hlk hK hP hS rfl hw dBook_knowsShape_36
  unfold wpBook_knowsShape at hw
  refine lv_iconst (v := 0) S.1 S.2.1 dBook_knowsShape_0 (by decide) ?_
  refine lv_istore_n (lv' := [(2, .int 0), (0, .ref (ad 9)), (1, .ref (ad 12))]) S.1 S.2.1 dBook_knowsShape_1 rfl hl (by decide) rfl (fun ls hl => ?_)
  obtain ⟨fu, hw⟩ := hw
  exact J2 fu _ _ _ _ _ hw (lv_sub hl [1, 2, 0] rfl) hP hS
/-! Book.holds -/
theorem dBook_holds_0 : decode bBook_holds 0 = .ok (.iconst 0, 1) := by decide +kernel
theorem dBook_holds_1 : decode bBook_holds 1 = .ok (.istore_n 2, 1) := by decide +kernel
theorem dBook_holds_2 : decode bBook_holds 2 = .ok (.iload_n 2, 1) := by decide +kernel
theorem dBook_holds_3 : decode bBook_holds 3 = .ok (.aload_n 0, 1) := by decide +kernel
theorem dBook_holds_4 : decode bBook_holds 4 = .ok (.getfield 25, 3) := by decide +kernel
theorem dBook_holds_7 : decode bBook_holds 7 = .ok (.if_icmp .ge 27, 3) := by decide +kernel
theorem dBook_holds_10 : decode bBook_holds 10 = .ok (.aload_n 0, 1) := by decide +kernel
theorem dBook_holds_11 : decode bBook_holds 11 = .ok (.getfield 11, 3) := by decide +kernel
theorem dBook_holds_14 : decode bBook_holds 14 = .ok (.iload_n 2, 1) := by decide +kernel
theorem dBook_holds_15 : decode bBook_holds 15 = .ok (.aaload, 1) := by decide +kernel
theorem dBook_holds_16 : decode bBook_holds 16 = .ok (.getfield 57, 3) := by decide +kernel
theorem dBook_holds_19 : decode bBook_holds 19 = .ok (.aload_n 1, 1) := by decide +kernel
theorem dBook_holds_20 : decode bBook_holds 20 = .ok (.invokevirtual 61, 3) := by decide +kernel
theorem dBook_holds_23 : decode bBook_holds 23 = .ok (.ifCond .eq 5, 3) := by decide +kernel
theorem dBook_holds_26 : decode bBook_holds 26 = .ok (.iconst 1, 1) := by decide +kernel
theorem dBook_holds_27 : decode bBook_holds 27 = .ok (.ireturn, 1) := by decide +kernel
theorem dBook_holds_28 : decode bBook_holds 28 = .ok (.iinc 2 1, 3) := by decide +kernel
theorem dBook_holds_31 : decode bBook_holds 31 = .ok (.goto (-29), 3) := by decide +kernel
theorem dBook_holds_34 : decode bBook_holds 34 = .ok (.iconst 0, 1) := by decide +kernel
theorem dBook_holds_35 : decode bBook_holds 35 = .ok (.ireturn, 1) := by decide +kernel
def stBook_holds_2 (n : Nat) (ln : Nat → Nat) (o1 : Nat) (post : Int32 → zM → Prop) (L2 : (Int32 × zM) → Prop) : (Int32 × zM) → Prop := fun s => match s with
  | (v2, h) => ((((h 9 1) ≤ v2) → post 0 h) ∧ (¬ ((h 9 1) ≤ v2) → (vp_in v2 40 ∧ (Int32.toNatClampNeg v2) < n ∧ wpSequence_same (34 + 4 * (Int32.toNatClampNeg v2) + 1) o1 h (fun r20 h20 => ((r20 = 0 → L2 ((v2 + 1), h20)) ∧ (¬ r20 = 0 → post 1 h20))))))
def wpBook_holds (n : Nat) (ln : Nat → Nat) (o1 : Nat) (h : zM) (post : Int32 → zM → Prop) : Prop := zL (stBook_holds_2 n ln o1 post) (0, h)
abbrev rmBook_holds : Room := { frames := 1, cells := 0, slots := 0, locals := 22 }
set_option maxHeartbeats 4000000 in
set_option maxRecDepth 100000 in
theorem cBook_holds (l : Launch) (D : va_G) (cI cC cE : ClassId) (ad : Nat → Nat) (n : Nat) (ln : Nat → Nat) (A : Nat → Prop) (hJ : zJ A (34 + 4 * n) ad) (o1 : Nat) (hq1 : zSeq (34 + 4 * n) ad (zF ad cI cC cE n ln) cI o1) (h : zM) (post : Int32 → zM → Prop) (hw : wpBook_holds n ln o1 h post) : Met l yBook_holds (.code yBook_holds bBook_holds 3 (some .boolean) :: zt) rmBook_holds (va_Pc [.ref (ad 9), .ref (ad o1)] (zPre D (zty cI cC cE) (34 + 4 * n) ad (zF ad cI cC cE n ln) A h)) (va_Qi post (zPst D (zty cI cC cE) (34 + 4 * n) ad (zF ad cI cC cE n ln)) A) 0 0 A := by
  refine Met.ofW (cc := bBook_holds) (maxL := 3) (ret := (some .boolean)) (by decide) rfl ?_
  intro p e s m args below meth c s₁ B hml hv
  obtain ⟨rfl, hP, hK, hT, hN⟩ := hv
  have hr := B.returns
  have hlk := B.notSynchronized
  have S : zS p m c bBook_holds 3 s _ "CallExplorer$Book" := ⟨B.exec, B.bytes, hml, findClass_of_methodNamed B.named, fun w hw => atoms_spec (ws := .code yBook_holds bBook_holds 3 (some .boolean) :: zt) B.pre w (List.mem_cons_of_mem _ hw)⟩
  have hS : va_S A s.heap s.heap [] := va_S.rf
  have hl := lv_entry ([.ref (ad 9), .ref (ad o1)]) (n := 3) (Nat.le_of_ble_eq_true rfl)
  rw [lg_entry_eq]
  generalize (lg_sl ([.ref (ad 9), .ref (ad o1)]) ++ List.replicate (3 - (lg_sl ([.ref (ad 9), .ref (ad o1)])).length) Slot.unset).toArray = ls at hl ⊢
  have hl : lv_has ls 3 [(0, .ref (ad 9)), (1, .ref (ad o1))] := hl
  show W p l e rmBook_holds s m ([.ref (ad 9), .ref (ad o1)] : List Value).toArray below meth c s.heap [] 0 0 (zQi post D (zty cI cC cE) (34 + 4 * n) ad (zF ad cI cC cE n ln) A below ([.ref (ad 9), .ref (ad o1)] : List Value).toArray s) _
  have J2 : ∀ (fu : Nat) (v2 : Int32) (h : zM) (H : Heap) (locs : List Loc) (ls : Array Slot), zl (stBook_holds_2 n ln o1 post) fu (v2, h) → lv_has ls 3 [(0, .ref (ad 9)), (1, .ref (ad o1)), (2, .int v2)] → va_P D zcl (zW (34 + 4 * n) ad (zF ad cI cC cE n ln) h) H → va_S A s.heap H locs → W p l e rmBook_holds s m ([.ref (ad 9), .ref (ad o1)] : List Value).toArray below meth c H locs 0 0 (zQi post D (zty cI cC cE) (34 + 4 * n) ad (zF ad cI cC cE n ln) A below ([.ref (ad 9), .ref (ad o1)] : List Value).toArray s) (F0 m 2 ls []) := by
    intro fu2
    induction fu2 with
    | zero =>
      intro v2 h H locs ls hw
      exact (zl_0 hw).elim
    | succ fu2 ih2 =>
      intro v2 h H locs ls hw hl hP hS
      have hw := zl_s hw
      generalize zl (stBook_holds_2 n ln o1 post) fu2 = L2 at hw ih2
      unfold stBook_holds_2 at hw
      dsimp only at hw
      refine lv_iload_n S.1 S.2.1 dBook_holds_2 rfl (lv_at hl 2 rfl) ?_
      refine lv_aload_n S.1 S.2.1 dBook_holds_3 rfl (lv_at hl 0 rfl) ?_
      refine zr_get S hK hP (zk (by decide)) (zF_9 _) fBook_size q78 rfl dBook_holds_4 ?_
      refine lv_icmp_ge S.1 S.2.1 dBook_holds_7 rfl (fun hc => ?_) (fun hc => ?_)
      · have hw := hw.1 hc
        refine lv_iconst (v := 0) S.1 S.2.1 dBook_holds_34 (by decide) ?_
        exact zr_iret S hr hlk hK hP hS rfl hw dBook_holds_35
      · have hw := hw.2 hc
        refine lv_aload_n S.1 S.2.1 dBook_holds_10 rfl (lv_at hl 0 rfl) ?_
        refine zr_get S hK hP (zk (by decide)) (zF_9 _) fBook_rows q80 rfl dBook_holds_11 ?_
        refine lv_iload_n S.1 S.2.1 dBook_holds_14 rfl (lv_at hl 2 rfl) ?_
        obtain ⟨z15, hj15_, hw⟩ := hw
        refine zr_row S hK hP (zk (by decide)) (zF_10 _) 2 rfl z15 (if_pos hj15_) dBook_holds_15 ?_
        refine zr_get S hK hP (zke0 hj15_) ((zFe_0 (Int32.toNatClampNeg v2)) _) fEntry_sequence q602 rfl dBook_holds_16 ?_
        refine lv_aload_n S.1 S.2.1 dBook_holds_19 rfl (lv_at hl 1 rfl) ?_
        refine zr_i (zr_V (As := [.ref (ad o1)]) (rest := []) S hK hT hN hP hS (zke 1 hj15_) ((zFe_1 (Int32.toNatClampNeg v2)) _) rfl (cSequence_same l D (zty cI cC cE) (34 + 4 * n) ad (zF ad cI cC cE n ln) A hJ cI rfl (34 + 4 * (Int32.toNatClampNeg v2) + 1) (zs_e hj15_) o1 hq1 _ _ hw) caBook_61 ⟨Nat.le_of_ble_eq_true rfl, Nat.le_of_ble_eq_true rfl⟩ ⟨rfl, rfl⟩ rfl hl.1 rfl (Nat.le_of_ble_eq_true rfl) dBook_holds_20) hS (fun r20 h20 H locs hw hP hS => ?_)
        refine lv_if_eq S.1 S.2.1 dBook_holds_23 rfl (fun hc => ?_) (fun hc => ?_)
        · have hw := hw.1 hc
          refine lv_iinc (v := (v2 + 1)) (lv' := [(2, .int (v2 + 1)), (0, .ref (ad 9)), (1, .ref (ad o1))]) (k := 2) S.1 S.2.1 dBook_holds_28 hl rfl rfl (by decide) rfl (fun ls hl => ?_)
          refine lv_goto S.1 S.2.1 dBook_holds_31 rfl ?_
          exact ih2 _ _ _ _ _ hw (lv_sub hl [1, 2, 0] rfl) hP hS
        · have hw := hw.2 hc
          refine lv_iconst (v := 1) S.1 S.2.1 dBook_holds_26 (by decide) ?_
          exact zr_iret S hr hlk hK hP hS rfl hw dBook_holds_27
  unfold wpBook_holds at hw
  refine lv_iconst (v := 0) S.1 S.2.1 dBook_holds_0 (by decide) ?_
  refine lv_istore_n (lv' := [(2, .int 0), (0, .ref (ad 9)), (1, .ref (ad o1))]) S.1 S.2.1 dBook_holds_1 rfl hl (by decide) rfl (fun ls hl => ?_)
  obtain ⟨fu, hw⟩ := hw
  exact J2 fu _ _ _ _ _ hw (lv_sub hl [1, 2, 0] rfl) hP hS
/-! Book.listFresh -/
theorem dBook_listFresh_0 : decode bBook_listFresh 0 = .ok (.iconst 0, 1) := by decide +kernel
theorem dBook_listFresh_1 : decode bBook_listFresh 1 = .ok (.istore_n 2, 1) := by decide +kernel
theorem dBook_listFresh_2 : decode bBook_listFresh 2 = .ok (.iconst 0, 1) := by decide +kernel
theorem dBook_listFresh_3 : decode bBook_listFresh 3 = .ok (.istore_n 3, 1) := by decide +kernel
theorem dBook_listFresh_4 : decode bBook_listFresh 4 = .ok (.iload_n 3, 1) := by decide +kernel
theorem dBook_listFresh_5 : decode bBook_listFresh 5 = .ok (.aload_n 0, 1) := by decide +kernel
theorem dBook_listFresh_6 : decode bBook_listFresh 6 = .ok (.getfield 25, 3) := by decide +kernel
theorem dBook_listFresh_9 : decode bBook_listFresh 9 = .ok (.if_icmp .ge 51, 3) := by decide +kernel
theorem dBook_listFresh_12 : decode bBook_listFresh 12 = .ok (.aload_n 0, 1) := by decide +kernel
theorem dBook_listFresh_13 : decode bBook_listFresh 13 = .ok (.getfield 11, 3) := by decide +kernel
theorem dBook_listFresh_16 : decode bBook_listFresh 16 = .ok (.iload_n 3, 1) := by decide +kernel
theorem dBook_listFresh_17 : decode bBook_listFresh 17 = .ok (.aaload, 1) := by decide +kernel
theorem dBook_listFresh_18 : decode bBook_listFresh 18 = .ok (.getfield 53, 3) := by decide +kernel
theorem dBook_listFresh_21 : decode bBook_listFresh 21 = .ok (.ifCond .ne 33, 3) := by decide +kernel
theorem dBook_listFresh_24 : decode bBook_listFresh 24 = .ok (.aload_n 0, 1) := by decide +kernel
theorem dBook_listFresh_25 : decode bBook_listFresh 25 = .ok (.getfield 21, 3) := by decide +kernel
theorem dBook_listFresh_28 : decode bBook_listFresh 28 = .ok (.aload_n 0, 1) := by decide +kernel
theorem dBook_listFresh_29 : decode bBook_listFresh 29 = .ok (.getfield 11, 3) := by decide +kernel
theorem dBook_listFresh_32 : decode bBook_listFresh 32 = .ok (.iload_n 3, 1) := by decide +kernel
theorem dBook_listFresh_33 : decode bBook_listFresh 33 = .ok (.aaload, 1) := by decide +kernel
theorem dBook_listFresh_34 : decode bBook_listFresh 34 = .ok (.getfield 65, 3) := by decide +kernel
theorem dBook_listFresh_37 : decode bBook_listFresh 37 = .ok (.iload_n 1, 1) := by decide +kernel
theorem dBook_listFresh_38 : decode bBook_listFresh 38 = .ok (.invokevirtual 68, 3) := by decide +kernel
theorem dBook_listFresh_41 : decode bBook_listFresh 41 = .ok (.ifCond .eq 13, 3) := by decide +kernel
theorem dBook_listFresh_44 : decode bBook_listFresh 44 = .ok (.aload_n 0, 1) := by decide +kernel
theorem dBook_listFresh_45 : decode bBook_listFresh 45 = .ok (.getfield 17, 3) := by decide +kernel
theorem dBook_listFresh_48 : decode bBook_listFresh 48 = .ok (.iload_n 2, 1) := by decide +kernel
theorem dBook_listFresh_49 : decode bBook_listFresh 49 = .ok (.iload_n 3, 1) := by decide +kernel
theorem dBook_listFresh_50 : decode bBook_listFresh 50 = .ok (.iastore, 1) := by decide +kernel
theorem dBook_listFresh_51 : decode bBook_listFresh 51 = .ok (.iinc 2 1, 3) := by decide +kernel
theorem dBook_listFresh_54 : decode bBook_listFresh 54 = .ok (.iinc 3 1, 3) := by decide +kernel
theorem dBook_listFresh_57 : decode bBook_listFresh 57 = .ok (.goto (-53), 3) := by decide +kernel
theorem dBook_listFresh_60 : decode bBook_listFresh 60 = .ok (.iload_n 2, 1) := by decide +kernel
theorem dBook_listFresh_61 : decode bBook_listFresh 61 = .ok (.ireturn, 1) := by decide +kernel
def wbBook_listFresh_54 (n : Nat) (ln : Nat → Nat) (post : Int32 → zM → Prop) (L4 : (Int32 × Int32 × Int32 × zM) → Prop) (v1 : Int32) (v2 : Int32) (v3 : Int32) (h : zM) : Prop := L4 (v1, v2, (v3 + 1), h)
def stBook_listFresh_4 (n : Nat) (ln : Nat → Nat) (post : Int32 → zM → Prop) (L4 : (Int32 × Int32 × Int32 × zM) → Prop) : (Int32 × Int32 × Int32 × zM) → Prop := fun s => match s with
  | (v1, v2, v3, h) => ((((h 9 1) ≤ v3) → post v2 h) ∧ (¬ ((h 9 1) ≤ v3) → (vp_in v3 40 ∧ (Int32.toNatClampNeg v3) < n ∧ ((¬ (h (34 + 4 * (Int32.toNatClampNeg v3)) 1) = 0 → wbBook_listFresh_54 n ln post L4 v1 v2 v3 h) ∧ ((h (34 + 4 * (Int32.toNatClampNeg v3)) 1) = 0 → (vp_in v3 40 ∧ (Int32.toNatClampNeg v3) < n ∧ wpCatalog_is n ln (h (34 + 4 * (Int32.toNatClampNeg v3)) 3) v1 h (fun r38 h38 => ((r38 = 0 → wbBook_listFresh_54 n ln post L4 v1 v2 v3 h38) ∧ (¬ r38 = 0 → (vp_in v2 40 ∧ ∀ h50 : zM, h50 = zu h38 11 (Int32.toNatClampNeg v2) v3 → wbBook_listFresh_54 n ln post L4 v1 (v2 + 1) v3 h50))))))))))
def wpBook_listFresh (n : Nat) (ln : Nat → Nat) (x1 : Int32) (h : zM) (post : Int32 → zM → Prop) : Prop := zL (stBook_listFresh_4 n ln post) (x1, 0, 0, h)
abbrev rmBook_listFresh : Room := { frames := 1, cells := 0, slots := 0, locals := 24 }
set_option maxHeartbeats 4000000 in
set_option maxRecDepth 100000 in
theorem cBook_listFresh (l : Launch) (D : va_G) (cI cC cE : ClassId) (ad : Nat → Nat) (n : Nat) (ln : Nat → Nat) (A : Nat → Prop) (hJ : zJ A (34 + 4 * n) ad) (x1 : Int32) (h : zM) (post : Int32 → zM → Prop) (hw : wpBook_listFresh n ln x1 h post) : Met l yBook_listFresh (.code yBook_listFresh bBook_listFresh 4 (some .int) :: zt) rmBook_listFresh (va_Pc [.ref (ad 9), .int x1] (zPre D (zty cI cC cE) (34 + 4 * n) ad (zF ad cI cC cE n ln) A h)) (va_Qi post (zPst D (zty cI cC cE) (34 + 4 * n) ad (zF ad cI cC cE n ln)) A) 0 0 A := by
  refine Met.ofW (cc := bBook_listFresh) (maxL := 4) (ret := (some .int)) (by decide) rfl ?_
  intro p e s m args below meth c s₁ B hml hv
  obtain ⟨rfl, hP, hK, hT, hN⟩ := hv
  have hr := B.returns
  have hlk := B.notSynchronized
  have S : zS p m c bBook_listFresh 4 s _ "CallExplorer$Book" := ⟨B.exec, B.bytes, hml, findClass_of_methodNamed B.named, fun w hw => atoms_spec (ws := .code yBook_listFresh bBook_listFresh 4 (some .int) :: zt) B.pre w (List.mem_cons_of_mem _ hw)⟩
  have hS : va_S A s.heap s.heap [] := va_S.rf
  have hl := lv_entry ([.ref (ad 9), .int x1]) (n := 4) (Nat.le_of_ble_eq_true rfl)
  rw [lg_entry_eq]
  generalize (lg_sl ([.ref (ad 9), .int x1]) ++ List.replicate (4 - (lg_sl ([.ref (ad 9), .int x1])).length) Slot.unset).toArray = ls at hl ⊢
  have hl : lv_has ls 4 [(0, .ref (ad 9)), (1, .int x1)] := hl
  show W p l e rmBook_listFresh s m ([.ref (ad 9), .int x1] : List Value).toArray below meth c s.heap [] 0 0 (zQi post D (zty cI cC cE) (34 + 4 * n) ad (zF ad cI cC cE n ln) A below ([.ref (ad 9), .int x1] : List Value).toArray s) _
  have J4 : ∀ (fu : Nat) (v1 : Int32) (v2 : Int32) (v3 : Int32) (h : zM) (H : Heap) (locs : List Loc) (ls : Array Slot), zl (stBook_listFresh_4 n ln post) fu (v1, v2, v3, h) → lv_has ls 4 [(0, .ref (ad 9)), (1, .int v1), (2, .int v2), (3, .int v3)] → va_P D zcl (zW (34 + 4 * n) ad (zF ad cI cC cE n ln) h) H → va_S A s.heap H locs → W p l e rmBook_listFresh s m ([.ref (ad 9), .int x1] : List Value).toArray below meth c H locs 0 0 (zQi post D (zty cI cC cE) (34 + 4 * n) ad (zF ad cI cC cE n ln) A below ([.ref (ad 9), .int x1] : List Value).toArray s) (F0 m 4 ls []) := by
    intro fu4
    induction fu4 with
    | zero =>
      intro v1 v2 v3 h H locs ls hw
      exact (zl_0 hw).elim
    | succ fu4 ih4 =>
      intro v1 v2 v3 h H locs ls hw hl hP hS
      have hw := zl_s hw
      generalize zl (stBook_listFresh_4 n ln post) fu4 = L4 at hw ih4
      have J54 : ∀ (v1 : Int32) (v2 : Int32) (v3 : Int32) (h : zM) (H : Heap) (locs : List Loc) (ls : Array Slot), wbBook_listFresh_54 n ln post L4 v1 v2 v3 h → lv_has ls 4 [(0, .ref (ad 9)), (1, .int v1), (2, .int v2), (3, .int v3)] → va_P D zcl (zW (34 + 4 * n) ad (zF ad cI cC cE n ln) h) H → va_S A s.heap H locs → W p l e rmBook_listFresh s m ([.ref (ad 9), .int x1] : List Value).toArray below meth c H locs 0 0 (zQi post D (zty cI cC cE) (34 + 4 * n) ad (zF ad cI cC cE n ln) A below ([.ref (ad 9), .int x1] : List Value).toArray s) (F0 m 54 ls []) := by
        intro v1 v2 v3 h H locs ls hw hl hP hS
        unfold wbBook_listFresh_54 at hw
        refine lv_iinc (v := (v3 + 1)) (lv' := [(3, .int (v3 + 1)), (0, .ref (ad 9)), (1, .int v1), (2, .int v2)]) (k := 3) S.1 S.2.1 dBook_listFresh_54 hl rfl rfl (by decide) rfl (fun ls hl => ?_)
        refine lv_goto S.1 S.2.1 dBook_listFresh_57 rfl ?_
        exact ih4 _ _ _ _ _ _ _ hw (lv_sub hl [1, 2, 3, 0] rfl) hP hS
      unfold stBook_listFresh_4 at hw
      dsimp only at hw
      refine lv_iload_n S.1 S.2.1 dBook_listFresh_4 rfl (lv_at hl 3 rfl) ?_
      refine lv_aload_n S.1 S.2.1 dBook_listFresh_5 rfl (lv_at hl 0 rfl) ?_
      refine zr_get S hK hP (zk (by decide)) (zF_9 _) fBook_size q78 rfl dBook_listFresh_6 ?_
      refine lv_icmp_ge S.1 S.2.1 dBook_listFresh_9 rfl (fun hc => ?_) (fun hc => ?_)
      · have hw := hw.1 hc
        refine lv_iload_n S.1 S.2.1 dBook_listFresh_60 rfl (lv_at hl 2 rfl) ?_
        exact zr_iret S hr hlk hK hP hS rfl hw dBook_listFresh_61
      · have hw := hw.2 hc
        refine lv_aload_n S.1 S.2.1 dBook_listFresh_12 rfl (lv_at hl 0 rfl) ?_
        refine zr_get S hK hP (zk (by decide)) (zF_9 _) fBook_rows q80 rfl dBook_listFresh_13 ?_
        refine lv_iload_n S.1 S.2.1 dBook_listFresh_16 rfl (lv_at hl 3 rfl) ?_
        obtain ⟨z17, hj17_, hw⟩ := hw
        refine zr_row S hK hP (zk (by decide)) (zF_10 _) 2 rfl z17 (if_pos hj17_) dBook_listFresh_17 ?_
        refine zr_get S hK hP (zke0 hj17_) ((zFe_0 (Int32.toNatClampNeg v3)) _) fEntry_outcome q606 rfl dBook_listFresh_18 ?_
        refine lv_if_ne S.1 S.2.1 dBook_listFresh_21 rfl (fun hc => ?_) (fun hc => ?_)
        · have hw := hw.1 hc
          exact J54 _ _ _ _ _ _ _ hw (lv_sub hl [0, 1, 2, 3] rfl) hP hS
        · have hw := hw.2 hc
          refine lv_aload_n S.1 S.2.1 dBook_listFresh_24 rfl (lv_at hl 0 rfl) ?_
          refine zr_get S hK hP (zk (by decide)) (zF_9 _) fBook_catalog q77 rfl dBook_listFresh_25 ?_
          refine lv_aload_n S.1 S.2.1 dBook_listFresh_28 rfl (lv_at hl 0 rfl) ?_
          refine zr_get S hK hP (zk (by decide)) (zF_9 _) fBook_rows q80 rfl dBook_listFresh_29 ?_
          refine lv_iload_n S.1 S.2.1 dBook_listFresh_32 rfl (lv_at hl 3 rfl) ?_
          obtain ⟨z33, hj33_, hw⟩ := hw
          refine zr_row S hK hP (zk (by decide)) (zF_10 _) 2 rfl z33 (if_pos hj33_) dBook_listFresh_33 ?_
          refine zr_get S hK hP (zke0 hj33_) ((zFe_0 (Int32.toNatClampNeg v3)) _) fEntry_type q615 rfl dBook_listFresh_34 ?_
          refine lv_iload_n S.1 S.2.1 dBook_listFresh_37 rfl (lv_at hl 1 rfl) ?_
          refine zr_i (zr_V (As := [.int (h (34 + 4 * (Int32.toNatClampNeg v3)) 3), .int v1]) (rest := []) S hK hT hN hP hS (zk (by decide)) (zF_1 _) rfl (cCatalog_is l D cI cC cE ad n ln A hJ _ _ _ _ hw) caBook_68 ⟨Nat.le_of_ble_eq_true rfl, Nat.le_of_ble_eq_true rfl⟩ ⟨rfl, rfl⟩ rfl hl.1 rfl (Nat.le_of_ble_eq_true rfl) dBook_listFresh_38) hS (fun r38 h38 H locs hw hP hS => ?_)
          refine lv_if_eq S.1 S.2.1 dBook_listFresh_41 rfl (fun hc => ?_) (fun hc => ?_)
          · have hw := hw.1 hc
            exact J54 _ _ _ _ _ _ _ hw (lv_sub hl [0, 1, 2, 3] rfl) hP hS
          · have hw := hw.2 hc
            refine lv_aload_n S.1 S.2.1 dBook_listFresh_44 rfl (lv_at hl 0 rfl) ?_
            refine zr_get S hK hP (zk (by decide)) (zF_9 _) fBook_listed q81 rfl dBook_listFresh_45 ?_
            refine lv_iload_n S.1 S.2.1 dBook_listFresh_48 rfl (lv_at hl 2 rfl) ?_
            refine lv_iload_n S.1 S.2.1 dBook_listFresh_49 rfl (lv_at hl 3 rfl) ?_
            obtain ⟨z50, hw⟩ := hw
            refine zr_ast S hK hJ hP hS (zk (by decide)) zF_11 0 rfl z50 dBook_listFresh_50 (fun h50 H locs e50 hP hS => ?_)
            have hw := hw h50 e50
            refine lv_iinc (v := (v2 + 1)) (lv' := [(2, .int (v2 + 1)), (0, .ref (ad 9)), (1, .int v1), (3, .int v3)]) (k := 2) S.1 S.2.1 dBook_listFresh_51 hl rfl rfl (by decide) rfl (fun ls hl => ?_)
            exact J54 _ _ _ _ _ _ _ hw (lv_sub hl [1, 2, 0, 3] rfl) hP hS
  unfold wpBook_listFresh at hw
  refine lv_iconst (v := 0) S.1 S.2.1 dBook_listFresh_0 (by decide) ?_
  refine lv_istore_n (lv' := [(2, .int 0), (0, .ref (ad 9)), (1, .int x1)]) S.1 S.2.1 dBook_listFresh_1 rfl hl (by decide) rfl (fun ls hl => ?_)
  refine lv_iconst (v := 0) S.1 S.2.1 dBook_listFresh_2 (by decide) ?_
  refine lv_istore_n (lv' := [(3, .int 0), (2, .int 0), (0, .ref (ad 9)), (1, .int x1)]) S.1 S.2.1 dBook_listFresh_3 rfl hl (by decide) rfl (fun ls hl => ?_)
  obtain ⟨fu, hw⟩ := hw
  exact J4 fu _ _ _ _ _ _ _ hw (lv_sub hl [2, 3, 1, 0] rfl) hP hS
