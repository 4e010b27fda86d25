/-! words of the tables by their places; printed by wip/whole/gen/gen.py -/
theorem q14 : Cond.initialized "java/util/Arrays" ∈ zt := zin (List.mem_append_right _ (List.mem_of_getElem? (i := 14) (by decide +kernel))) (by decide +kernel)
theorem q15 : Cond.initialized "java/lang/Math" ∈ zt := zin (List.mem_append_right _ (List.mem_of_getElem? (i := 15) (by decide +kernel))) (by decide +kernel)
theorem q132 : Cond.fieldLink "CallExplorer$Entry" (27 : Nat) "CallExplorer$Runner" "detail" "I" ∈ zt := zin (List.mem_append_right _ (List.mem_of_getElem? (i := 132) (by decide +kernel))) (by decide +kernel)
theorem q578 : Cond.methodLink "CallExplorer$Entry" (1 : Nat) ({ cls := "java/lang/Object", name := "<init>", desc := "()V" } : MethodName) ∈ zt := zin (List.mem_append_right _ (List.mem_of_getElem? (i := 578) (by decide +kernel))) (by decide +kernel)
theorem q579 : Cond.classLink "CallExplorer$Entry" (7 : Nat) "CallExplorer$Sequence" ∈ zt := zin (List.mem_append_right _ (List.mem_of_getElem? (i := 579) (by decide +kernel))) (by decide +kernel)
theorem q581 : Cond.methodLink "CallExplorer$Entry" (16 : Nat) ({ cls := "CallExplorer$Sequence", name := "copy", desc := "(LCallExplorer$Sequence;)V" } : MethodName) ∈ zt := zin (List.mem_append_right _ (List.mem_of_getElem? (i := 581) (by decide +kernel))) (by decide +kernel)
theorem q585 : Cond.methodLink "CallExplorer$Entry" (48 : Nat) ({ cls := "java/util/Arrays", name := "copyOf", desc := "([II)[I" } : MethodName) ∈ zt := zin (List.mem_append_right _ (List.mem_of_getElem? (i := 585) (by decide +kernel))) (by decide +kernel)
theorem q586 : Cond.static ({ cls := "java/util/Arrays", name := "copyOf", desc := "([II)[I" } : MethodName) ∈ zt := zin (List.mem_append_right _ (List.mem_of_getElem? (i := 586) (by decide +kernel))) (by decide +kernel)
set_option maxRecDepth 100000 in
theorem q587 : Cond.code ({ cls := "java/util/Arrays", name := "copyOf", desc := "([II)[I" } : MethodName) prog_17_method_123_code (3 : Nat) (Option.some (FieldType.array FieldType.int)) ∈ zt := zin (List.mem_append_right _ (List.mem_of_getElem? (i := 587) (rfl))) (by rfl)
theorem q588 : Cond.methodLink "java/util/Arrays" (316 : Nat) ({ cls := "[I", name := "clone", desc := "()Ljava/lang/Object;" } : MethodName) ∈ zt := zin (List.mem_append_right _ (List.mem_of_getElem? (i := 588) (by decide +kernel))) (by decide +kernel)
theorem q589 : Cond.sameMethod "[I" "java/lang/Object" "clone" "()Ljava/lang/Object;" ∈ zt := zin (List.mem_append_right _ (List.mem_of_getElem? (i := 589) (by decide +kernel))) (by decide +kernel)
theorem q590 : Cond.native ({ cls := "java/lang/Object", name := "clone", desc := "()Ljava/lang/Object;" } : MethodName) ∈ zt := zin (List.mem_append_right _ (List.mem_of_getElem? (i := 590) (by decide +kernel))) (by decide +kernel)
theorem q591 : Cond.instanceMethod ({ cls := "java/lang/Object", name := "clone", desc := "()Ljava/lang/Object;" } : MethodName) ∈ zt := zin (List.mem_append_right _ (List.mem_of_getElem? (i := 591) (by decide +kernel))) (by decide +kernel)
theorem q592 : Cond.selects "[I" ({ cls := "[I", name := "clone", desc := "()Ljava/lang/Object;" } : MethodName) ({ cls := "java/lang/Object", name := "clone", desc := "()Ljava/lang/Object;" } : MethodName) ∈ zt := zin (List.mem_append_right _ (List.mem_of_getElem? (i := 592) (by decide +kernel))) (by decide +kernel)
theorem q594 : Cond.classLink "java/util/Arrays" (317 : Nat) "[I" ∈ zt := zin (List.mem_append_right _ (List.mem_of_getElem? (i := 594) (by decide +kernel))) (by decide +kernel)
theorem q595 : Cond.methodLink "java/util/Arrays" (304 : Nat) ({ cls := "java/lang/Math", name := "min", desc := "(II)I" } : MethodName) ∈ zt := zin (List.mem_append_right _ (List.mem_of_getElem? (i := 595) (by decide +kernel))) (by decide +kernel)
theorem q596 : Cond.static ({ cls := "java/lang/Math", name := "min", desc := "(II)I" } : MethodName) ∈ zt := zin (List.mem_append_right _ (List.mem_of_getElem? (i := 596) (by decide +kernel))) (by decide +kernel)
set_option maxRecDepth 100000 in
theorem q597 : Cond.code ({ cls := "java/lang/Math", name := "min", desc := "(II)I" } : MethodName) prog_15_method_69_code (2 : Nat) (Option.some FieldType.int) ∈ zt := zin (List.mem_append_right _ (List.mem_of_getElem? (i := 597) (rfl))) (by rfl)
theorem q598 : Cond.methodLink "java/util/Arrays" (150 : Nat) ({ cls := "java/lang/System", name := "arraycopy", desc := "(Ljava/lang/Object;ILjava/lang/Object;II)V" } : MethodName) ∈ zt := zin (List.mem_append_right _ (List.mem_of_getElem? (i := 598) (by decide +kernel))) (by decide +kernel)
theorem q599 : Cond.fieldLink "CallExplorer$Entry" (10 : Nat) "CallExplorer$Entry" "sequence" "LCallExplorer$Sequence;" ∈ zt := zin (List.mem_append_right _ (List.mem_of_getElem? (i := 599) (by decide +kernel))) (by decide +kernel)
theorem q605 : Cond.fieldLink "CallExplorer$Entry" (24 : Nat) "CallExplorer$Entry" "outcome" "I" ∈ zt := zin (List.mem_append_right _ (List.mem_of_getElem? (i := 605) (by decide +kernel))) (by decide +kernel)
theorem q610 : Cond.fieldLink "CallExplorer$Entry" (32 : Nat) "CallExplorer$Entry" "detail" "I" ∈ zt := zin (List.mem_append_right _ (List.mem_of_getElem? (i := 610) (by decide +kernel))) (by decide +kernel)
theorem q614 : Cond.fieldLink "CallExplorer$Entry" (20 : Nat) "CallExplorer$Entry" "type" "I" ∈ zt := zin (List.mem_append_right _ (List.mem_of_getElem? (i := 614) (by decide +kernel))) (by decide +kernel)
/-! making cells in a world by numbers; printed by wip/whole/gen/alloc.py -/
theorem dArrays_copyOf_0 : decode bArrays_copyOf 0 = .ok (.iload_n 1, 1) := by decide +kernel
theorem dArrays_copyOf_1 : decode bArrays_copyOf 1 = .ok (.aload_n 0, 1) := by decide +kernel
theorem dArrays_copyOf_2 : decode bArrays_copyOf 2 = .ok (.arraylength, 1) := by decide +kernel
theorem dArrays_copyOf_3 : decode bArrays_copyOf 3 = .ok (.if_icmp .ne 11, 3) := by decide +kernel
theorem dArrays_copyOf_6 : decode bArrays_copyOf 6 = .ok (.aload_n 0, 1) := by decide +kernel
theorem dArrays_copyOf_7 : decode bArrays_copyOf 7 = .ok (.invokevirtual 316, 3) := by decide +kernel
theorem dArrays_copyOf_10 : decode bArrays_copyOf 10 = .ok (.checkcast 317, 3) := by decide +kernel
theorem dArrays_copyOf_13 : decode bArrays_copyOf 13 = .ok (.areturn, 1) := by decide +kernel
theorem dArrays_copyOf_14 : decode bArrays_copyOf 14 = .ok (.iload_n 1, 1) := by decide +kernel
theorem dArrays_copyOf_15 : decode bArrays_copyOf 15 = .ok (.newarray .int, 2) := by decide +kernel
theorem dArrays_copyOf_17 : decode bArrays_copyOf 17 = .ok (.astore_n 2, 1) := by decide +kernel
theorem dArrays_copyOf_18 : decode bArrays_copyOf 18 = .ok (.aload_n 0, 1) := by decide +kernel
theorem dArrays_copyOf_19 : decode bArrays_copyOf 19 = .ok (.iconst 0, 1) := by decide +kernel
theorem dArrays_copyOf_20 : decode bArrays_copyOf 20 = .ok (.aload_n 2, 1) := by decide +kernel
theorem dArrays_copyOf_21 : decode bArrays_copyOf 21 = .ok (.iconst 0, 1) := by decide +kernel
theorem dArrays_copyOf_22 : decode bArrays_copyOf 22 = .ok (.aload_n 0, 1) := by decide +kernel
theorem dArrays_copyOf_23 : decode bArrays_copyOf 23 = .ok (.arraylength, 1) := by decide +kernel
theorem dArrays_copyOf_24 : decode bArrays_copyOf 24 = .ok (.iload_n 1, 1) := by decide +kernel
theorem dArrays_copyOf_25 : decode bArrays_copyOf 25 = .ok (.invokestatic 304, 3) := by decide +kernel
theorem dArrays_copyOf_28 : decode bArrays_copyOf 28 = .ok (.invokestatic 150, 3) := by decide +kernel
theorem dArrays_copyOf_31 : decode bArrays_copyOf 31 = .ok (.aload_n 2, 1) := by decide +kernel
theorem dArrays_copyOf_32 : decode bArrays_copyOf 32 = .ok (.areturn, 1) := by decide +kernel
theorem dEntry_init_0 : decode bEntry_init 0 = .ok (.aload_n 0, 1) := by decide +kernel
theorem dEntry_init_1 : decode bEntry_init 1 = .ok (.invokespecial 1, 3) := by decide +kernel
theorem dEntry_init_4 : decode bEntry_init 4 = .ok (.aload_n 0, 1) := by decide +kernel
theorem dEntry_init_5 : decode bEntry_init 5 = .ok (.new 7, 3) := by decide +kernel
theorem dEntry_init_8 : decode bEntry_init 8 = .ok (.dup, 1) := by decide +kernel
theorem dEntry_init_9 : decode bEntry_init 9 = .ok (.invokespecial 9, 3) := by decide +kernel
theorem dEntry_init_12 : decode bEntry_init 12 = .ok (.putfield 10, 3) := by decide +kernel
theorem dEntry_init_15 : decode bEntry_init 15 = .ok (.aload_n 0, 1) := by decide +kernel
theorem dEntry_init_16 : decode bEntry_init 16 = .ok (.getfield 10, 3) := by decide +kernel
theorem dEntry_init_19 : decode bEntry_init 19 = .ok (.aload_n 1, 1) := by decide +kernel
theorem dEntry_init_20 : decode bEntry_init 20 = .ok (.invokevirtual 16, 3) := by decide +kernel
theorem dEntry_init_23 : decode bEntry_init 23 = .ok (.aload_n 0, 1) := by decide +kernel
theorem dEntry_init_24 : decode bEntry_init 24 = .ok (.iload_n 2, 1) := by decide +kernel
theorem dEntry_init_25 : decode bEntry_init 25 = .ok (.putfield 20, 3) := by decide +kernel
theorem dEntry_init_28 : decode bEntry_init 28 = .ok (.aload_n 0, 1) := by decide +kernel
theorem dEntry_init_29 : decode bEntry_init 29 = .ok (.iload_n 3, 1) := by decide +kernel
theorem dEntry_init_30 : decode bEntry_init 30 = .ok (.putfield 24, 3) := by decide +kernel
theorem dEntry_init_33 : decode bEntry_init 33 = .ok (.aload_n 0, 1) := by decide +kernel
theorem dEntry_init_34 : decode bEntry_init 34 = .ok (.aload 4, 2) := by decide +kernel
theorem dEntry_init_36 : decode bEntry_init 36 = .ok (.getfield 27, 3) := by decide +kernel
theorem dEntry_init_39 : decode bEntry_init 39 = .ok (.putfield 32, 3) := by decide +kernel
theorem dEntry_init_42 : decode bEntry_init 42 = .ok (.aload_n 0, 1) := by decide +kernel
theorem dEntry_init_43 : decode bEntry_init 43 = .ok (.aload 4, 2) := by decide +kernel
theorem dEntry_init_45 : decode bEntry_init 45 = .ok (.getfield 33, 3) := by decide +kernel
theorem dEntry_init_48 : decode bEntry_init 48 = .ok (.putfield 36, 3) := by decide +kernel
theorem dEntry_init_51 : decode bEntry_init 51 = .ok (.aload_n 0, 1) := by decide +kernel
theorem dEntry_init_52 : decode bEntry_init 52 = .ok (.aload 4, 2) := by decide +kernel
theorem dEntry_init_54 : decode bEntry_init 54 = .ok (.getfield 37, 3) := by decide +kernel
theorem dEntry_init_57 : decode bEntry_init 57 = .ok (.putfield 40, 3) := by decide +kernel
theorem dEntry_init_60 : decode bEntry_init 60 = .ok (.aload_n 0, 1) := by decide +kernel
theorem dEntry_init_61 : decode bEntry_init 61 = .ok (.aload 4, 2) := by decide +kernel
theorem dEntry_init_63 : decode bEntry_init 63 = .ok (.getfield 41, 3) := by decide +kernel
theorem dEntry_init_66 : decode bEntry_init 66 = .ok (.aload 4, 2) := by decide +kernel
theorem dEntry_init_68 : decode bEntry_init 68 = .ok (.getfield 45, 3) := by decide +kernel
theorem dEntry_init_71 : decode bEntry_init 71 = .ok (.invokestatic 48, 3) := by decide +kernel
theorem dEntry_init_74 : decode bEntry_init 74 = .ok (.putfield 54, 3) := by decide +kernel
theorem dEntry_init_77 : decode bEntry_init 77 = .ok (.return_, 1) := by decide +kernel
theorem caEntry_16 : zCal "CallExplorer$Entry" 16 ySequence_copy "CallExplorer$Sequence" bSequence_copy 2 none 1 := ⟨q584, q581, q582, q583, q7, rfl, by decide, by decide, by decide +kernel⟩
theorem zW_push {N : Nat} {ad : Nat → Nat} {F : zSh} {h : zM} (q : Nat) (G : (Nat → Int32) → va_E) (g0 : Nat → Int32) : zW N ad F h ++ [(q, G g0)] = zW (N + 1) (va_up ad N q) (va_up F N G) (va_up h N g0) := by
  unfold zW
  rw [List.range_succ, List.map_append]
  congr 1
  · apply List.map_congr_left
    intro o ho
    have := List.mem_range.mp ho
    simp [va_up, Nat.ne_of_lt this]
  · simp [va_up]
theorem zW_shape {N : Nat} {ad : Nat → Nat} {F : zSh} {h : zM} {o : Nat} (ho : o < N) (G : (Nat → Int32) → va_E) : (zW N ad F h).set o (ad o, G (h o)) = zW N ad (va_up F o G) h := by
  apply List.ext_getElem?
  intro k
  by_cases hk : k = o
  · subst hk
    rw [List.getElem?_set_self (by rw [zW_len]; exact ho), zW_at ho]
    simp [va_up]
  · rw [List.getElem?_set_ne (Ne.symm hk)]
    by_cases hl : k < N
    · rw [zW_at hl, zW_at hl]
      simp [va_up, hk]
    · rw [List.getElem?_eq_none (by rw [zW_len]; omega), List.getElem?_eq_none (by rw [zW_len]; omega)]
theorem zW_congr {N : Nat} {ad ad' : Nat → Nat} {F F' : zSh} {h h' : zM} (hc : ∀ o, o < N → ad o = ad' o ∧ F o (h o) = F' o (h' o)) : zW N ad F h = zW N ad' F' h' := by
  unfold zW
  apply List.map_congr_left
  intro o ho
  obtain ⟨h1, h2⟩ := hc o (List.mem_range.mp ho)
  rw [h1, h2]
theorem zJ_of {A : Nat → Prop} {N : Nat} {ad : Nat → Nat} {F : zSh} {h : zM} (hD : va_D A (zW N ad F h)) : zJ A N ad :=
  ⟨fun o o' h1 h2 he => hD.1 o o' _ _ (zW_at h1) (zW_at h2) he, fun o h1 => hD.2 o _ (zW_at h1)⟩
theorem zup_ne {α : Type} {f : Nat → α} {k j : Nat} {v : α} (h : j ≠ k) : va_up f k v j = f j := by simp [va_up, h]
theorem zup_eq {α : Type} {f : Nat → α} {k : Nat} {v : α} : va_up f k v k = v := by simp [va_up]
def zPa (D : va_G) (tys : List (ClassId × FieldType)) (N : Nat) (ad : Nat → Nat) (F : zSh) (A : Nat → Prop) (sz : Nat) (h : zM) (U : State) : Prop := zPre D tys N ad F A h U ∧ sz ≤ U.heap.size
theorem zPa_blind {D : va_G} {tys : List (ClassId × FieldType)} {N : Nat} {ad : Nat → Nat} {F : zSh} {A : Nat → Prop} {sz : Nat} {h : zM} {av : List Value} : FrameBlind (va_Pc av (zPa D tys N ad F A sz h)) := fun a U g mk q => by
  obtain ⟨q0, ⟨qP, qK, qT, qN⟩, qz⟩ := q
  exact ⟨q0, ⟨qP, va_K.moved (u := U) (U := U.calling g mk a) (Vm.Alike.refl U.vm) qK, zTab.moved (u := U) (U := U.calling g mk a) (Vm.Alike.refl U.vm) qT, qN.same rfl⟩, qz⟩
theorem zPa_at {s : State} {H : Heap} {locs : List Loc} {D : va_G} {tys : List (ClassId × FieldType)} {N : Nat} {ad : Nat → Nat} {F : zSh} {A : Nat → Prop} {sz : Nat} {h : zM} (hK : va_K D zcl tys s) (hT : zTab A s s.heap) (hN : zNe s) (hP : va_P D zcl (zW N ad F h) H) (hS : va_S A s.heap H locs) (hz : sz ≤ s.heap.size) {av : List Value} : ∀ U : State, U.heap = H → s.WarmedH U.vm → va_Pc av (zPa D tys N ad F A sz h) av.toArray U := fun U hU hW =>
  ⟨rfl, (zPre_at (av := av) hK hT hN hP hS U hU hW).2, by rw [hU]; exact Nat.le_trans hz hS.1⟩
set_option maxHeartbeats 4000000 in
set_option maxRecDepth 100000 in
/-- a Sequence's constructor, in a world by numbers -/
theorem zSequence_init (l : Launch) (D : va_G) (tys : List (ClassId × FieldType)) (N : Nat) (ad : Nat → Nat) (F : zSh) (A : Nat → Prop) (sz : Nat) (hJ : zJ A N ad) (hA : ∀ q, sz ≤ q → A q) (cI : ClassId) (hI : tys[0]? = some (cI, .int)) (o : Nat) (ho : o < N) (hF : ∀ g, F o g = .inr (7, [.int (g 0), .null])) (h : zM) : Met l ySequence_init (.code ySequence_init bSequence_init 1 none :: zt) rmSequence_init (va_Pc [.ref (ad o)] (zPa D tys N ad F A sz h)) (va_Qv (fun q : Nat => zJ A (N + 1) (va_up ad N q)) (fun q t => zPst D tys (N + 1) (va_up ad N q) (va_up (va_up F N (fun g => .inl (cI, 50, .inl g))) o (fun g => .inr (7, [.int (g 0), .ref q]))) (va_up h N (fun _ => 0)) t) A) 1 50 A := by
  refine Met.ofW (cc := bSequence_init) (maxL := 1) (ret := none) (by decide) rfl ?_
  intro p e s m args below meth c s₁ B hml hv
  obtain ⟨hargs, ⟨hP, hK, hT, hN⟩, hz⟩ := hv
  have hr := B.returns
  have hlk := B.notSynchronized
  have S : zS p m c bSequence_init 1 s _ "CallExplorer$Sequence" := ⟨B.exec, B.bytes, hml, findClass_of_methodNamed B.named, fun w hw => atoms_spec (ws := .code ySequence_init bSequence_init 1 none :: zt) B.pre w (List.mem_cons_of_mem _ hw)⟩
  have hin : meth.name = "<init>" := (name_of_methodNamed B.named B.method).1
  have hS : va_S A s.heap s.heap [] := va_S.rf
  have hA' : ∀ q, s.heap.size ≤ q → A q := fun q h => hA q (Nat.le_trans hz h)
  have hl := lv_entry ([.ref (ad o)]) (n := 1) (Nat.le_of_ble_eq_true rfl)
  rw [show entryFrame m args 1 = entryFrame m ([.ref (ad o)] : List Value).toArray 1 by rw [hargs], lg_entry_eq]
  generalize (lg_sl ([.ref (ad o)]) ++ List.replicate (1 - (lg_sl ([.ref (ad o)])).length) Slot.unset).toArray = ls at hl ⊢
  have hl : lv_has ls 1 [(0, .ref (ad o))] := hl
  refine lv_aload_n S.1 S.2.1 dSequence_init_0 rfl (lv_at hl 0 rfl) ?_
  refine zn_obj S hl.1 q176 q22 q23 (Nat.le_of_ble_eq_true rfl) (Nat.le_of_ble_eq_true rfl) dSequence_init_1 ?_
  refine lv_aload_n S.1 S.2.1 dSequence_init_4 rfl (lv_at hl 0 rfl) ?_
  refine lv_bipush (v := 50) S.1 S.2.1 dSequence_init_5 (by decide) ?_
  refine zn_newa S q68 rfl hK hP (zD hJ) hS hA' 0 hI 50 rfl (by decide) rfl (by decide) (Nat.le_of_ble_eq_true rfl) (Nat.le_of_ble_eq_true rfl) dSequence_init_7 (fun q H hP hD hS => ?_)
  have e1 := zW_push (N := N) (ad := ad) (F := F) (h := h) q (fun g => .inl (cI, 50, .inl g)) (fun _ => 0)
  rw [e1] at hP hD
  have hJ1 := zJ_of hD
  have hoN : o ≠ N := Nat.ne_of_lt ho
  have ho1 : o < N + 1 := Nat.lt_succ_of_lt ho
  have ea : ad o = va_up ad N q o := (zup_ne hoN).symm
  have eF : va_up F N (fun g => .inl (cI, 50, .inl g)) o (va_up h N (fun _ => 0) o) = .inr (7, [.int (h o 0), .null]) := by rw [zup_ne hoN, zup_ne hoN, hF]
  rw [ea]
  refine zn_putF (v := .ref q) S hin hK hP hD hS o (by rw [zW_at ho1, eF]) fSequence_cells rfl q185 rfl rfl (Nat.le_of_ble_eq_true rfl) dSequence_init_9 (fun H locs hP hD hS => ?_)
  have e2 := zW_shape (N := N + 1) (ad := va_up ad N q) (F := va_up F N (fun g => .inl (cI, 50, .inl g))) (h := va_up h N (fun _ => 0)) ho1 (fun g => .inr (7, [.int (g 0), .ref q]))
  have e3 : (va_up h N (fun _ => 0) : zM) o = h o := zup_ne hoN
  rw [e3] at e2
  have hP : va_P D zcl ((zW (N + 1) (va_up ad N q) (va_up F N (fun g => .inl (cI, 50, .inl g))) (va_up h N (fun _ => 0))).set o (va_up ad N q o, .inr (7, [.int (h o 0), .ref q]))) H := hP
  rw [e2] at hP
  exact W.vret S.1 S.2.1 hr (fun t ht hW => ⟨⟨q, rfl, hJ1, by rw [ht]; exact hP, va_K.moved hW.alike hK⟩, hS.F ht⟩) hS.2.2 dSequence_init_12 hlk
section ZG
variable {p : Program} {l : Launch} {e : Env} {R : Room} {s : State} {m : MethodId} {args : Array Value} {below : List Frame} {meth : Method} {c : Code} {H : Heap} {locs : List Loc} {cells slots : Nat} {Q : State → Prop}
variable {cc : ByteArray} {pc nL : Nat} {ls : Array Slot} {rest : List Value} {D : va_G} {A : Nat → Prop} {tys : List (ClassId × FieldType)} {H0 : Heap} {own : String} {N : Nat} {ad : Nat → Nat} {F : zSh} {h : zM}
variable {index mL n mc ms sz : Nat} {y : MethodName} {C : String} {b : ByteArray} {ret : Option FieldType} {rm : Room} {As st0 : List Value} {Qc : Array Value → State → Outcome → State → Prop} {a : Nat}
/-- a final int field, in a constructor, in a world by numbers -/
theorem zg_putFi (S : zS p m c cc nL s args own) (hin2 : meth.name = "<init>") (hK : va_K D zcl tys s) (hJ : zJ A N ad) (hP : va_P D zcl (zW N ad F h) H) (hS : va_S A H0 H locs) {o ci k : Nat} {C nm ds : String} {ty : FieldType} {fs : List Value} {v : Int32} (ho : o < N) (hF : F o (h o) = .inr (ci, fs)) (hf : zFld ci k C nm ds true ty) (hC : C = own) (hlink : Cond.fieldLink own index C nm ds ∈ zt) (hn : narrow ty (.int v) = .int v) (hfit : fits ty (.int v) = true) (hl : k < fs.length) (hF2 : F o (upd (h o) k v) = .inr (ci, fs.set k (.int v))) (hdg : decode cc pc = .ok (.putfield index, 3))
    (kk : ∀ (h1 : zM) (H1 : Heap) (locs1 : List Loc), h1 = zu h o k v → va_P D zcl (zW N ad F h1) H1 → va_S A H0 H1 locs1 → W p l e R s m args below meth c H1 locs1 cells slots Q (F0 m (pc + 3) ls rest)) : W p l e R s m args below meth c H locs cells slots Q (F0 m pc ls (.int v :: .ref (ad o) :: rest)) := by
  refine zn_putF S hin2 hK hP (zD hJ) hS o (by rw [zW_at ho, hF]) hf hC hlink hn hfit hl hdg (fun H1 locs1 hP1 _ hS1 => kk _ H1 locs1 rfl ?_ hS1)
  rw [← hF2, zW_up ho] at hP1
  exact hP1
/-- a final field that is a reference: the shape changes -/
theorem zg_putFr (S : zS p m c cc nL s args own) (hin2 : meth.name = "<init>") (hK : va_K D zcl tys s) (hJ : zJ A N ad) (hP : va_P D zcl (zW N ad F h) H) (hS : va_S A H0 H locs) {o ci k : Nat} {C nm ds : String} {ty : FieldType} {fs : List Value} {v : Value} (ho : o < N) (hF : F o (h o) = .inr (ci, fs)) (hf : zFld ci k C nm ds true ty) (hC : C = own) (hlink : Cond.fieldLink own index C nm ds ∈ zt) (hn : narrow ty v = v) (hfit : fits ty v = true) (hl : k < fs.length) (G : (Nat → Int32) → va_E) (hG : G (h o) = .inr (ci, fs.set k v)) (hdg : decode cc pc = .ok (.putfield index, 3))
    (kk : ∀ (H1 : Heap) (locs1 : List Loc), va_P D zcl (zW N ad (va_up F o G) h) H1 → va_S A H0 H1 locs1 → W p l e R s m args below meth c H1 locs1 cells slots Q (F0 m (pc + 3) ls rest)) : W p l e R s m args below meth c H locs cells slots Q (F0 m pc ls (v :: .ref (ad o) :: rest)) := by
  refine zn_putF S hin2 hK hP (zD hJ) hS o (by rw [zW_at ho, hF]) hf hC hlink hn hfit hl hdg (fun H1 locs1 hP1 _ hS1 => kk H1 locs1 ?_ hS1)
  rw [← hG, zW_shape ho] at hP1
  exact hP1
theorem zg_V (S : zS p m c cc nL s args own) (hK : va_K D zcl tys s) (hT : zTab A s s.heap) (hN : zNe s) (hP : va_P D zcl (zW N ad F h) H) (hS : va_S A s.heap H locs) {o ci N0 : Nat} {T : u_T} {fs : List Value} (ho : o < N) (hF : F o (h o) = .inr (ci, fs)) (hcl : zcl[ci]? = some (C, T, N0)) (hM : Met l y (.code y b mL ret :: zt) rm (va_Pc (.ref (ad o) :: As) (zPre D tys N ad F A h)) Qc 0 0 A) (hc : zCal own index y C b mL ret n) (hR : rm.frames + 1 ≤ R.frames ∧ 8 + (mL + 11) + rm.locals ≤ R.locals) (h0 : rm.cells = 0 ∧ rm.slots = 0) (hn : As.length = n) (hsz : ls.size = nL) (hst : st0 = As.reverse ++ .ref (ad o) :: rest) (hW : (rest.map fun v => v.category).sum ≤ 8) (hdg : decode cc pc = .ok (.invokevirtual index, 3)) (hf : cells ≤ R.cells ∧ slots ≤ R.slots) : va_Run p l e R s m args below meth c H locs cells slots 0 0 (F0 m pc ls st0) rest (Qc (Value.ref (ad o) :: As).toArray) A :=
  va_runV S hM (zCw S.2.2.2.2 hc hR h0.1 h0.2) ⟨zBlind, va_recv hK hP hcl (q0 := o) (by rw [zW_at ho, hF]), zPre_at hK hT hN hP hS⟩ rfl hn hsz hst (lv_room (rest := st0) hW) hdg hf
/-- calls that make cells -/
theorem zg_VA (S : zS p m c cc nL s args own) (hK : va_K D zcl tys s) (hT : zTab A s s.heap) (hN : zNe s) (hP : va_P D zcl (zW N ad F h) H) (hS : va_S A s.heap H locs) (hz : sz ≤ s.heap.size) {o ci N0 : Nat} {T : u_T} {fs : List Value} (ho : o < N) (hF : F o (h o) = .inr (ci, fs)) (hcl : zcl[ci]? = some (C, T, N0)) (hM : Met l y (.code y b mL ret :: zt) rm (va_Pc (.ref (ad o) :: As) (zPa D tys N ad F A sz h)) Qc mc ms A) (hc : zCal own index y C b mL ret n) (hR : rm.frames + 1 ≤ R.frames ∧ 8 + (mL + 11) + rm.locals ≤ R.locals) (h0 : rm.cells = mc ∧ rm.slots = ms) (hn : As.length = n) (hsz : ls.size = nL) (hst : st0 = As.reverse ++ .ref (ad o) :: rest) (hW : (rest.map fun v => v.category).sum ≤ 8) (hdg : decode cc pc = .ok (.invokevirtual index, 3)) (hf : cells + mc ≤ R.cells ∧ slots + ms ≤ R.slots) : va_Run p l e R s m args below meth c H locs cells slots mc ms (F0 m pc ls st0) rest (Qc (Value.ref (ad o) :: As).toArray) A :=
  va_runV S hM (zCw S.2.2.2.2 hc hR h0.1 h0.2) ⟨zPa_blind, va_recv hK hP hcl (q0 := o) (by rw [zW_at ho, hF]), zPa_at hK hT hN hP hS hz⟩ rfl hn hsz hst (lv_room (rest := st0) hW) hdg hf
theorem zg_I (S : zS p m c cc nL s args own) (hK : va_K D zcl tys s) (hT : zTab A s s.heap) (hN : zNe s) (hP : va_P D zcl (zW N ad F h) H) (hS : va_S A s.heap H locs) (hz : sz ≤ s.heap.size) (hM : Met l y (.code y b mL none :: zt) rm (va_Pc (.ref a :: As) (zPa D tys N ad F A sz h)) Qc mc ms A) (hcode : Cond.code y b mL none ∈ zt) (hlink : Cond.methodLink own index y ∈ zt) (hinst : Cond.instanceMethod y ∈ zt) (hini : Cond.initialized y.cls ∈ zt) (hy : y.name = "<init>") (hd : y.cls ≠ "java/lang/invoke/MethodHandle" ∧ y.cls ≠ "java/lang/invoke/VarHandle" ∧ (parseMethodDescriptor y.desc).map (fun d => d.parameters.length) = some n) (hR : rm.frames + 1 ≤ R.frames ∧ 8 + (mL + 11) + rm.locals ≤ R.locals) (h0 : rm.cells = mc ∧ rm.slots = ms) (hn : As.length = n) (hsz : ls.size = nL) (hst : st0 = As.reverse ++ .ref a :: rest) (hW : (rest.map fun v => v.category).sum ≤ 8) (hdg : decode cc pc = .ok (.invokespecial index, 3)) (hf : cells + mc ≤ R.cells ∧ slots + ms ≤ R.slots) : va_Run p l e R s m args below meth c H locs cells slots mc ms (F0 m pc ls st0) rest (Qc (Value.ref a :: As).toArray) A :=
  va_runI S hM (cwI n S.2.2.2.2 (zIn hcode) rfl h0.1 h0.2 (S.2.2.2.2 _ hini) (S.2.2.2.2 _ hlink) (S.2.2.2.2 _ hinst) hy hd hR) ⟨zPa_blind, zPa_at hK hT hN hP hS hz⟩ rfl hn hsz hst (lv_room (rest := st0) hW) hdg hf
theorem zg_IN (S : zS p m c cc nL s args own) (hK : va_K D zcl tys s) (hT : zTab A s s.heap) (hN : zNe s) (hP : va_P D zcl (zW N ad F h) H) (hS : va_S A s.heap H locs) (hz : sz ≤ s.heap.size) (hM : Met l y (.code y b mL none :: zt) rm (va_Pc (.ref a :: As) (zPa D tys N ad F A sz h)) Qc mc ms A) (hcode : Cond.code y b mL none ∈ zt) {host : String} (hlink : (own, index, y, host) ∈ znM) (hinst : Cond.instanceMethod y ∈ zt) (hini : Cond.initialized y.cls ∈ zt) (hy : y.name = "<init>") (hd : y.cls ≠ "java/lang/invoke/MethodHandle" ∧ y.cls ≠ "java/lang/invoke/VarHandle" ∧ (parseMethodDescriptor y.desc).map (fun d => d.parameters.length) = some n) (hR : rm.frames + 1 ≤ R.frames ∧ 8 + (mL + 11) + rm.locals ≤ R.locals) (h0 : rm.cells = mc ∧ rm.slots = ms) (hn : As.length = n) (hsz : ls.size = nL) (hst : st0 = As.reverse ++ .ref a :: rest) (hW : (rest.map fun v => v.category).sum ≤ 8) (hdg : decode cc pc = .ok (.invokespecial index, 3)) (hf : cells + mc ≤ R.cells ∧ slots + ms ≤ R.slots) : va_Run p l e R s m args below meth c H locs cells slots mc ms (F0 m pc ls st0) rest (Qc (Value.ref a :: As).toArray) A :=
  va_runIN S hM ⟨va_cnB n S.2.2.2.2 (zIn hcode) rfl h0.1 h0.2 (hN.2.1 _ hlink) (S.2.2.2.2 _ hini) hd hR, hy, S.2.2.2.2 _ hinst⟩ ⟨zPa_blind, zPa_at hK hT hN hP hS hz⟩ rfl hn hsz hst (lv_room (rest := st0) hW) hdg hf
theorem zg_S (S : zS p m c cc nL s args own) (hK : va_K D zcl tys s) (hT : zTab A s s.heap) (hN : zNe s) (hP : va_P D zcl (zW N ad F h) H) (hS : va_S A s.heap H locs) (hz : sz ≤ s.heap.size) (hM : Met l y (.code y b mL ret :: zt) rm (va_Pc As (zPa D tys N ad F A sz h)) Qc mc ms A) (hcode : Cond.code y b mL ret ∈ zt) (hlink : Cond.methodLink own index y ∈ zt) (hstat : Cond.static y ∈ zt) (hini : Cond.initialized y.cls ∈ zt) (hd : y.cls ≠ "java/lang/invoke/MethodHandle" ∧ y.cls ≠ "java/lang/invoke/VarHandle" ∧ (parseMethodDescriptor y.desc).map (fun d => d.parameters.length) = some n) (hR : rm.frames + 1 ≤ R.frames ∧ 8 + (mL + 11) + rm.locals ≤ R.locals) (h0 : rm.cells = mc ∧ rm.slots = ms) (hn : As.length = n) (hsz : ls.size = nL) (hst : st0 = As.reverse ++ rest) (hW : (rest.map fun v => v.category).sum ≤ 8) (hdg : decode cc pc = .ok (.invokestatic index, 3)) (hf : cells + mc ≤ R.cells ∧ slots + ms ≤ R.slots) : va_Run p l e R s m args below meth c H locs cells slots mc ms (F0 m pc ls st0) rest (Qc As.toArray) A := by
  refine va_runS S hM (va_cwS n S.2.2.2.2 (fun w hw => ?_) rfl h0.1 h0.2 hd hR) ⟨zPa_blind, zPa_at hK hT hN hP hS hz⟩ rfl hn hsz hst (lv_room (rest := st0) hW) hdg hf
  have hm : w ∈ zt := by
    rcases List.mem_append.mp hw with h | h
    · simp only [List.mem_cons, List.not_mem_nil, or_false] at h
      rcases h with rfl | rfl | rfl <;> assumption
    · rcases List.mem_cons.mp h with rfl | h
      · exact hcode
      · exact h
  exact ⟨hm, zgood w hm⟩
end ZG
abbrev rmArrays_copyOf : Room := { frames := 1, cells := 1, slots := 20, locals := 18 }
set_option maxHeartbeats 4000000 in
set_option maxRecDepth 100000 in
/-- Arrays.copyOf of an int array, not longer than it -/
theorem zArrays_copyOf (l : Launch) (D : va_G) (tys : List (ClassId × FieldType)) (N : Nat) (ad : Nat → Nat) (F : zSh) (A : Nat → Prop) (sz : Nat) (hJ : zJ A N ad) (hA : ∀ q, sz ≤ q → A q) (cI : ClassId) (hI : tys[0]? = some (cI, .int)) (o L k : Nat) (ho : o < N) (hF : ∀ g, F o g = .inl (cI, L, .inl g)) (hk : k ≤ L) (hL : L ≤ 20) (h : zM) : Met l yArrays_copyOf (.code yArrays_copyOf bArrays_copyOf 3 (some (.array .int)) :: zt) rmArrays_copyOf (va_Pc [.ref (ad o), .int (nI k)] (zPa D tys N ad F A sz h)) (va_Qr (fun g : Nat → Int32 => ∀ i, i < k → g i = h o i) (fun g q t => zJ A (N + 1) (va_up ad N q) ∧ zPst D tys (N + 1) (va_up ad N q) (va_up F N (fun g => .inl (cI, k, .inl g))) (va_up h N g) t) A) 1 20 A := by
  refine Met.ofW (cc := bArrays_copyOf) (maxL := 3) (ret := some (.array .int)) (by decide) rfl ?_
  intro p e s m args below meth c s₁ B hml hv
  obtain ⟨hargs, ⟨hP, hK, hT, hN⟩, hz⟩ := hv
  have hr := B.returns
  have hlk := B.notSynchronized
  have S : zS p m c bArrays_copyOf 3 s _ "java/util/Arrays" := ⟨B.exec, B.bytes, hml, findClass_of_methodNamed B.named, fun w hw => atoms_spec (ws := .code yArrays_copyOf bArrays_copyOf 3 (some (.array .int)) :: zt) B.pre w (List.mem_cons_of_mem _ hw)⟩
  have hS : va_S A s.heap s.heap [] := va_S.rf
  have hA' : ∀ q, s.heap.size ≤ q → A q := fun q h => hA q (Nat.le_trans hz h)
  have hl := lv_entry ([.ref (ad o), .int (nI k)]) (n := 3) (Nat.le_of_ble_eq_true rfl)
  rw [show entryFrame m args 3 = entryFrame m ([.ref (ad o), .int (nI k)] : List Value).toArray 3 by rw [hargs], lg_entry_eq]
  generalize (lg_sl ([.ref (ad o), .int (nI k)]) ++ List.replicate (3 - (lg_sl ([.ref (ad o), .int (nI k)])).length) Slot.unset).toArray = ls at hl ⊢
  have hl : lv_has ls 3 [(0, .ref (ad o)), (1, .int (nI k))] := hl
  have hoN : o ≠ N := Nat.ne_of_lt ho
  have ho1 : o < N + 1 := Nat.lt_succ_of_lt ho
  have hNN : N < N + 1 := Nat.lt_succ_self N
  have hfc : s.vm.findClass "[I" = some cI := (hK.2 0 _ hI).2
  refine lv_iload_n S.1 S.2.1 dArrays_copyOf_0 rfl (lv_at hl 1 rfl) ?_
  refine lv_aload_n S.1 S.2.1 dArrays_copyOf_1 rfl (lv_at hl 0 rfl) ?_
  refine zr_len S hK hP ho (hF _) 0 hI dArrays_copyOf_2 ?_
  refine lv_icmp_ne S.1 S.2.1 dArrays_copyOf_3 rfl (fun hc => ?_) (fun hc => ?_)
  · have hlt : k < L := Nat.lt_of_le_of_ne hk (fun q => hc (by rw [q]))
    refine lv_iload_n S.1 S.2.1 dArrays_copyOf_14 rfl (lv_at hl 1 rfl) ?_
    refine zn_newa S q68 rfl hK hP (zD hJ) hS hA' 0 hI k rfl (nI_pos (by omega)) (nI_clamp (by omega)) (by show k * 4 ≤ _; omega) (Nat.le_of_ble_eq_true rfl) (by show 0 + k ≤ 20; omega) dArrays_copyOf_15 (fun q H hP hD hS => ?_)
    have e1 := zW_push (N := N) (ad := ad) (F := F) (h := h) q (fun g => .inl (cI, k, .inl g)) (fun _ => 0)
    rw [e1] at hP hD
    have hJ1 := zJ_of hD
    obtain ⟨ad1, ea⟩ : ∃ x, x = va_up ad N q := ⟨_, rfl⟩
    have a0 : ad o = ad1 o := by rw [ea]; exact (zup_ne hoN).symm
    have aN : q = ad1 N := by rw [ea]; exact zup_eq.symm
    rw [← ea] at hP hJ1
    rw [a0] at hl
    refine W.widen (k := 1) (n := 20) (Nat.le_of_ble_eq_true rfl) (by omega) ?_
    refine lv_astore_n (lv' := [(2, .ref q), (0, .ref (ad1 o)), (1, .int (nI k))]) S.1 S.2.1 dArrays_copyOf_17 rfl hl (by decide) rfl (fun ls hl => ?_)
    have hl : lv_has ls 3 [(2, .ref (ad1 N)), (0, .ref (ad1 o)), (1, .int (nI k))] := by rw [← aN]; exact hl
    refine lv_aload_n S.1 S.2.1 dArrays_copyOf_18 rfl (lv_at hl 1 rfl) ?_
    refine lv_iconst (v := 0) S.1 S.2.1 dArrays_copyOf_19 (by decide) ?_
    refine lv_aload_n S.1 S.2.1 dArrays_copyOf_20 rfl (lv_at hl 0 rfl) ?_
    refine lv_iconst (v := 0) S.1 S.2.1 dArrays_copyOf_21 (by decide) ?_
    refine lv_aload_n S.1 S.2.1 dArrays_copyOf_22 rfl (lv_at hl 1 rfl) ?_
    have hF1 : ∀ g, va_up F N (fun g => .inl (cI, k, .inl g)) o g = .inl (cI, L, .inl g) := fun g => by rw [zup_ne hoN, hF]
    have hF2 : ∀ g, va_up F N (fun g => .inl (cI, k, .inl g)) N g = .inl (cI, k, .inl g) := fun g => by rw [zup_eq]
    refine zr_len S hK hP ho1 (hF1 _) 0 hI dArrays_copyOf_23 ?_
    refine lv_iload_n S.1 S.2.1 dArrays_copyOf_24 rfl (lv_at hl 2 rfl) ?_
    refine va_mmin S.1 S.2.1 (by rw [S.2.2.1]; exact hl.1.symm) S.2.2.2.1 (S.2.2.2.2 _ q595) (S.2.2.2.2 _ q596) (S.2.2.2.2 _ q15) (S.2.2.2.2 _ q597) (Nat.le_of_ble_eq_true rfl) (Nat.le_of_ble_eq_true rfl) (Nat.le_of_ble_eq_true rfl) (Nat.le_of_ble_eq_true rfl) dArrays_copyOf_25 ?_
    rw [if_pos (nI_lt hlt (by omega))]
    refine zr_copy S hl.1 hK hJ1 hP hS ho1 (hF1 _) hNN hF2 0 hI q598 q418 q417 q12 (by decide) (by decide) (nI_pos (by omega)) (by rw [nI_clamp (by omega)]; show 0 + k ≤ L; omega) (by rw [nI_clamp (by omega)]; show 0 + k ≤ k; omega) (Nat.le_of_ble_eq_true rfl) (Nat.le_of_ble_eq_true rfl) dArrays_copyOf_28 (fun h1 H locs e1 hP hS => ?_)
    refine lv_aload_n S.1 S.2.1 dArrays_copyOf_31 rfl (lv_at hl 0 rfl) ?_
    have e2 : (va_up h N (fun _ => 0) : zM) o = h o := zup_ne hoN
    have e3 : (va_up h N (fun _ => 0) : zM) N = fun _ => 0 := zup_eq
    have e4 : h1 = va_up h N (va_cpy (h o) (fun _ => 0) 0 0 k) := by
      rw [e1, nI_clamp (by omega), e2, e3]
      funext x
      by_cases hx : x = N
      · subst hx; rw [zup_eq, zup_eq]; rfl
      · rw [zup_ne hx, zup_ne hx, zup_ne hx]
    rw [e4] at hP
    rw [← aN]
    exact W.aret S.1 S.2.1 hr (Or.inr ⟨_, rfl⟩) (Or.inr ⟨_, rfl⟩) (fun t ht hW => ⟨⟨va_cpy (h o) (fun _ => 0) 0 0 k, q, rfl, fun i hi => by unfold va_cpy; rw [if_pos ⟨Nat.zero_le _, by omega⟩, Nat.zero_add, Nat.sub_zero], by rw [← ea]; exact hJ1, by rw [ht, ← ea]; exact hP, va_K.moved hW.alike hK⟩, hS.F ht⟩) hS.2.2 dArrays_copyOf_32 hlk
  · have hkL : k = L := (nI_eq (by omega) (by omega)).mp hc
    subst hkL
    refine lv_aload_n S.1 S.2.1 dArrays_copyOf_6 rfl (lv_at hl 0 rfl) ?_
    refine va_clone (x := (k, .inl (h o))) S.1 S.2.1 (by rw [S.2.2.1]; exact hl.1.symm) S.2.2.2.1 (S.2.2.2.2 _ q588) (S.2.2.2.2 _ q589) (S.2.2.2.2 _ q590) (S.2.2.2.2 _ q591) (S.2.2.2.2 _ q592) hN.2.2.2 hK hP (zD hJ) hS hA' o 0 (by rw [zW_at ho, hF]) hI hfc (fun i v hv => ?_) (Nat.le_of_ble_eq_true rfl) (Nat.le_of_ble_eq_true rfl) (Nat.le_of_ble_eq_true rfl) (by show 0 + k ≤ 20; omega) dArrays_copyOf_7 (fun q H _ hP hD hS => ?_)
    · have hv : (arrV cI k (fun j => .int (h o j))).slots[i]? = some v := hv
      have hi : i < k := by have := (Array.getElem?_eq_some_iff.mp hv).1; rwa [arrV_size] at this
      rw [arrV_read _ _ hi] at hv
      cases hv
      rfl
    · have e1 := zW_push (N := N) (ad := ad) (F := F) (h := h) q (fun g => .inl (cI, k, .inl g)) (h o)
      have hP : va_P D zcl (zW N ad F h ++ [(q, .inl (cI, k, .inl (h o)))]) H := hP
      have hD : va_D A (zW N ad F h ++ [(q, .inl (cI, k, .inl (h o)))]) := hD
      rw [e1] at hP hD
      have hJ1 := zJ_of hD
      refine W.widen (k := 1) (n := 20) (Nat.le_of_ble_eq_true rfl) (by show 0 + k ≤ 20; omega) ?_
      refine va_castA S.1 S.2.1 S.2.2.2.1 (S.2.2.2.2 _ q594) hP N (by rw [zW_at hNN, zup_eq, zup_eq, zup_eq]) hfc dArrays_copyOf_10 ?_
      exact W.aret S.1 S.2.1 hr (Or.inr ⟨_, rfl⟩) (Or.inr ⟨_, rfl⟩) (fun t ht hW => ⟨⟨h o, q, rfl, fun i hi => rfl, hJ1, by rw [ht]; exact hP, va_K.moved hW.alike hK⟩, hS.F ht⟩) hS.2.2 dArrays_copyOf_13 hlk
theorem zF_ad {ad ad' : Nat → Nat} {cI cC cE : ClassId} {n : Nat} {ln ln' : Nat → Nat} (hab : ∀ o, o < 34 + 4 * n → ad' o = ad o) (hln : ∀ j, j < n → ln' j = ln j) {o : Nat} (ho : o < 34 + 4 * n) (g : Nat → Int32) : zF ad' cI cC cE n ln' o g = zF ad cI cC cE n ln o g := by
  have hr : (fun e => if e < n then some (ad' (34 + 4 * e)) else none) = (fun e => if e < n then some (ad (34 + 4 * e)) else none) := by
    funext e
    by_cases he : e < n
    · rw [if_pos he, if_pos he, hab _ (by omega)]
    · rw [if_neg he, if_neg he]
  have hl : ∀ k, k < 34 → ad' k = ad k := fun k hk => hab k (by omega)
  unfold zF
  by_cases h34 : o < 34
  · rw [if_pos h34, if_pos h34]
    congr 1
    unfold zFl
    rw [hr, hl 1 (by decide), hl 2 (by decide), hl 3 (by decide), hl 4 (by decide), hl 5 (by decide), hl 6 (by decide), hl 7 (by decide), hl 8 (by decide), hl 9 (by decide), hl 10 (by decide), hl 11 (by decide), hl 12 (by decide), hl 13 (by decide), hl 14 (by decide), hl 15 (by decide), hl 16 (by decide), hl 17 (by decide), hl 18 (by decide), hl 19 (by decide), hl 20 (by decide), hl 21 (by decide), hl 22 (by decide), hl 23 (by decide), hl 24 (by decide), hl 25 (by decide), hl 26 (by decide), hl 27 (by decide), hl 28 (by decide), hl 29 (by decide), hl 30 (by decide), hl 31 (by decide), hl 32 (by decide), hl 33 (by decide)]
  · rw [if_neg h34, if_neg h34]
    have hj : (o - 34) / 4 < n := by omega
    have e1 : ad' (34 + 4 * ((o - 34) / 4) + 1) = ad (34 + 4 * ((o - 34) / 4) + 1) := hab _ (by omega)
    have e2 : ad' (34 + 4 * ((o - 34) / 4) + 2) = ad (34 + 4 * ((o - 34) / 4) + 2) := hab _ (by omega)
    have e3 : ad' (34 + 4 * ((o - 34) / 4) + 3) = ad (34 + 4 * ((o - 34) / 4) + 3) := hab _ (by omega)
    unfold zFe
    rw [e1, e2, e3, hln _ hj]
abbrev zGE (r1 r2 : Value) : (Nat → Int32) → va_E := fun g => .inr (2, [r1, .int (g 1), .int (g 2), .int (g 3), .int (g 4), .int (g 5), r2])
abbrev rmEntry_init : Room := { frames := 2, cells := 3, slots := 72, locals := 40 }
/-- what Entry's constructor leaves: the addresses, and the memory -/
def zEp (A : Nat → Prop) (b o1 k : Nat) (ad : Nat → Nat) (x2 x3 : Int32) (h : zM) (u : (Nat → Nat) × zM) : Prop :=
  zJ A (b + 4) u.1 ∧ (∀ o, o < b + 1 → u.1 o = ad o) ∧ (∀ o, o < b → u.2 o = h o) ∧ (u.2 b 1 = x3 ∧ u.2 b 2 = h 12 4 ∧ u.2 b 3 = x2 ∧ u.2 b 4 = h 12 5 ∧ u.2 b 5 = h 12 6) ∧ u.2 (b + 1) 0 = h o1 0 ∧ (∀ i, i < Int32.toNatClampNeg (h o1 0 * 5) → u.2 (b + 2) i = h (o1 + 1) i) ∧ ∀ i, i < k → u.2 (b + 3) i = h 14 i
set_option maxHeartbeats 8000000 in
set_option maxRecDepth 100000 in
theorem zEntry_init (l : Launch) (D : va_G) (cI cC cE : ClassId) (n : Nat) (ln : Nat → Nat) (b : Nat) (hb : b = 34 + 4 * n) (ad : Nat → Nat) (A : Nat → Prop) (sz : Nat) (hJ : zJ A (b + 1) ad) (hA : ∀ q, sz ≤ q → A q) (o1 : Nat) (ho1 : o1 + 1 < b) (hq1 : zSeq b ad (zF ad cI cC cE n ln) cI o1) (x2 x3 : Int32) (h : zM) (hs1 : ¬ h o1 0 * 5 < 0) (hs2 : Int32.toNatClampNeg (h o1 0 * 5) ≤ 50) (k : Nat) (hk : k ≤ 20) (hrl : h 12 7 = nI k) : Met l yEntry_init (.code yEntry_init bEntry_init 5 none :: zt) rmEntry_init (va_Pc [.ref (ad b), .ref (ad o1), .int x2, .int x3, .ref (ad 12)] (zPa D (zty cI cC cE) (b + 1) ad (va_up (zF ad cI cC cE n ln) b (zGE .null .null)) A sz h)) (va_Qv (zEp A b o1 k ad x2 x3 h) (fun u t => zPst D (zty cI cC cE) (b + 4) u.1 (zF u.1 cI cC cE n (va_up ln n k)) u.2 t) A) 3 72 A := by
  refine Met.ofW (cc := bEntry_init) (maxL := 5) (ret := none) (by decide) rfl ?_
  intro p e s m args below meth c s₁ B hml hv
  obtain ⟨hargs, ⟨hP, hK, hT, hN⟩, hz⟩ := hv
  have hr := B.returns
  have hlk := B.notSynchronized
  have S : zS p m c bEntry_init 5 s _ "CallExplorer$Entry" := ⟨B.exec, B.bytes, hml, findClass_of_methodNamed B.named, fun w hw => atoms_spec (ws := .code yEntry_init bEntry_init 5 none :: zt) B.pre w (List.mem_cons_of_mem _ hw)⟩
  have hin : meth.name = "<init>" := (name_of_methodNamed B.named B.method).1
  have hS : va_S A s.heap s.heap [] := va_S.rf
  have hA' : ∀ q, s.heap.size ≤ q → A q := fun q h => hA q (Nat.le_trans hz h)
  have h12 : 12 < b := by omega
  have h14 : 14 < b := by omega
  have hl := lv_entry ([.ref (ad b), .ref (ad o1), .int x2, .int x3, .ref (ad 12)]) (n := 5) (Nat.le_of_ble_eq_true rfl)
  rw [show entryFrame m args 5 = entryFrame m ([.ref (ad b), .ref (ad o1), .int x2, .int x3, .ref (ad 12)] : List Value).toArray 5 by rw [hargs], lg_entry_eq]
  generalize (lg_sl ([.ref (ad b), .ref (ad o1), .int x2, .int x3, .ref (ad 12)]) ++ List.replicate (5 - (lg_sl ([.ref (ad b), .ref (ad o1), .int x2, .int x3, .ref (ad 12)])).length) Slot.unset).toArray = ls at hl ⊢
  have hl : lv_has ls 5 [(0, .ref (ad b)), (1, .ref (ad o1)), (2, .int x2), (3, .int x3), (4, .ref (ad 12))] := hl
  refine lv_aload_n S.1 S.2.1 dEntry_init_0 rfl (lv_at hl 0 rfl) ?_
  refine zn_obj S hl.1 q578 q22 q23 (Nat.le_of_ble_eq_true rfl) (Nat.le_of_ble_eq_true rfl) dEntry_init_1 ?_
  refine lv_aload_n S.1 S.2.1 dEntry_init_4 rfl (lv_at hl 0 rfl) ?_
  generalize hFz : zF ad cI cC cE n ln = Fz at hP
  refine zn_new (ci := 7) (fs := [.int 0, .null]) S rfl inSequence tySequence tySequence_ok q579 q172 q7 hK hP (zD hJ) hS hA' (fun j hj => by rcases (show j = 0 ∨ j = 1 by omega) with rfl | rfl <;> rfl) (Nat.le_of_ble_eq_true rfl) (Nat.le_of_ble_eq_true rfl) dEntry_init_5 (fun q1 H hP hD hS => ?_)
  have w1 := zW_push (N := b + 1) (ad := ad) (F := va_up Fz b (zGE .null .null)) (h := h) q1 (fun g => .inr (7, [.int (g 0), .null])) (fun _ => 0)
  rw [w1] at hP hD
  have hJ1 := zJ_of hD
  refine W.widen (k := 1) (n := 2) (Nat.le_of_ble_eq_true rfl) (Nat.le_of_ble_eq_true rfl) ?_
  refine lv_dup S.1 S.2.1 dEntry_init_8 rfl ?_
  have hM := zSequence_init l D (zty cI cC cE) (b + 1 + 1) (va_up ad (b + 1) q1) (va_up (va_up Fz b (zGE .null .null)) (b + 1) (fun g => .inr (7, [.int (g 0), .null]))) A sz hJ1 hA cI rfl (b + 1) (Nat.lt_succ_self _) (fun g => by rw [zup_eq]) (va_up h (b + 1) (fun _ => 0))
  rw [show va_up ad (b + 1) q1 (b + 1) = q1 from zup_eq] at hM
  refine va_callv (zg_IN (n := 0) (host := "CallExplorer") (As := []) (rest := [.ref q1, .ref (ad b)]) S hK hT hN hP hS hz hM q175 (by decide) q174 q7 rfl ⟨by decide, by decide, by decide +kernel⟩ ⟨Nat.le_of_ble_eq_true rfl, Nat.le_of_ble_eq_true rfl⟩ ⟨rfl, rfl⟩ rfl hl.1 rfl (Nat.le_of_ble_eq_true rfl) dEntry_init_9 ⟨Nat.le_of_ble_eq_true rfl, Nat.le_of_ble_eq_true rfl⟩) hS (fun _ _ h => h) (fun _ h => h) (fun q2 t H1 locs ht hvm hJ2 hB _ _ hS => ?_)
  obtain ⟨hP, -⟩ := hB
  rw [ht] at hP
  refine W.widen (k := 2) (n := 52) (Nat.le_of_ble_eq_true rfl) (Nat.le_of_ble_eq_true rfl) ?_
  obtain ⟨ad2, ea2⟩ : ∃ x, x = va_up (va_up ad (b + 1) q1) (b + 1 + 1) q2 := ⟨_, rfl⟩
  obtain ⟨F2, eF2⟩ : ∃ x, x = va_up (va_up (va_up (va_up Fz b (zGE .null .null)) (b + 1) (fun g => .inr (7, [.int (g 0), .null]))) (b + 1 + 1) (fun g => .inl (cI, 50, .inl g))) (b + 1) (fun g => .inr (7, [.int (g 0), .ref q2])) := ⟨_, rfl⟩
  obtain ⟨h2, eh2⟩ : ∃ x : zM, x = va_up (va_up h (b + 1) (fun _ => 0)) (b + 1 + 1) (fun _ => 0) := ⟨_, rfl⟩
  rw [← ea2] at hJ2
  rw [← ea2, ← eF2, ← eh2] at hP
  have adl : ∀ o, o < b + 1 → ad2 o = ad o := fun o ho => by rw [ea2, zup_ne (by omega), zup_ne (by omega)]
  have ad1' : ad2 (b + 1) = q1 := by rw [ea2, zup_ne (by omega), zup_eq]
  have ad2' : ad2 (b + 2) = q2 := by rw [ea2]; exact zup_eq
  have F2l : ∀ o, o < b → F2 o = Fz o := fun o ho => by rw [eF2, zup_ne (by omega), zup_ne (by omega), zup_ne (by omega), zup_ne (by omega)]
  have F2b : F2 b = zGE .null .null := by rw [eF2, zup_ne (by omega), zup_ne (by omega), zup_ne (by omega), zup_eq]
  have F21 : F2 (b + 1) = fun g => .inr (7, [.int (g 0), .ref q2]) := by rw [eF2, zup_eq]
  have F22 : F2 (b + 2) = fun g => .inl (cI, 50, .inl g) := by rw [eF2, zup_ne (by omega)]; exact zup_eq
  have h2l : ∀ o, o < b + 1 → h2 o = h o := fun o ho => by rw [eh2, zup_ne (by omega), zup_ne (by omega)]
  have hbb : b < b + 3 := by omega
  have hl : lv_has ls 5 [(0, .ref (ad2 b)), (1, .ref (ad2 o1)), (2, .int x2), (3, .int x3), (4, .ref (ad2 12))] := by
    rw [adl b (by omega), adl o1 (by omega), adl 12 (by omega)]
    exact hl
  rw [← adl b (by omega)]
  refine zg_putFr (o := b) (v := .ref q1) S hin hK hJ2 hP hS hbb (by rw [F2b]) fEntry_sequence rfl q599 rfl rfl (Nat.le_of_ble_eq_true rfl) (zGE (.ref q1) .null) rfl dEntry_init_12 (fun H locs hP hS => ?_)
  obtain ⟨F3, eF3⟩ : ∃ x, x = va_up F2 b (zGE (.ref q1) .null) := ⟨_, rfl⟩
  rw [← eF3] at hP
  have F3l : ∀ o, o < b → F3 o = Fz o := fun o ho => by rw [eF3, zup_ne (by omega), F2l o ho]
  have F3b : F3 b = zGE (.ref q1) .null := by rw [eF3, zup_eq]
  have F31 : F3 (b + 1) = fun g => .inr (7, [.int (g 0), .ref q2]) := by rw [eF3, zup_ne (by omega), F21]
  have F32 : F3 (b + 2) = fun g => .inl (cI, 50, .inl g) := by rw [eF3, zup_ne (by omega), F22]
  have sq : zSeq (b + 3) ad2 F3 cI (b + 1) := ⟨by omega, fun g => by rw [F31, show b + 1 + 1 = b + 2 from rfl, ad2'], fun g => by rw [show b + 1 + 1 = b + 2 from rfl, F32]⟩
  have sq1 : zSeq (b + 3) ad2 F3 cI o1 := ⟨by omega, fun g => by rw [F3l o1 (by omega), adl (o1 + 1) (by omega), ← hFz]; exact hq1.2.1 g, fun g => by rw [F3l (o1 + 1) (by omega), ← hFz]; exact hq1.2.2 g⟩
  have F312 : ∀ g, F3 12 g = .inr (6, [.ref (ad 1), .ref (ad 15), .ref (ad 13), .int (g 3), .int (g 4), .int (g 5), .int (g 6), .int (g 7), .ref (ad 14)]) := fun g => by rw [F3l 12 h12, ← hFz]; exact zF_12 g
  have F314 : ∀ g, F3 14 g = .inl (cI, 20, .inl g) := fun g => by rw [F3l 14 h14, ← hFz]; exact zF_14 g
  refine lv_aload_n S.1 S.2.1 dEntry_init_15 rfl (lv_at hl 0 rfl) ?_
  refine zr_get (o := b) (v := .ref (ad2 (b + 1))) S hK hP hbb (by rw [F3b, ← ad1']) fEntry_sequence q599 rfl dEntry_init_16 ?_
  refine lv_aload_n S.1 S.2.1 dEntry_init_19 rfl (lv_at hl 1 rfl) ?_
  have c1 : (0 : Int32).toNatClampNeg = 0 := rfl
  have hw : wpSequence_copy (b + 1) o1 h2 (fun h3 => h3 = zu (va_up h2 (b + 1 + 1) (va_cpy (h (o1 + 1)) (h2 (b + 2)) 0 0 (Int32.toNatClampNeg (h o1 0 * 5)))) (b + 1) 0 (h o1 0)) := by
    unfold wpSequence_copy
    rw [h2l o1 (by omega), c1, h2l (o1 + 1) (by omega)]
    refine ⟨by decide, by decide, hs1, by omega, by omega, fun h16 e16 h24 e24 => ?_⟩
    rw [e24, e16, zup_ne (by omega), h2l o1 (by omega)]
  refine va_callv (zg_V (As := [.ref (ad2 o1)]) (rest := []) S hK hT hN hP hS (show b + 1 < b + 3 by omega) (by rw [F31]) rfl (cSequence_copy l D (zty cI cC cE) (b + 3) ad2 F3 A hJ2 cI rfl (b + 1) sq o1 sq1 h2 _ hw) caEntry_16 ⟨Nat.le_of_ble_eq_true rfl, Nat.le_of_ble_eq_true rfl⟩ ⟨rfl, rfl⟩ rfl hl.1 rfl (Nat.le_of_ble_eq_true rfl) dEntry_init_20 ⟨Nat.le_of_ble_eq_true rfl, Nat.le_of_ble_eq_true rfl⟩) hS (fun _ _ h => h) (fun _ h => h) (fun h3 t H1 locs ht hvm e3 hB _ _ hS => ?_)
  obtain ⟨hP, -⟩ := hB
  rw [ht] at hP
  refine W.widen (k := 2) (n := 52) (Nat.le_of_ble_eq_true rfl) (Nat.le_of_ble_eq_true rfl) ?_
  have h3l : ∀ o, o < b + 1 → h3 o = h o := fun o ho => by rw [e3]; unfold zu; rw [zup_ne (by omega), zup_ne (by omega), h2l o ho]
  have h31 : h3 (b + 1) 0 = h o1 0 := by rw [e3]; unfold zu; rw [zup_eq]; simp [upd]
  have h32 : h3 (b + 2) = va_cpy (h (o1 + 1)) (h2 (b + 2)) 0 0 (Int32.toNatClampNeg (h o1 0 * 5)) := by rw [e3]; unfold zu; rw [zup_ne (by omega)]; exact zup_eq
  refine lv_aload_n S.1 S.2.1 dEntry_init_23 rfl (lv_at hl 0 rfl) ?_
  refine lv_iload_n S.1 S.2.1 dEntry_init_24 rfl (lv_at hl 2 rfl) ?_
  refine zg_putFi (o := b) S hin hK hJ2 hP hS hbb (by rw [F3b]) fEntry_type rfl q614 rfl rfl (Nat.le_of_ble_eq_true rfl) (by rw [F3b]; rfl) dEntry_init_25 (fun h4 H locs e4 hP hS => ?_)
  refine lv_aload_n S.1 S.2.1 dEntry_init_28 rfl (lv_at hl 0 rfl) ?_
  refine lv_iload_n S.1 S.2.1 dEntry_init_29 rfl (lv_at hl 3 rfl) ?_
  refine zg_putFi (o := b) S hin hK hJ2 hP hS hbb (by rw [F3b]) fEntry_outcome rfl q605 rfl rfl (Nat.le_of_ble_eq_true rfl) (by rw [F3b]; rfl) dEntry_init_30 (fun h5 H locs e5 hP hS => ?_)
  have l4 : ∀ o, o ≠ b → h4 o = h3 o := fun o ho => by rw [e4]; exact zup_ne ho
  have l5 : ∀ o, o ≠ b → h5 o = h3 o := fun o ho => by rw [e5]; unfold zu; rw [zup_ne ho, l4 o ho]
  have g5 : h5 12 = h 12 := by rw [l5 12 (by omega), h3l 12 (by omega)]
  refine lv_aload_n S.1 S.2.1 dEntry_init_33 rfl (lv_at hl 0 rfl) ?_
  refine lv_aload S.1 S.2.1 dEntry_init_34 (lv_at hl 4 rfl) ?_
  refine zr_get (o := 12) S hK hP (by omega) (F312 _) fRunner_detail q132 rfl dEntry_init_36 ?_
  refine zg_putFi (o := b) S hin hK hJ2 hP hS hbb (by rw [F3b]) fEntry_detail rfl q610 rfl rfl (Nat.le_of_ble_eq_true rfl) (by rw [F3b]; rfl) dEntry_init_39 (fun h6 H locs e6 hP hS => ?_)
  have l6 : ∀ o, o ≠ b → h6 o = h3 o := fun o ho => by rw [e6]; unfold zu; rw [zup_ne ho, l5 o ho]
  have g6 : h6 12 = h 12 := by rw [l6 12 (by omega), h3l 12 (by omega)]
  refine lv_aload_n S.1 S.2.1 dEntry_init_42 rfl (lv_at hl 0 rfl) ?_
  refine lv_aload S.1 S.2.1 dEntry_init_43 (lv_at hl 4 rfl) ?_
  refine zr_get (o := 12) S hK hP (by omega) (F312 _) fRunner_gave q136 rfl dEntry_init_45 ?_
  refine zg_putFi (o := b) S hin hK hJ2 hP hS hbb (by rw [F3b]) fEntry_gave rfl q617 rfl rfl (Nat.le_of_ble_eq_true rfl) (by rw [F3b]; rfl) dEntry_init_48 (fun h7 H locs e7 hP hS => ?_)
  have l7 : ∀ o, o ≠ b → h7 o = h3 o := fun o ho => by rw [e7]; unfold zu; rw [zup_ne ho, l6 o ho]
  have g7 : h7 12 = h 12 := by rw [l7 12 (by omega), h3l 12 (by omega)]
  refine lv_aload_n S.1 S.2.1 dEntry_init_51 rfl (lv_at hl 0 rfl) ?_
  refine lv_aload S.1 S.2.1 dEntry_init_52 (lv_at hl 4 rfl) ?_
  refine zr_get (o := 12) S hK hP (by omega) (F312 _) fRunner_number q139 rfl dEntry_init_54 ?_
  refine zg_putFi (o := b) S hin hK hJ2 hP hS hbb (by rw [F3b]) fEntry_number rfl q619 rfl rfl (Nat.le_of_ble_eq_true rfl) (by rw [F3b]; rfl) dEntry_init_57 (fun h8 H locs e8 hP hS => ?_)
  have l8 : ∀ o, o ≠ b → h8 o = h3 o := fun o ho => by rw [e8]; unfold zu; rw [zup_ne ho, l7 o ho]
  have g8 : h8 12 = h 12 := by rw [l8 12 (by omega), h3l 12 (by omega)]
  have g814 : h8 14 = h 14 := by rw [l8 14 (by omega), h3l 14 (by omega)]
  refine lv_aload_n S.1 S.2.1 dEntry_init_60 rfl (lv_at hl 0 rfl) ?_
  refine lv_aload S.1 S.2.1 dEntry_init_61 (lv_at hl 4 rfl) ?_
  refine zr_get (o := 12) S hK hP (by omega) (F312 _) fRunner_row q145 rfl dEntry_init_63 ?_
  refine lv_aload S.1 S.2.1 dEntry_init_66 (lv_at hl 4 rfl) ?_
  refine zr_get (o := 12) S hK hP (by omega) (F312 _) fRunner_rowLength q142 rfl dEntry_init_68 ?_
  rw [g8, hrl, ← adl 14 (by omega)]
  have hM2 := zArrays_copyOf l D (zty cI cC cE) (b + 3) ad2 F3 A sz hJ2 hA cI rfl 14 20 k (by omega) F314 hk (Nat.le_refl _) h8
  refine va_callr (zg_S (n := 2) (As := [.ref (ad2 14), .int (nI k)]) (rest := [.ref (ad2 b)]) S hK hT hN hP hS hz hM2 q587 q585 q586 q14 ⟨by decide, by decide, by decide +kernel⟩ ⟨Nat.le_of_ble_eq_true rfl, Nat.le_of_ble_eq_true rfl⟩ ⟨rfl, rfl⟩ rfl hl.1 rfl (Nat.le_of_ble_eq_true rfl) dEntry_init_71 ⟨Nat.le_of_ble_eq_true rfl, Nat.le_of_ble_eq_true rfl⟩) hS (fun _ _ h => h) (fun _ h => h) (fun gr q3 t H1 locs ht hvm hgr hB _ _ hS => ?_)
  obtain ⟨hJ3, hP, -⟩ := hB
  rw [ht] at hP
  refine W.widen (k := 3) (n := 72) (Nat.le_of_ble_eq_true rfl) (Nat.le_of_ble_eq_true rfl) ?_
  obtain ⟨ad3, ea3⟩ : ∃ x, x = va_up ad2 (b + 3) q3 := ⟨_, rfl⟩
  obtain ⟨F4, eF4⟩ : ∃ x, x = va_up F3 (b + 3) (fun g => .inl (cI, k, .inl g)) := ⟨_, rfl⟩
  obtain ⟨h9, eh9⟩ : ∃ x : zM, x = va_up h8 (b + 3) gr := ⟨_, rfl⟩
  have hJ3 : zJ A (b + 4) ad3 := by rw [ea3]; exact hJ3
  have hP : va_P D zcl (zW (b + 4) ad3 F4 h9) H1 := by rw [ea3, eF4, eh9]; exact hP
  have ad3l : ∀ o, o < b + 3 → ad3 o = ad2 o := fun o ho => by rw [ea3, zup_ne (by omega)]
  have ad33 : ad3 (b + 3) = q3 := by rw [ea3, zup_eq]
  have F4b : F4 b = zGE (.ref q1) .null := by rw [eF4, zup_ne (by omega), F3b]
  have hl : lv_has ls 5 [(0, .ref (ad3 b)), (1, .ref (ad2 o1)), (2, .int x2), (3, .int x3), (4, .ref (ad2 12))] := by rw [ad3l b (by omega)]; exact hl
  rw [← ad3l b (by omega)]
  refine zg_putFr (o := b) (v := .ref q3) S hin hK hJ3 hP hS (show b < b + 4 by omega) (by rw [F4b]) fEntry_row rfl q622 rfl rfl (Nat.le_of_ble_eq_true rfl) (zGE (.ref q1) (.ref q3)) rfl dEntry_init_74 (fun H locs hP hS => ?_)
  have hfin : zW (b + 4) ad3 (va_up F4 b (zGE (.ref q1) (.ref q3))) h9 = zW (b + 4) ad3 (zF ad3 cI cC cE n (va_up ln n k)) h9 := by
    refine zW_congr (fun o ho => ⟨rfl, ?_⟩)
    by_cases c0 : o < b
    · rw [zup_ne (by omega), eF4, zup_ne (by omega), F3l o c0, ← hFz]
      exact (zF_ad (fun o' ho' => by rw [ad3l o' (by omega), adl o' (by omega)]) (fun j hj => zup_ne (by omega)) (by omega) _).symm
    · rcases (show o = b ∨ o = b + 1 ∨ o = b + 2 ∨ o = b + 3 by omega) with rfl | rfl | rfl | rfl
      · rw [zup_eq]
        subst hb
        rw [zFe_0]
        show zGE (.ref q1) (.ref q3) (h9 _) = _
        rw [ad33, ad3l _ (by omega), ad1']
      · rw [zup_ne (by omega), eF4, zup_ne (by omega), F31]
        subst hb
        rw [zFe_1, ad3l _ (by omega), ad2']
      · rw [zup_ne (by omega), eF4, zup_ne (by omega), F32]
        subst hb
        rw [zFe_2]
      · rw [zup_ne (by omega), eF4, zup_eq]
        subst hb
        rw [zFe_3, zup_eq]
  rw [hfin] at hP
  have l9 : ∀ o, o < b + 3 → h9 o = h8 o := fun o ho => by rw [eh9, zup_ne (by omega)]
  have v8 : h8 b 1 = x3 ∧ h8 b 2 = h 12 4 ∧ h8 b 3 = x2 ∧ h8 b 4 = h 12 5 ∧ h8 b 5 = h 12 6 := by
    have b8 : h8 b = upd (h7 b) 5 (h7 12 6) := by rw [e8]; exact zup_eq
    have b7 : h7 b = upd (h6 b) 4 (h6 12 5) := by rw [e7]; exact zup_eq
    have b6 : h6 b = upd (h5 b) 2 (h5 12 4) := by rw [e6]; exact zup_eq
    have b5 : h5 b = upd (h4 b) 1 x3 := by rw [e5]; exact zup_eq
    have b4 : h4 b = upd (h3 b) 3 x2 := by rw [e4]; exact zup_eq
    rw [b8, b7, b6, b5, b4, g5, g6, g7]
    simp [upd]
  have hpost : zEp A b o1 k ad x2 x3 h (ad3, h9) := by
    refine ⟨hJ3, fun o ho => ?_, fun o ho => ?_, ?_, ?_, fun i hi => ?_, fun i hi => ?_⟩
    · show ad3 o = _
      rw [ad3l o (by omega), adl o ho]
    · show h9 o = _
      rw [l9 o (by omega), l8 o (by omega), h3l o (by omega)]
    · show h9 b 1 = _ ∧ h9 b 2 = _ ∧ h9 b 3 = _ ∧ h9 b 4 = _ ∧ h9 b 5 = _
      rw [l9 b (by omega)]
      exact v8
    · show h9 (b + 1) 0 = _
      rw [l9 _ (by omega), l8 _ (by omega), h31]
    · show h9 (b + 2) i = _
      rw [l9 _ (by omega), l8 _ (by omega), h32]
      unfold va_cpy
      rw [if_pos ⟨Nat.zero_le _, by omega⟩, Nat.zero_add, Nat.sub_zero]
    · show h9 (b + 3) i = _
      rw [eh9, zup_eq, hgr i hi, g814]
  exact W.vret S.1 S.2.1 hr (fun t ht hW => ⟨⟨(ad3, h9), rfl, hpost, by rw [ht]; exact hP, va_K.moved hW.alike hK⟩, hS.F ht⟩) hS.2.2 dEntry_init_77 hlk
