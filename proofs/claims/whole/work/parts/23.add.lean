/-! words of the tables by their places; printed by wip/whole/gen/gen.py -/
theorem qp4 : Cond.selects "CallExplorer$Grower" ⟨"CallExplorer$Grower", "chooseArgument", "(II)I"⟩ ⟨"CallExplorer$Grower", "chooseArgument", "(II)I"⟩ ∈ zt := zin (List.mem_append_left _ (List.mem_of_getElem? (i := 4) (by decide +kernel))) (by decide +kernel)
theorem qp11 : Cond.selects "CallExplorer$Grower" ⟨"CallExplorer$Grower", "pushChosen", "(I)V"⟩ ⟨"CallExplorer$Grower", "pushChosen", "(I)V"⟩ ∈ zt := zin (List.mem_append_left _ (List.mem_of_getElem? (i := 11) (by decide +kernel))) (by decide +kernel)
theorem qp27 : Cond.selects "CallExplorer$Book" ⟨"CallExplorer$Book", "knowsShape", "(LCallExplorer$Runner;)Z"⟩ ⟨"CallExplorer$Book", "knowsShape", "(LCallExplorer$Runner;)Z"⟩ ∈ zt := zin (List.mem_append_left _ (List.mem_of_getElem? (i := 27) (by decide +kernel))) (by decide +kernel)
theorem q32 : Cond.fieldLink "CallExplorer$Grower" (54 : Nat) "CallExplorer$Catalog" "operations" "I" ∈ zt := zin (List.mem_append_right _ (List.mem_of_getElem? (i := 32) (by decide +kernel))) (by decide +kernel)
theorem q45 : Cond.fieldLink "CallExplorer$Book" (29 : Nat) "CallExplorer$Catalog" "resultTypes" "[I" ∈ zt := zin (List.mem_append_right _ (List.mem_of_getElem? (i := 45) (by decide +kernel))) (by decide +kernel)
theorem q128 : Cond.fieldLink "CallExplorer$Book" (41 : Nat) "CallExplorer$Runner" "outcome" "I" ∈ zt := zin (List.mem_append_right _ (List.mem_of_getElem? (i := 128) (by decide +kernel))) (by decide +kernel)
theorem q129 : Cond.fieldLink "CallExplorer$Grower" (87 : Nat) "CallExplorer$Runner" "outcome" "I" ∈ zt := zin (List.mem_append_right _ (List.mem_of_getElem? (i := 129) (by decide +kernel))) (by decide +kernel)
theorem q180 : Cond.fieldLink "CallExplorer$Book" (34 : Nat) "CallExplorer$Sequence" "size" "I" ∈ zt := zin (List.mem_append_right _ (List.mem_of_getElem? (i := 180) (by decide +kernel))) (by decide +kernel)
theorem q363 : Cond.methodLink "CallExplorer" (75 : Nat) ({ cls := "CallExplorer$Grower", name := "grow", desc := "()I" } : MethodName) ∈ zt := zin (List.mem_append_right _ (List.mem_of_getElem? (i := 363) (by decide +kernel))) (by decide +kernel)
theorem q364 : Cond.instanceMethod ({ cls := "CallExplorer$Grower", name := "grow", desc := "()I" } : MethodName) ∈ zt := zin (List.mem_append_right _ (List.mem_of_getElem? (i := 364) (by decide +kernel))) (by decide +kernel)
theorem q365 : Cond.selects "CallExplorer$Grower" ({ cls := "CallExplorer$Grower", name := "grow", desc := "()I" } : MethodName) ({ cls := "CallExplorer$Grower", name := "grow", desc := "()I" } : MethodName) ∈ zt := zin (List.mem_append_right _ (List.mem_of_getElem? (i := 365) (by decide +kernel))) (by decide +kernel)
set_option maxRecDepth 100000 in
theorem q366 : Cond.code ({ cls := "CallExplorer$Grower", name := "grow", desc := "()I" } : MethodName) prog_5_method_4_code (4 : Nat) (Option.some FieldType.int) ∈ zt := zin (List.mem_append_right _ (List.mem_of_getElem? (i := 366) (rfl))) (by rfl)
theorem q367 : Cond.methodLink "CallExplorer$Grower" (48 : Nat) ({ cls := "CallExplorer$Book", name := "isFull", desc := "()Z" } : MethodName) ∈ zt := zin (List.mem_append_right _ (List.mem_of_getElem? (i := 367) (by decide +kernel))) (by decide +kernel)
theorem q368 : Cond.instanceMethod ({ cls := "CallExplorer$Book", name := "isFull", desc := "()Z" } : MethodName) ∈ zt := zin (List.mem_append_right _ (List.mem_of_getElem? (i := 368) (by decide +kernel))) (by decide +kernel)
theorem q369 : Cond.selects "CallExplorer$Book" ({ cls := "CallExplorer$Book", name := "isFull", desc := "()Z" } : MethodName) ({ cls := "CallExplorer$Book", name := "isFull", desc := "()Z" } : MethodName) ∈ zt := zin (List.mem_append_right _ (List.mem_of_getElem? (i := 369) (by decide +kernel))) (by decide +kernel)
set_option maxRecDepth 100000 in
theorem q370 : Cond.code ({ cls := "CallExplorer$Book", name := "isFull", desc := "()Z" } : MethodName) prog_2_method_2_code (1 : Nat) (Option.some FieldType.boolean) ∈ zt := zin (List.mem_append_right _ (List.mem_of_getElem? (i := 370) (rfl))) (by rfl)
theorem q376 : Cond.methodLink "CallExplorer$Grower" (63 : Nat) ({ cls := "CallExplorer$Sequence", name := "clear", desc := "()V" } : MethodName) ∈ zt := zin (List.mem_append_right _ (List.mem_of_getElem? (i := 376) (by decide +kernel))) (by decide +kernel)
theorem q380 : Cond.methodLink "CallExplorer$Grower" (66 : Nat) ({ cls := "CallExplorer$Catalog", name := "argumentType", desc := "(II)I" } : MethodName) ∈ zt := zin (List.mem_append_right _ (List.mem_of_getElem? (i := 380) (by decide +kernel))) (by decide +kernel)
theorem q384 : Cond.methodLink "CallExplorer$Grower" (70 : Nat) ({ cls := "CallExplorer$Grower", name := "chooseArgument", desc := "(II)I" } : MethodName) ∈ zt := zin (List.mem_append_right _ (List.mem_of_getElem? (i := 384) (by decide +kernel))) (by decide +kernel)
theorem q386 : Cond.instanceMethod ({ cls := "CallExplorer$Grower", name := "chooseArgument", desc := "(II)I" } : MethodName) ∈ zt := zin (List.mem_append_right _ (List.mem_of_getElem? (i := 386) (by decide +kernel))) (by decide +kernel)
set_option maxRecDepth 100000 in
theorem q387 : Cond.code ({ cls := "CallExplorer$Grower", name := "chooseArgument", desc := "(II)I" } : MethodName) prog_5_method_5_code (3 : Nat) (Option.some FieldType.int) ∈ zt := zin (List.mem_append_right _ (List.mem_of_getElem? (i := 387) (rfl))) (by rfl)
theorem q448 : Cond.methodLink "CallExplorer$Grower" (73 : Nat) ({ cls := "CallExplorer$Grower", name := "pushChosen", desc := "(I)V" } : MethodName) ∈ zt := zin (List.mem_append_right _ (List.mem_of_getElem? (i := 448) (by decide +kernel))) (by decide +kernel)
theorem q450 : Cond.instanceMethod ({ cls := "CallExplorer$Grower", name := "pushChosen", desc := "(I)V" } : MethodName) ∈ zt := zin (List.mem_append_right _ (List.mem_of_getElem? (i := 450) (by decide +kernel))) (by decide +kernel)
set_option maxRecDepth 100000 in
theorem q451 : Cond.code ({ cls := "CallExplorer$Grower", name := "pushChosen", desc := "(I)V" } : MethodName) prog_5_method_11_code (4 : Nat) (Option.none : Option FieldType) ∈ zt := zin (List.mem_append_right _ (List.mem_of_getElem? (i := 451) (rfl))) (by rfl)
theorem q457 : Cond.methodLink "CallExplorer$Grower" (77 : Nat) ({ cls := "CallExplorer$Book", name := "holds", desc := "(LCallExplorer$Sequence;)Z" } : MethodName) ∈ zt := zin (List.mem_append_right _ (List.mem_of_getElem? (i := 457) (by decide +kernel))) (by decide +kernel)
theorem q458 : Cond.instanceMethod ({ cls := "CallExplorer$Book", name := "holds", desc := "(LCallExplorer$Sequence;)Z" } : MethodName) ∈ zt := zin (List.mem_append_right _ (List.mem_of_getElem? (i := 458) (by decide +kernel))) (by decide +kernel)
theorem q459 : Cond.selects "CallExplorer$Book" ({ cls := "CallExplorer$Book", name := "holds", desc := "(LCallExplorer$Sequence;)Z" } : MethodName) ({ cls := "CallExplorer$Book", name := "holds", desc := "(LCallExplorer$Sequence;)Z" } : MethodName) ∈ zt := zin (List.mem_append_right _ (List.mem_of_getElem? (i := 459) (by decide +kernel))) (by decide +kernel)
set_option maxRecDepth 100000 in
theorem q460 : Cond.code ({ cls := "CallExplorer$Book", name := "holds", desc := "(LCallExplorer$Sequence;)Z" } : MethodName) prog_2_method_6_code (3 : Nat) (Option.some FieldType.boolean) ∈ zt := zin (List.mem_append_right _ (List.mem_of_getElem? (i := 460) (rfl))) (by rfl)
theorem q465 : Cond.methodLink "CallExplorer$Grower" (81 : Nat) ({ cls := "CallExplorer$Runner", name := "run", desc := "(LCallExplorer$Sequence;)V" } : MethodName) ∈ zt := zin (List.mem_append_right _ (List.mem_of_getElem? (i := 465) (by decide +kernel))) (by decide +kernel)
theorem q561 : Cond.methodLink "CallExplorer$Grower" (90 : Nat) ({ cls := "CallExplorer$Book", name := "add", desc := "(LCallExplorer$Sequence;LCallExplorer$Runner;)I" } : MethodName) ∈ zt := zin (List.mem_append_right _ (List.mem_of_getElem? (i := 561) (by decide +kernel))) (by decide +kernel)
theorem q562 : Cond.instanceMethod ({ cls := "CallExplorer$Book", name := "add", desc := "(LCallExplorer$Sequence;LCallExplorer$Runner;)I" } : MethodName) ∈ zt := zin (List.mem_append_right _ (List.mem_of_getElem? (i := 562) (by decide +kernel))) (by decide +kernel)
theorem q563 : Cond.selects "CallExplorer$Book" ({ cls := "CallExplorer$Book", name := "add", desc := "(LCallExplorer$Sequence;LCallExplorer$Runner;)I" } : MethodName) ({ cls := "CallExplorer$Book", name := "add", desc := "(LCallExplorer$Sequence;LCallExplorer$Runner;)I" } : MethodName) ∈ zt := zin (List.mem_append_right _ (List.mem_of_getElem? (i := 563) (by decide +kernel))) (by decide +kernel)
set_option maxRecDepth 100000 in
theorem q564 : Cond.code ({ cls := "CallExplorer$Book", name := "add", desc := "(LCallExplorer$Sequence;LCallExplorer$Runner;)I" } : MethodName) prog_2_method_4_code (5 : Nat) (Option.some FieldType.int) ∈ zt := zin (List.mem_append_right _ (List.mem_of_getElem? (i := 564) (rfl))) (by rfl)
theorem q565 : Cond.methodLink "CallExplorer$Book" (37 : Nat) ({ cls := "CallExplorer$Sequence", name := "operationOf", desc := "(I)I" } : MethodName) ∈ zt := zin (List.mem_append_right _ (List.mem_of_getElem? (i := 565) (by decide +kernel))) (by decide +kernel)
theorem q566 : Cond.methodLink "CallExplorer$Book" (46 : Nat) ({ cls := "CallExplorer$Book", name := "knowsShape", desc := "(LCallExplorer$Runner;)Z" } : MethodName) ∈ zt := zin (List.mem_append_right _ (List.mem_of_getElem? (i := 566) (by decide +kernel))) (by decide +kernel)
theorem q568 : Cond.instanceMethod ({ cls := "CallExplorer$Book", name := "knowsShape", desc := "(LCallExplorer$Runner;)Z" } : MethodName) ∈ zt := zin (List.mem_append_right _ (List.mem_of_getElem? (i := 568) (by decide +kernel))) (by decide +kernel)
set_option maxRecDepth 100000 in
theorem q569 : Cond.code ({ cls := "CallExplorer$Book", name := "knowsShape", desc := "(LCallExplorer$Runner;)Z" } : MethodName) prog_2_method_5_code (3 : Nat) (Option.some FieldType.boolean) ∈ zt := zin (List.mem_append_right _ (List.mem_of_getElem? (i := 569) (rfl))) (by rfl)
theorem q574 : Cond.instantiable "CallExplorer$Entry" (7 : Nat) ∈ zt := zin (List.mem_append_right _ (List.mem_of_getElem? (i := 574) (by decide +kernel))) (by decide +kernel)
theorem q575 : Cond.methodLink "CallExplorer$Book" (50 : Nat) ({ cls := "CallExplorer$Entry", name := "<init>", desc := "(LCallExplorer$Sequence;IILCallExplorer$Runner;)V" } : MethodName) ∈ zt := zin (List.mem_append_right _ (List.mem_of_getElem? (i := 575) (by decide +kernel))) (by decide +kernel)
theorem q576 : Cond.instanceMethod ({ cls := "CallExplorer$Entry", name := "<init>", desc := "(LCallExplorer$Sequence;IILCallExplorer$Runner;)V" } : MethodName) ∈ zt := zin (List.mem_append_right _ (List.mem_of_getElem? (i := 576) (by decide +kernel))) (by decide +kernel)
set_option maxRecDepth 100000 in
theorem q577 : Cond.code ({ cls := "CallExplorer$Entry", name := "<init>", desc := "(LCallExplorer$Sequence;IILCallExplorer$Runner;)V" } : MethodName) prog_4_method_1_code (5 : Nat) (Option.none : Option FieldType) ∈ zt := zin (List.mem_append_right _ (List.mem_of_getElem? (i := 577) (rfl))) (by rfl)
theorem caBook_37 : zCal "CallExplorer$Book" 37 ySequence_operationOf "CallExplorer$Sequence" bSequence_operationOf 2 (some .int) 1 := ⟨q446, q565, q444, q445, q7, rfl, by decide, by decide, by decide +kernel⟩
theorem caBook_46 : zCal "CallExplorer$Book" 46 yBook_knowsShape "CallExplorer$Book" bBook_knowsShape 3 (some .boolean) 1 := ⟨q569, q566, q568, qp27, q3, rfl, by decide, by decide, by decide +kernel⟩
theorem caGrower_48 : zCal "CallExplorer$Grower" 48 yBook_isFull "CallExplorer$Book" bBook_isFull 1 (some .boolean) 0 := ⟨q370, q367, q368, q369, q3, rfl, by decide, by decide, by decide +kernel⟩
theorem caGrower_63 : zCal "CallExplorer$Grower" 63 ySequence_clear "CallExplorer$Sequence" bSequence_clear 1 none 0 := ⟨q379, q376, q377, q378, q7, rfl, by decide, by decide, by decide +kernel⟩
theorem caGrower_66 : zCal "CallExplorer$Grower" 66 yCatalog_argumentType "CallExplorer$Catalog" bCatalog_argumentType 3 (some .int) 2 := ⟨q383, q380, q381, q382, q2, rfl, by decide, by decide, by decide +kernel⟩
theorem caGrower_70 : zCal "CallExplorer$Grower" 70 yGrower_chooseArgument "CallExplorer$Grower" bGrower_chooseArgument 3 (some .int) 2 := ⟨q387, q384, q386, qp4, q6, rfl, by decide, by decide, by decide +kernel⟩
theorem caGrower_73 : zCal "CallExplorer$Grower" 73 yGrower_pushChosen "CallExplorer$Grower" bGrower_pushChosen 4 none 1 := ⟨q451, q448, q450, qp11, q6, rfl, by decide, by decide, by decide +kernel⟩
theorem caGrower_77 : zCal "CallExplorer$Grower" 77 yBook_holds "CallExplorer$Book" bBook_holds 3 (some .boolean) 1 := ⟨q460, q457, q458, q459, q3, rfl, by decide, by decide, by decide +kernel⟩
theorem caGrower_81 : zCal "CallExplorer$Grower" 81 yRunner_run "CallExplorer$Runner" bRunner_run 4 none 1 := ⟨q468, q465, q466, q467, q4, rfl, by decide, by decide, by decide +kernel⟩
theorem caGrower_90 : zCal "CallExplorer$Grower" 90 yBook_add "CallExplorer$Book" bBook_add 5 (some .int) 2 := ⟨q564, q561, q562, q563, q3, rfl, by decide, by decide, by decide +kernel⟩
theorem caTop_75 : zCal "CallExplorer" 75 yGrower_grow "CallExplorer$Grower" bGrower_grow 4 (some .int) 0 := ⟨q366, q363, q364, q365, q6, rfl, by decide, by decide, by decide +kernel⟩
/-! Book.add, grow, step: they may make an entry; printed by wip/whole/gen/alloc2.py -/
abbrev zS4 : Type := (Nat → Nat) × Nat × (Nat → Nat) × zM
def zaP (post : Int32 → Nat → (Nat → Nat) → zM → Prop) (n : Nat) (ad : Nat → Nat) (A : Nat → Prop) : Int32 → zS4 → Prop := fun r u => post r u.2.1 u.2.2.1 u.2.2.2 ∧ n ≤ u.2.1 ∧ (∀ o, o < 34 + 4 * n → u.1 o = ad o) ∧ zJ A (34 + 4 * u.2.1) u.1
def zaB (D : va_G) (cI cC cE : ClassId) : zS4 → State → Prop := fun u t => zPst D (zty cI cC cE) (34 + 4 * u.2.1) u.1 (zF u.1 cI cC cE u.2.1 u.2.2.1) u.2.2.2 t
abbrev zQa (post : Int32 → Nat → (Nat → Nat) → zM → Prop) (D : va_G) (cI cC cE : ClassId) (n : Nat) (ad : Nat → Nat) (A : Nat → Prop) (below : List Frame) (args : Array Value) (s : State) (mc ms : Nat) : State → Prop := MQ below (va_Qi (zaP post n ad A) (zaB D cI cC cE) A) args s mc ms A
theorem zr_aret {p : Program} {l : Launch} {e : Env} {R : Room} {s : State} {m : MethodId} {args : Array Value} {below : List Frame} {meth : Method} {c : Code} {H : Heap} {locs : List Loc} {cc : ByteArray} {pc nL mc ms : Nat} {ls : Array Slot} {D : va_G} {A : Nat → Prop} {own : String} {cI cC cE : ClassId} {n n1 : Nat} {ad ad1 : Nat → Nat} {ln1 : Nat → Nat} {h1 : zM} {post : Int32 → Nat → (Nat → Nat) → zM → Prop} {v : Int32} (S : zS p m c cc nL s args own) (hr : meth.sig.returnType = some .int) (hlk : meth.locks = false) (hK : va_K D zcl (zty cI cC cE) s) (hP : va_P D zcl (zW (34 + 4 * n1) ad1 (zF ad1 cI cC cE n1 ln1) h1) H) (hS : va_S A s.heap H locs) (hJ : zJ A (34 + 4 * n1) ad1) (hn : n ≤ n1) (hag : ∀ o, o < 34 + 4 * n → ad1 o = ad o) (hw : post v n1 ln1 h1) (hdg : decode cc pc = .ok (.ireturn, 1)) : W p l e R s m args below meth c H locs mc ms (zQa post D cI cC cE n ad A below args s mc ms) (F0 m pc ls [.int v]) :=
  W.zret S.1 S.2.1 hr rfl (fun t ht hW => ⟨⟨v, (ad1, n1, ln1, h1), rfl, ⟨hw, hn, hag, hJ⟩, by show va_P D zcl _ t.heap; rw [ht]; exact hP, va_K.moved hW.alike hK⟩, hS.F ht⟩) hS.2.2 hdg hlk
theorem zF_n {ad : Nat → Nat} {cI cC cE : ClassId} {n n' : Nat} {ln : Nat → Nat} {o : Nat} (ho : o ≠ 10) (g : Nat → Int32) : zF ad cI cC cE n ln o g = zF ad cI cC cE n' ln o g := by
  unfold zF
  by_cases h34 : o < 34
  · rw [if_pos h34, if_pos h34]
    rcases (show o = 0 ∨ o = 1 ∨ o = 2 ∨ o = 3 ∨ o = 4 ∨ o = 5 ∨ o = 6 ∨ o = 7 ∨ o = 8 ∨ o = 9 ∨ o = 11 ∨ o = 12 ∨ o = 13 ∨ o = 14 ∨ o = 15 ∨ o = 16 ∨ o = 17 ∨ o = 18 ∨ o = 19 ∨ o = 20 ∨ o = 21 ∨ o = 22 ∨ o = 23 ∨ o = 24 ∨ o = 25 ∨ o = 26 ∨ o = 27 ∨ o = 28 ∨ o = 29 ∨ o = 30 ∨ o = 31 ∨ o = 32 ∨ o = 33 by omega) with rfl | rfl | rfl | rfl | rfl | rfl | rfl | rfl | rfl | rfl | rfl | rfl | rfl | rfl | rfl | rfl | rfl | rfl | rfl | rfl | rfl | rfl | rfl | rfl | rfl | rfl | rfl | rfl | rfl | rfl | rfl | rfl | rfl <;> rfl
  · rw [if_neg h34, if_neg h34]
/-- what Book.add leaves in the memory -/
def zAdd (n o1 k : Nat) (x3 x4 : Int32) (h h' : zM) : Prop :=
  (∀ o, o < 34 + 4 * n → o ≠ 9 → h' o = h o) ∧ h' 9 = upd (h 9) 1 (h 9 1 + 1) ∧ (h' (34 + 4 * n) 1 = x4 ∧ h' (34 + 4 * n) 2 = h 12 4 ∧ h' (34 + 4 * n) 3 = x3 ∧ h' (34 + 4 * n) 4 = h 12 5 ∧ h' (34 + 4 * n) 5 = h 12 6) ∧ h' (34 + 4 * n + 1) 0 = h o1 0 ∧ (∀ i, i < Int32.toNatClampNeg (h o1 0 * 5) → h' (34 + 4 * n + 2) i = h (o1 + 1) i) ∧ ∀ i, i < k → h' (34 + 4 * n + 3) i = h 14 i
def wbBook_add_44 (n : Nat) (ln : Nat → Nat) (o1 : Nat) (post : Int32 → Nat → (Nat → Nat) → zM → Prop) (v3 v4 : Int32) (h : zM) : Prop :=
  vp_in (h 9 1) 40 ∧ Int32.toNatClampNeg (h 9 1) = n ∧ ¬ h o1 0 * 5 < 0 ∧ Int32.toNatClampNeg (h o1 0 * 5) ≤ 50 ∧ ∃ k : Nat, k ≤ 20 ∧ h 12 7 = nI k ∧ ∀ h' : zM, zAdd n o1 k v3 v4 h h' → post (h' 9 1 - 1) (n + 1) (va_up ln n k) h'
theorem dBook_add_0 : decode bBook_add 0 = .ok (.aload_n 0, 1) := by decide +kernel
theorem dBook_add_1 : decode bBook_add 1 = .ok (.getfield 21, 3) := by decide +kernel
theorem dBook_add_4 : decode bBook_add 4 = .ok (.getfield 29, 3) := by decide +kernel
theorem dBook_add_7 : decode bBook_add 7 = .ok (.aload_n 1, 1) := by decide +kernel
theorem dBook_add_8 : decode bBook_add 8 = .ok (.aload_n 1, 1) := by decide +kernel
theorem dBook_add_9 : decode bBook_add 9 = .ok (.getfield 34, 3) := by decide +kernel
theorem dBook_add_12 : decode bBook_add 12 = .ok (.iconst 1, 1) := by decide +kernel
theorem dBook_add_13 : decode bBook_add 13 = .ok (.isub, 1) := by decide +kernel
theorem dBook_add_14 : decode bBook_add 14 = .ok (.invokevirtual 37, 3) := by decide +kernel
theorem dBook_add_17 : decode bBook_add 17 = .ok (.iaload, 1) := by decide +kernel
theorem dBook_add_18 : decode bBook_add 18 = .ok (.istore_n 3, 1) := by decide +kernel
theorem dBook_add_19 : decode bBook_add 19 = .ok (.aload_n 2, 1) := by decide +kernel
theorem dBook_add_20 : decode bBook_add 20 = .ok (.getfield 41, 3) := by decide +kernel
theorem dBook_add_23 : decode bBook_add 23 = .ok (.ifCond .ne 15, 3) := by decide +kernel
theorem dBook_add_26 : decode bBook_add 26 = .ok (.aload_n 0, 1) := by decide +kernel
theorem dBook_add_27 : decode bBook_add 27 = .ok (.aload_n 2, 1) := by decide +kernel
theorem dBook_add_28 : decode bBook_add 28 = .ok (.invokevirtual 46, 3) := by decide +kernel
theorem dBook_add_31 : decode bBook_add 31 = .ok (.ifCond .eq 7, 3) := by decide +kernel
theorem dBook_add_34 : decode bBook_add 34 = .ok (.iconst 1, 1) := by decide +kernel
theorem dBook_add_35 : decode bBook_add 35 = .ok (.goto 7, 3) := by decide +kernel
theorem dBook_add_38 : decode bBook_add 38 = .ok (.aload_n 2, 1) := by decide +kernel
theorem dBook_add_39 : decode bBook_add 39 = .ok (.getfield 41, 3) := by decide +kernel
theorem dBook_add_42 : decode bBook_add 42 = .ok (.istore 4, 2) := by decide +kernel
theorem dBook_add_44 : decode bBook_add 44 = .ok (.aload_n 0, 1) := by decide +kernel
theorem dBook_add_45 : decode bBook_add 45 = .ok (.getfield 11, 3) := by decide +kernel
theorem dBook_add_48 : decode bBook_add 48 = .ok (.aload_n 0, 1) := by decide +kernel
theorem dBook_add_49 : decode bBook_add 49 = .ok (.getfield 25, 3) := by decide +kernel
theorem dBook_add_52 : decode bBook_add 52 = .ok (.new 9, 3) := by decide +kernel
theorem dBook_add_55 : decode bBook_add 55 = .ok (.dup, 1) := by decide +kernel
theorem dBook_add_56 : decode bBook_add 56 = .ok (.aload_n 1, 1) := by decide +kernel
theorem dBook_add_57 : decode bBook_add 57 = .ok (.iload_n 3, 1) := by decide +kernel
theorem dBook_add_58 : decode bBook_add 58 = .ok (.iload 4, 2) := by decide +kernel
theorem dBook_add_60 : decode bBook_add 60 = .ok (.aload_n 2, 1) := by decide +kernel
theorem dBook_add_61 : decode bBook_add 61 = .ok (.invokespecial 50, 3) := by decide +kernel
theorem dBook_add_64 : decode bBook_add 64 = .ok (.aastore, 1) := by decide +kernel
theorem dBook_add_65 : decode bBook_add 65 = .ok (.aload_n 0, 1) := by decide +kernel
theorem dBook_add_66 : decode bBook_add 66 = .ok (.dup, 1) := by decide +kernel
theorem dBook_add_67 : decode bBook_add 67 = .ok (.getfield 25, 3) := by decide +kernel
theorem dBook_add_70 : decode bBook_add 70 = .ok (.iconst 1, 1) := by decide +kernel
theorem dBook_add_71 : decode bBook_add 71 = .ok (.iadd, 1) := by decide +kernel
theorem dBook_add_72 : decode bBook_add 72 = .ok (.putfield 25, 3) := by decide +kernel
theorem dBook_add_75 : decode bBook_add 75 = .ok (.aload_n 0, 1) := by decide +kernel
theorem dBook_add_76 : decode bBook_add 76 = .ok (.getfield 25, 3) := by decide +kernel
theorem dBook_add_79 : decode bBook_add 79 = .ok (.iconst 1, 1) := by decide +kernel
theorem dBook_add_80 : decode bBook_add 80 = .ok (.isub, 1) := by decide +kernel
theorem dBook_add_81 : decode bBook_add 81 = .ok (.ireturn, 1) := by decide +kernel
def wbBook_add_42 (n : Nat) (ln : Nat → Nat) (o1 : Nat) (post : Int32 → Nat → (Nat → Nat) → zM → Prop) (v3 : Int32) (k0 : Int32) (h : zM) : Prop := wbBook_add_44 n ln o1 post v3 k0 h
def wbBook_add_38 (n : Nat) (ln : Nat → Nat) (o1 : Nat) (post : Int32 → Nat → (Nat → Nat) → zM → Prop) (v3 : Int32) (h : zM) : Prop := wbBook_add_42 n ln o1 post v3 (h 12 3) h
def wpBook_add (n : Nat) (ln : Nat → Nat) (o1 : Nat) (h : zM) (post : Int32 → Nat → (Nat → Nat) → zM → Prop) : Prop := wpSequence_operationOf o1 ((h o1 0) - 1) h (fun r14 h14 => (vp_in r14 10 ∧ ∀ y18 : Int32, y18 = (h14 8 (Int32.toNatClampNeg r14)) → ((¬ (h14 12 3) = 0 → wbBook_add_38 n ln o1 post y18 h14) ∧ ((h14 12 3) = 0 → wpBook_knowsShape n ln h14 (fun r28 h28 => ((r28 = 0 → wbBook_add_38 n ln o1 post y18 h28) ∧ (¬ r28 = 0 → wbBook_add_42 n ln o1 post y18 1 h28)))))))
abbrev rmBook_add : Room := { frames := 3, cells := 4, slots := 79, locals := 64 }
set_option maxHeartbeats 8000000 in
set_option maxRecDepth 100000 in
theorem cBook_add (l : Launch) (D : va_G) (cI cC cE : ClassId) (ad : Nat → Nat) (n : Nat) (ln : Nat → Nat) (A : Nat → Prop) (hJ : zJ A (34 + 4 * n) ad) (sz : Nat) (hA : ∀ q, sz ≤ q → A q) (o1 : Nat) (hq1 : zSeq (34 + 4 * n) ad (zF ad cI cC cE n ln) cI o1) (h : zM) (post : Int32 → Nat → (Nat → Nat) → zM → Prop) (hw : wpBook_add n ln o1 h post) : Met l yBook_add (.code yBook_add bBook_add 5 (some .int) :: zt) rmBook_add (va_Pc [.ref (ad 9), .ref (ad o1), .ref (ad 12)] (zPa D (zty cI cC cE) (34 + 4 * n) ad (zF ad cI cC cE n ln) A sz h)) (va_Qi (zaP post n ad A) (zaB D cI cC cE) A) 4 79 A := by
  refine Met.ofW (cc := bBook_add) (maxL := 5) (ret := (some .int)) (by decide) rfl ?_
  intro p e s m args below meth c s₁ B hml hv
  obtain ⟨rfl, ⟨hP, hK, hT, hN⟩, hz⟩ := hv
  have hr := B.returns
  have hlk := B.notSynchronized
  have S : zS p m c bBook_add 5 s _ "CallExplorer$Book" := ⟨B.exec, B.bytes, hml, findClass_of_methodNamed B.named, fun w hw => atoms_spec (ws := .code yBook_add bBook_add 5 (some .int) :: zt) B.pre w (List.mem_cons_of_mem _ hw)⟩
  have hS : va_S A s.heap s.heap [] := va_S.rf
  have hA' : ∀ q, s.heap.size ≤ q → A q := fun q h => hA q (Nat.le_trans hz h)
  have hl := lv_entry ([.ref (ad 9), .ref (ad o1), .ref (ad 12)]) (n := 5) (Nat.le_of_ble_eq_true rfl)
  rw [lg_entry_eq]
  generalize (lg_sl ([.ref (ad 9), .ref (ad o1), .ref (ad 12)]) ++ List.replicate (5 - (lg_sl ([.ref (ad 9), .ref (ad o1), .ref (ad 12)])).length) Slot.unset).toArray = ls at hl ⊢
  have hl : lv_has ls 5 [(0, .ref (ad 9)), (1, .ref (ad o1)), (2, .ref (ad 12))] := hl
  show W p l e rmBook_add s m ([.ref (ad 9), .ref (ad o1), .ref (ad 12)] : List Value).toArray below meth c s.heap [] 0 0 (zQa post D cI cC cE n ad A below ([.ref (ad 9), .ref (ad o1), .ref (ad 12)] : List Value).toArray s 4 79) _
  generalize hargs : ([.ref (ad 9), .ref (ad o1), .ref (ad 12)] : List Value).toArray = args at S ⊢
  have J44 : ∀ (v3 : Int32) (v4 : Int32) (h : zM) (H : Heap) (locs : List Loc) (ls : Array Slot), wbBook_add_44 n ln o1 post v3 v4 h → lv_has ls 5 [(0, .ref (ad 9)), (1, .ref (ad o1)), (2, .ref (ad 12)), (3, .int v3), (4, .int v4)] → va_P D zcl (zW (34 + 4 * n) ad (zF ad cI cC cE n ln) h) H → va_S A s.heap H locs → W p l e rmBook_add s m args below meth c H locs 0 0 (zQa post D cI cC cE n ad A below args s 4 79) (F0 m 44 ls []) := by
    intro v3 v4 h H locs ls hw hl hP hS
    obtain ⟨z1, z2, s1, s2, k, hk, hrl, hw⟩ := hw
    refine lv_aload_n S.1 S.2.1 dBook_add_44 rfl (lv_at hl 0 rfl) ?_
    refine zr_get S hK hP (zk (by decide)) (zF_9 _) fBook_rows q80 rfl dBook_add_45 ?_
    refine lv_aload_n S.1 S.2.1 dBook_add_48 rfl (lv_at hl 0 rfl) ?_
    refine zr_get S hK hP (zk (by decide)) (zF_9 _) fBook_size q78 rfl dBook_add_49 ?_
    refine zn_new (ci := 2) (fs := [.null, .int 0, .int 0, .int 0, .int 0, .int 0, .null]) S rfl inEntry tyEntry tyEntry_ok q75 q574 q13 hK hP (zD hJ) hS hA' (fun j hj => by rcases (show j = 0 ∨ j = 1 ∨ j = 2 ∨ j = 3 ∨ j = 4 ∨ j = 5 ∨ j = 6 by omega) with rfl | rfl | rfl | rfl | rfl | rfl | rfl <;> rfl) (Nat.le_of_ble_eq_true rfl) (Nat.le_of_ble_eq_true rfl) dBook_add_52 (fun q H hP hD hS => ?_)
    obtain ⟨b, hb⟩ : ∃ b, b = 34 + 4 * n := ⟨_, rfl⟩
    have w1 := zW_push (N := b) (ad := ad) (F := zF ad cI cC cE n ln) (h := h) q (zGE .null .null) (fun _ => 0)
    have hP : va_P D zcl (zW b ad (zF ad cI cC cE n ln) h ++ [(q, zGE .null .null (fun _ => 0))]) H := by rw [hb]; exact hP
    have hD : va_D A (zW b ad (zF ad cI cC cE n ln) h ++ [(q, zGE .null .null (fun _ => 0))]) := by rw [hb]; exact hD
    rw [w1] at hP hD
    have hJ1 := zJ_of hD
    obtain ⟨ad1, ea⟩ : ∃ x, x = va_up ad b q := ⟨_, rfl⟩
    obtain ⟨h1, eh⟩ : ∃ x : zM, x = va_up h b (fun _ => 0) := ⟨_, rfl⟩
    rw [← ea] at hJ1
    have a1l : ∀ o, o < b → ad1 o = ad o := fun o ho => by rw [ea, zup_ne (by omega)]
    have a1b : ad1 b = q := by rw [ea, zup_eq]
    have h1l : ∀ o, o < b → h1 o = h o := fun o ho => by rw [eh, zup_ne (by omega)]
    have hq2 : zSeq b ad1 (zF ad1 cI cC cE n ln) cI o1 := ⟨by rw [hb]; exact hq1.1, fun g => by
        rw [zF_ad (ad := ad) (ln := ln) (fun o ho => a1l o (by omega)) (fun _ _ => rfl) (Nat.lt_of_succ_lt hq1.1), a1l _ (by rw [hb]; exact hq1.1)]
        exact hq1.2.1 g, fun g => by
        rw [zF_ad (ad := ad) (ln := ln) (fun o ho => a1l o (by omega)) (fun _ _ => rfl) hq1.1]
        exact hq1.2.2 g⟩
    have w2 : zW (b + 1) (va_up ad b q) (va_up (zF ad cI cC cE n ln) b (zGE .null .null)) (va_up h b (fun _ => 0)) = zW (b + 1) ad1 (va_up (zF ad1 cI cC cE n ln) b (zGE .null .null)) h1 := by
      refine zW_congr (fun o ho => ⟨by rw [ea], ?_⟩)
      rw [eh]
      by_cases c0 : o = b
      · rw [c0]
        simp only [zup_eq]
      · simp only [zup_ne c0]
        exact (zF_ad (o := o) (ad := ad) (ad' := ad1) (n := n) (ln := ln) (ln' := ln) (fun o' ho' => a1l o' (by omega)) (fun _ _ => rfl) (by omega) _).symm
    rw [w2] at hP
    refine W.widen (k := 1) (n := 7) (Nat.le_of_ble_eq_true rfl) (Nat.le_of_ble_eq_true rfl) ?_
    have h12 : 12 < b := by omega
    have ho1 : o1 + 1 < b := hq2.1
    have hl : lv_has ls 5 [(0, .ref (ad1 9)), (1, .ref (ad1 o1)), (2, .ref (ad1 12)), (3, .int v3), (4, .int v4)] := by
      rw [a1l 9 (by omega), a1l o1 (by omega), a1l 12 (by omega)]
      exact hl
    refine lv_dup S.1 S.2.1 dBook_add_55 rfl ?_
    refine lv_aload_n S.1 S.2.1 dBook_add_56 rfl (lv_at hl 1 rfl) ?_
    refine lv_iload_n S.1 S.2.1 dBook_add_57 rfl (lv_at hl 3 rfl) ?_
    refine lv_iload S.1 S.2.1 dBook_add_58 (lv_at hl 4 rfl) ?_
    refine lv_aload_n S.1 S.2.1 dBook_add_60 rfl (lv_at hl 2 rfl) ?_
    have hM := zEntry_init l D cI cC cE n ln b hb ad1 A sz hJ1 hA o1 ho1 hq2 v3 v4 h1 (by rw [h1l o1 (by omega)]; exact s1) (by rw [h1l o1 (by omega)]; exact s2) k hk (by rw [h1l 12 h12]; exact hrl)
    rw [a1b] at hM
    refine va_callv (zg_I (n := 4) (As := [.ref (ad1 o1), .int v3, .int v4, .ref (ad1 12)]) (rest := [.ref q, .int (h 9 1), .ref (ad 10)]) S hK hT hN hP hS hz hM q577 q575 q576 q13 rfl ⟨by decide, by decide, by decide +kernel⟩ ⟨Nat.le_of_ble_eq_true rfl, Nat.le_of_ble_eq_true rfl⟩ ⟨rfl, rfl⟩ rfl hl.1 rfl (Nat.le_of_ble_eq_true rfl) dBook_add_61 ⟨Nat.le_of_ble_eq_true rfl, Nat.le_of_ble_eq_true rfl⟩) hS (fun _ _ h => h) (fun _ h => h) (fun u t H1 locs ht hvm hp hB _ _ hS => ?_)
    obtain ⟨ad2, h2⟩ := u
    obtain ⟨hJ2, ag, hlo, hfl, hz0, hcl, hrw⟩ := hp
    dsimp only at hJ2 ag hlo hfl hz0 hcl hrw
    obtain ⟨hP, -⟩ := hB
    rw [ht] at hP
    dsimp only at hP
    refine W.widen (k := 4) (n := 79) (Nat.le_of_ble_eq_true rfl) (Nat.le_of_ble_eq_true rfl) ?_
    have a2 : ∀ o, o < b → ad2 o = ad o := fun o ho => by rw [ag o (by omega), a1l o ho]
    have a2b : ad2 b = q := by rw [ag b (by omega), a1b]
    have b4 : b + 4 = 34 + 4 * (n + 1) := by omega
    have hl : lv_has ls 5 [(0, .ref (ad2 9)), (1, .ref (ad1 o1)), (2, .ref (ad1 12)), (3, .int v3), (4, .int v4)] := by rw [ag 9 (by omega)]; exact hl
    rw [← a2b, ← a2 10 (by omega)]
    have hx10 : (zW (b + 4) ad2 (zF ad2 cI cC cE n (va_up ln n k)) h2)[10]? = some (ad2 10, .inl (cE, 40, .inr (.inr (.inr (.inr (fun e => if e < n then some (ad2 (34 + 4 * e)) else none)))))) := by rw [zW_at (by omega)]; rfl
    have hxb : (zW (b + 4) ad2 (zF ad2 cI cC cE n (va_up ln n k)) h2)[b]? = some (ad2 b, .inr (2, [.ref (ad2 (34 + 4 * n + 1)), .int (h2 b 1), .int (h2 b 2), .int (h2 b 3), .int (h2 b 4), .int (h2 b 5), .ref (ad2 (34 + 4 * n + 3))])) := by
      rw [zW_at (by omega)]
      rw [hb, zFe_0]
    refine va_astq S.1 S.2.1 hK hP (zD hJ2) hS 10 2 b 2 hx10 (r := ("CallExplorer$Entry", TEntry, 7)) rfl hxb rfl z1 dBook_add_64 (fun H locs hP _ hS => ?_)
    rw [z2] at hP
    have w3 := zW_shape (N := b + 4) (ad := ad2) (F := zF ad2 cI cC cE n (va_up ln n k)) (h := h2) (o := 10) (by omega) (fun _ => .inl (cE, 40, .inr (.inr (.inr (.inr (va_up (fun e => if e < n then some (ad2 (34 + 4 * e)) else none) n (some (ad2 b))))))))
    rw [w3] at hP
    have w4 : zW (b + 4) ad2 (va_up (zF ad2 cI cC cE n (va_up ln n k)) 10 (fun _ => .inl (cE, 40, .inr (.inr (.inr (.inr (va_up (fun e => if e < n then some (ad2 (34 + 4 * e)) else none) n (some (ad2 b))))))))) h2 = zW (34 + 4 * (n + 1)) ad2 (zF ad2 cI cC cE (n + 1) (va_up ln n k)) h2 := by
      rw [b4]
      refine zW_congr (fun o ho => ⟨rfl, ?_⟩)
      by_cases c0 : o = 10
      · subst c0
        rw [zup_eq, zF_10]
        congr 7
        funext x
        by_cases hx : x = n
        · subst hx
          rw [zup_eq, if_pos (by omega), hb]
        · rw [zup_ne hx]
          by_cases hy : x < n
          · rw [if_pos hy, if_pos (by omega)]
          · rw [if_neg hy, if_neg (by omega)]
      · rw [zup_ne c0]
        exact zF_n c0 _
    rw [w4] at hP
    rw [b4] at hJ2
    refine lv_aload_n S.1 S.2.1 dBook_add_65 rfl (lv_at hl 0 rfl) ?_
    refine lv_dup S.1 S.2.1 dBook_add_66 rfl ?_
    refine zr_get S hK hP (zk (by decide)) (zF_9 _) fBook_size q78 rfl dBook_add_67 ?_
    refine lv_iconst (v := 1) S.1 S.2.1 dBook_add_70 (by decide) ?_
    refine lv_iadd S.1 S.2.1 dBook_add_71 ?_
    refine zr_put S hK hJ2 hP hS (zk (by decide)) (zF_9 _) fBook_size q78 rfl rfl (Nat.le_of_ble_eq_true rfl) (zF_9 _) dBook_add_72 (fun h3 H locs e3 hP hS => ?_)
    refine lv_aload_n S.1 S.2.1 dBook_add_75 rfl (lv_at hl 0 rfl) ?_
    refine zr_get S hK hP (zk (by decide)) (zF_9 _) fBook_size q78 rfl dBook_add_76 ?_
    refine lv_iconst (v := 1) S.1 S.2.1 dBook_add_79 (by decide) ?_
    refine lv_isub S.1 S.2.1 dBook_add_80 ?_
    have l3 : ∀ o, o ≠ 9 → h3 o = h2 o := fun o ho => by rw [e3]; exact zup_ne ho
    refine zr_aret S hr hlk hK hP hS hJ2 (Nat.le_succ n) (fun o ho => a2 o (by omega)) (hw h3 ⟨fun o ho h9 => by rw [l3 o h9, hlo o (by omega), h1l o (by omega)], ?_, ?_, ?_, fun i hi => ?_, fun i hi => ?_⟩) dBook_add_81
    · rw [e3]
      show va_up h2 9 (upd (h2 9) 1 (h2 9 1 + 1)) 9 = _
      rw [zup_eq, hlo 9 (by omega), h1l 9 (by omega)]
    · rw [← hb, l3 b (by omega), ← h1l 12 h12]
      exact hfl
    · rw [← hb, l3 _ (by omega), hz0, h1l o1 (by omega)]
    · rw [← hb, l3 _ (by omega), hcl i (by rw [h1l o1 (by omega)]; exact hi), h1l (o1 + 1) (by omega)]
    · rw [← hb, l3 _ (by omega), hrw i hi, h1l 14 (by omega)]
  have J42 : ∀ (v3 : Int32) (k0 : Int32) (h : zM) (H : Heap) (locs : List Loc) (ls : Array Slot), wbBook_add_42 n ln o1 post v3 k0 h → lv_has ls 5 [(0, .ref (ad 9)), (1, .ref (ad o1)), (2, .ref (ad 12)), (3, .int v3)] → va_P D zcl (zW (34 + 4 * n) ad (zF ad cI cC cE n ln) h) H → va_S A s.heap H locs → W p l e rmBook_add s m args below meth c H locs 0 0 (zQa post D cI cC cE n ad A below args s 4 79) (F0 m 42 ls [.int k0]) := by
    intro v3 k0 h H locs ls hw hl hP hS
    unfold wbBook_add_42 at hw
    refine lv_istore (lv' := [(4, .int k0), (0, .ref (ad 9)), (1, .ref (ad o1)), (2, .ref (ad 12)), (3, .int v3)]) S.1 S.2.1 dBook_add_42 hl (by decide) rfl (fun ls hl => ?_)
    exact J44 _ _ _ _ _ _ hw (lv_sub hl [1, 2, 3, 4, 0] rfl) hP hS
  have J38 : ∀ (v3 : Int32) (h : zM) (H : Heap) (locs : List Loc) (ls : Array Slot), wbBook_add_38 n ln o1 post v3 h → lv_has ls 5 [(0, .ref (ad 9)), (1, .ref (ad o1)), (2, .ref (ad 12)), (3, .int v3)] → va_P D zcl (zW (34 + 4 * n) ad (zF ad cI cC cE n ln) h) H → va_S A s.heap H locs → W p l e rmBook_add s m args below meth c H locs 0 0 (zQa post D cI cC cE n ad A below args s 4 79) (F0 m 38 ls []) := by
    intro v3 h H locs ls hw hl hP hS
    unfold wbBook_add_38 at hw
    refine lv_aload_n S.1 S.2.1 dBook_add_38 rfl (lv_at hl 2 rfl) ?_
    refine zr_get S hK hP (zk (by decide)) (zF_12 _) fRunner_outcome q128 rfl dBook_add_39 ?_
    exact J42 _ _ _ _ _ _ hw (lv_sub hl [0, 1, 2, 3] rfl) hP hS
  unfold wpBook_add at hw
  refine lv_aload_n S.1 S.2.1 dBook_add_0 rfl (lv_at hl 0 rfl) ?_
  refine zr_get S hK hP (zk (by decide)) (zF_9 _) fBook_catalog q77 rfl dBook_add_1 ?_
  refine zr_get S hK hP (zk (by decide)) (zF_1 _) fCatalog_resultTypes q45 rfl dBook_add_4 ?_
  refine lv_aload_n S.1 S.2.1 dBook_add_7 rfl (lv_at hl 1 rfl) ?_
  refine lv_aload_n S.1 S.2.1 dBook_add_8 rfl (lv_at hl 1 rfl) ?_
  refine zr_get S hK hP (Nat.lt_of_succ_lt (hq1).1) ((hq1).2.1 _) fSequence_size q180 rfl dBook_add_9 ?_
  refine lv_iconst (v := 1) S.1 S.2.1 dBook_add_12 (by decide) ?_
  refine lv_isub S.1 S.2.1 dBook_add_13 ?_
  refine zr_i (zr_V (As := [.int ((h o1 0) - 1)]) (rest := [.ref (ad 8)]) S hK hT hN hP hS (Nat.lt_of_succ_lt (hq1).1) ((hq1).2.1 _) rfl (cSequence_operationOf l D (zty cI cC cE) (34 + 4 * n) ad (zF ad cI cC cE n ln) A hJ cI rfl o1 hq1 _ _ _ hw) caBook_37 ⟨Nat.le_of_ble_eq_true rfl, Nat.le_of_ble_eq_true rfl⟩ ⟨rfl, rfl⟩ rfl hl.1 rfl (Nat.le_of_ble_eq_true rfl) dBook_add_14) hS (fun r14 h14 H locs hw hP hS => ?_)
  obtain ⟨z17, hw⟩ := hw
  refine zr_ald S hK hP (zk (by decide)) (zF_8 _) 0 rfl z17 dBook_add_17 ?_
  refine lv_topi (fun y18 e18 => ?_)
  have hw := hw y18 e18
  refine lv_istore_n (lv' := [(3, .int y18), (0, .ref (ad 9)), (1, .ref (ad o1)), (2, .ref (ad 12))]) S.1 S.2.1 dBook_add_18 rfl hl (by decide) rfl (fun ls hl => ?_)
  refine lv_aload_n S.1 S.2.1 dBook_add_19 rfl (lv_at hl 3 rfl) ?_
  refine zr_get S hK hP (zk (by decide)) (zF_12 _) fRunner_outcome q128 rfl dBook_add_20 ?_
  refine lv_if_ne S.1 S.2.1 dBook_add_23 rfl (fun hc => ?_) (fun hc => ?_)
  · have hw := hw.1 hc
    exact J38 _ _ _ _ _ hw (lv_sub hl [1, 2, 3, 0] rfl) hP hS
  · have hw := hw.2 hc
    refine lv_aload_n S.1 S.2.1 dBook_add_26 rfl (lv_at hl 1 rfl) ?_
    refine lv_aload_n S.1 S.2.1 dBook_add_27 rfl (lv_at hl 3 rfl) ?_
    refine zr_i (zr_V (As := [.ref (ad 12)]) (rest := []) S hK hT hN hP hS (zk (by decide)) (zF_9 _) rfl (cBook_knowsShape l D cI cC cE ad n ln A hJ _ _ hw) caBook_46 ⟨Nat.le_of_ble_eq_true rfl, Nat.le_of_ble_eq_true rfl⟩ ⟨rfl, rfl⟩ rfl hl.1 rfl (Nat.le_of_ble_eq_true rfl) dBook_add_28) hS (fun r28 h28 H locs hw hP hS => ?_)
    refine lv_if_eq S.1 S.2.1 dBook_add_31 rfl (fun hc => ?_) (fun hc => ?_)
    · have hw := hw.1 hc
      exact J38 _ _ _ _ _ hw (lv_sub hl [1, 2, 3, 0] rfl) hP hS
    · have hw := hw.2 hc
      refine lv_iconst (v := 1) S.1 S.2.1 dBook_add_34 (by decide) ?_
      refine lv_goto S.1 S.2.1 dBook_add_35 rfl ?_
      exact J42 _ _ _ _ _ _ hw (lv_sub hl [1, 2, 3, 0] rfl) hP hS
theorem dGrower_grow_0 : decode bGrower_grow 0 = .ok (.aload_n 0, 1) := by decide +kernel
theorem dGrower_grow_1 : decode bGrower_grow 1 = .ok (.getfield 32, 3) := by decide +kernel
theorem dGrower_grow_4 : decode bGrower_grow 4 = .ok (.invokevirtual 48, 3) := by decide +kernel
theorem dGrower_grow_7 : decode bGrower_grow 7 = .ok (.ifCond .eq 6, 3) := by decide +kernel
theorem dGrower_grow_10 : decode bGrower_grow 10 = .ok (.bipush (-6), 2) := by decide +kernel
theorem dGrower_grow_12 : decode bGrower_grow 12 = .ok (.ireturn, 1) := by decide +kernel
theorem dGrower_grow_13 : decode bGrower_grow 13 = .ok (.aload_n 0, 1) := by decide +kernel
theorem dGrower_grow_14 : decode bGrower_grow 14 = .ok (.getfield 28, 3) := by decide +kernel
theorem dGrower_grow_17 : decode bGrower_grow 17 = .ok (.getfield 54, 3) := by decide +kernel
theorem dGrower_grow_20 : decode bGrower_grow 20 = .ok (.ifCond .ne 5, 3) := by decide +kernel
theorem dGrower_grow_23 : decode bGrower_grow 23 = .ok (.iconst (-1), 1) := by decide +kernel
theorem dGrower_grow_24 : decode bGrower_grow 24 = .ok (.ireturn, 1) := by decide +kernel
theorem dGrower_grow_25 : decode bGrower_grow 25 = .ok (.aload_n 0, 1) := by decide +kernel
theorem dGrower_grow_26 : decode bGrower_grow 26 = .ok (.aload_n 0, 1) := by decide +kernel
theorem dGrower_grow_27 : decode bGrower_grow 27 = .ok (.getfield 28, 3) := by decide +kernel
theorem dGrower_grow_30 : decode bGrower_grow 30 = .ok (.getfield 54, 3) := by decide +kernel
theorem dGrower_grow_33 : decode bGrower_grow 33 = .ok (.invokevirtual 59, 3) := by decide +kernel
theorem dGrower_grow_36 : decode bGrower_grow 36 = .ok (.istore_n 1, 1) := by decide +kernel
theorem dGrower_grow_37 : decode bGrower_grow 37 = .ok (.aload_n 0, 1) := by decide +kernel
theorem dGrower_grow_38 : decode bGrower_grow 38 = .ok (.getfield 12, 3) := by decide +kernel
theorem dGrower_grow_41 : decode bGrower_grow 41 = .ok (.invokevirtual 63, 3) := by decide +kernel
theorem dGrower_grow_44 : decode bGrower_grow 44 = .ok (.iconst 0, 1) := by decide +kernel
theorem dGrower_grow_45 : decode bGrower_grow 45 = .ok (.istore_n 2, 1) := by decide +kernel
theorem dGrower_grow_46 : decode bGrower_grow 46 = .ok (.iload_n 2, 1) := by decide +kernel
theorem dGrower_grow_47 : decode bGrower_grow 47 = .ok (.iconst 2, 1) := by decide +kernel
theorem dGrower_grow_48 : decode bGrower_grow 48 = .ok (.if_icmp .ge 30, 3) := by decide +kernel
theorem dGrower_grow_51 : decode bGrower_grow 51 = .ok (.aload_n 0, 1) := by decide +kernel
theorem dGrower_grow_52 : decode bGrower_grow 52 = .ok (.iload_n 2, 1) := by decide +kernel
theorem dGrower_grow_53 : decode bGrower_grow 53 = .ok (.aload_n 0, 1) := by decide +kernel
theorem dGrower_grow_54 : decode bGrower_grow 54 = .ok (.getfield 28, 3) := by decide +kernel
theorem dGrower_grow_57 : decode bGrower_grow 57 = .ok (.iload_n 1, 1) := by decide +kernel
theorem dGrower_grow_58 : decode bGrower_grow 58 = .ok (.iload_n 2, 1) := by decide +kernel
theorem dGrower_grow_59 : decode bGrower_grow 59 = .ok (.invokevirtual 66, 3) := by decide +kernel
theorem dGrower_grow_62 : decode bGrower_grow 62 = .ok (.invokevirtual 70, 3) := by decide +kernel
theorem dGrower_grow_65 : decode bGrower_grow 65 = .ok (.istore_n 3, 1) := by decide +kernel
theorem dGrower_grow_66 : decode bGrower_grow 66 = .ok (.iload_n 3, 1) := by decide +kernel
theorem dGrower_grow_67 : decode bGrower_grow 67 = .ok (.ifCond .eq 5, 3) := by decide +kernel
theorem dGrower_grow_70 : decode bGrower_grow 70 = .ok (.iload_n 3, 1) := by decide +kernel
theorem dGrower_grow_71 : decode bGrower_grow 71 = .ok (.ireturn, 1) := by decide +kernel
theorem dGrower_grow_72 : decode bGrower_grow 72 = .ok (.iinc 2 1, 3) := by decide +kernel
theorem dGrower_grow_75 : decode bGrower_grow 75 = .ok (.goto (-29), 3) := by decide +kernel
theorem dGrower_grow_78 : decode bGrower_grow 78 = .ok (.aload_n 0, 1) := by decide +kernel
theorem dGrower_grow_79 : decode bGrower_grow 79 = .ok (.iload_n 1, 1) := by decide +kernel
theorem dGrower_grow_80 : decode bGrower_grow 80 = .ok (.invokevirtual 73, 3) := by decide +kernel
theorem dGrower_grow_83 : decode bGrower_grow 83 = .ok (.aload_n 0, 1) := by decide +kernel
theorem dGrower_grow_84 : decode bGrower_grow 84 = .ok (.getfield 32, 3) := by decide +kernel
theorem dGrower_grow_87 : decode bGrower_grow 87 = .ok (.aload_n 0, 1) := by decide +kernel
theorem dGrower_grow_88 : decode bGrower_grow 88 = .ok (.getfield 12, 3) := by decide +kernel
theorem dGrower_grow_91 : decode bGrower_grow 91 = .ok (.invokevirtual 77, 3) := by decide +kernel
theorem dGrower_grow_94 : decode bGrower_grow 94 = .ok (.ifCond .eq 6, 3) := by decide +kernel
theorem dGrower_grow_97 : decode bGrower_grow 97 = .ok (.bipush (-4), 2) := by decide +kernel
theorem dGrower_grow_99 : decode bGrower_grow 99 = .ok (.ireturn, 1) := by decide +kernel
theorem dGrower_grow_100 : decode bGrower_grow 100 = .ok (.aload_n 0, 1) := by decide +kernel
theorem dGrower_grow_101 : decode bGrower_grow 101 = .ok (.getfield 36, 3) := by decide +kernel
theorem dGrower_grow_104 : decode bGrower_grow 104 = .ok (.aload_n 0, 1) := by decide +kernel
theorem dGrower_grow_105 : decode bGrower_grow 105 = .ok (.getfield 12, 3) := by decide +kernel
theorem dGrower_grow_108 : decode bGrower_grow 108 = .ok (.invokevirtual 81, 3) := by decide +kernel
theorem dGrower_grow_111 : decode bGrower_grow 111 = .ok (.aload_n 0, 1) := by decide +kernel
theorem dGrower_grow_112 : decode bGrower_grow 112 = .ok (.getfield 36, 3) := by decide +kernel
theorem dGrower_grow_115 : decode bGrower_grow 115 = .ok (.getfield 87, 3) := by decide +kernel
theorem dGrower_grow_118 : decode bGrower_grow 118 = .ok (.iconst 4, 1) := by decide +kernel
theorem dGrower_grow_119 : decode bGrower_grow 119 = .ok (.if_icmp .ne 8, 3) := by decide +kernel
theorem dGrower_grow_122 : decode bGrower_grow 122 = .ok (.bipush (-5), 2) := by decide +kernel
theorem dGrower_grow_124 : decode bGrower_grow 124 = .ok (.goto 18, 3) := by decide +kernel
theorem dGrower_grow_127 : decode bGrower_grow 127 = .ok (.aload_n 0, 1) := by decide +kernel
theorem dGrower_grow_128 : decode bGrower_grow 128 = .ok (.getfield 32, 3) := by decide +kernel
theorem dGrower_grow_131 : decode bGrower_grow 131 = .ok (.aload_n 0, 1) := by decide +kernel
theorem dGrower_grow_132 : decode bGrower_grow 132 = .ok (.getfield 12, 3) := by decide +kernel
theorem dGrower_grow_135 : decode bGrower_grow 135 = .ok (.aload_n 0, 1) := by decide +kernel
theorem dGrower_grow_136 : decode bGrower_grow 136 = .ok (.getfield 36, 3) := by decide +kernel
theorem dGrower_grow_139 : decode bGrower_grow 139 = .ok (.invokevirtual 90, 3) := by decide +kernel
theorem dGrower_grow_142 : decode bGrower_grow 142 = .ok (.ireturn, 1) := by decide +kernel
def stGrower_grow_46 (n : Nat) (ln : Nat → Nat) (post : Int32 → Nat → (Nat → Nat) → zM → Prop) (L46 : (Int32 × Int32 × zM) → Prop) : (Int32 × Int32 × zM) → Prop := fun s => match s with
  | (v1, v2, h) => (((2 ≤ v2) → wpGrower_pushChosen n ln v1 h (fun h80 => wpBook_holds n ln 20 h80 (fun r91 h91 => ((r91 = 0 → wpRunner_run n ln 20 h91 (fun h108 => ((¬ (h108 12 3) = 4 → wpBook_add n ln 20 h108 post) ∧ ((h108 12 3) = 4 → post (-5) n ln h108)))) ∧ (¬ r91 = 0 → post (-4) n ln h91))))) ∧ (¬ (2 ≤ v2) → wpCatalog_argumentType n ln v1 v2 h (fun r59 h59 => wpGrower_chooseArgument n ln v2 r59 h59 (fun r62 h62 => ((r62 = 0 → L46 (v1, (v2 + 1), h62)) ∧ (¬ r62 = 0 → post r62 n ln h62))))))
def wpGrower_grow (n : Nat) (ln : Nat → Nat) (h : zM) (post : Int32 → Nat → (Nat → Nat) → zM → Prop) : Prop := wpBook_isFull n ln h (fun r4 h4 => ((r4 = 0 → ((¬ (h4 1 1) = 0 → wpGrower_random n ln (h4 1 1) h4 (fun r33 h33 => wpSequence_clear 20 h33 (fun h41 => zL (stGrower_grow_46 n ln post) (r33, 0, h41)))) ∧ ((h4 1 1) = 0 → post (-1) n ln h4))) ∧ (¬ r4 = 0 → post (-6) n ln h4)))
abbrev rmGrower_grow : Room := { frames := 6, cells := 4, slots := 79, locals := 139 }
set_option maxHeartbeats 8000000 in
set_option maxRecDepth 100000 in
theorem cGrower_grow (l : Launch) (D : va_G) (cI cC cE : ClassId) (ad : Nat → Nat) (n : Nat) (ln : Nat → Nat) (A : Nat → Prop) (hJ : zJ A (34 + 4 * n) ad) (sz : Nat) (hA : ∀ q, sz ≤ q → A q) (h : zM) (post : Int32 → Nat → (Nat → Nat) → zM → Prop) (hw : wpGrower_grow n ln h post) : Met l yGrower_grow (.code yGrower_grow bGrower_grow 4 (some .int) :: zt) rmGrower_grow (va_Pc [.ref (ad 19)] (zPa D (zty cI cC cE) (34 + 4 * n) ad (zF ad cI cC cE n ln) A sz h)) (va_Qi (zaP post n ad A) (zaB D cI cC cE) A) 4 79 A := by
  refine Met.ofW (cc := bGrower_grow) (maxL := 4) (ret := (some .int)) (by decide) rfl ?_
  intro p e s m args below meth c s₁ B hml hv
  obtain ⟨rfl, ⟨hP, hK, hT, hN⟩, hz⟩ := hv
  have hr := B.returns
  have hlk := B.notSynchronized
  have S : zS p m c bGrower_grow 4 s _ "CallExplorer$Grower" := ⟨B.exec, B.bytes, hml, findClass_of_methodNamed B.named, fun w hw => atoms_spec (ws := .code yGrower_grow bGrower_grow 4 (some .int) :: zt) B.pre w (List.mem_cons_of_mem _ hw)⟩
  have hS : va_S A s.heap s.heap [] := va_S.rf
  have hA' : ∀ q, s.heap.size ≤ q → A q := fun q h => hA q (Nat.le_trans hz h)
  have hl := lv_entry ([.ref (ad 19)]) (n := 4) (Nat.le_of_ble_eq_true rfl)
  rw [lg_entry_eq]
  generalize (lg_sl ([.ref (ad 19)]) ++ List.replicate (4 - (lg_sl ([.ref (ad 19)])).length) Slot.unset).toArray = ls at hl ⊢
  have hl : lv_has ls 4 [(0, .ref (ad 19))] := hl
  show W p l e rmGrower_grow s m ([.ref (ad 19)] : List Value).toArray below meth c s.heap [] 0 0 (zQa post D cI cC cE n ad A below ([.ref (ad 19)] : List Value).toArray s 4 79) _
  generalize hargs : ([.ref (ad 19)] : List Value).toArray = args at S ⊢
  have J46 : ∀ (fu : Nat) (v1 : Int32) (v2 : Int32) (h : zM) (H : Heap) (locs : List Loc) (ls : Array Slot), zl (stGrower_grow_46 n ln post) fu (v1, v2, h) → lv_has ls 4 [(0, .ref (ad 19)), (1, .int v1), (2, .int v2)] → va_P D zcl (zW (34 + 4 * n) ad (zF ad cI cC cE n ln) h) H → va_S A s.heap H locs → W p l e rmGrower_grow s m args below meth c H locs 0 0 (zQa post D cI cC cE n ad A below args s 4 79) (F0 m 46 ls []) := by
    intro fu46
    induction fu46 with
    | zero =>
      intro v1 v2 h H locs ls hw
      exact (zl_0 hw).elim
    | succ fu46 ih46 =>
      intro v1 v2 h H locs ls hw hl hP hS
      have hw := zl_s hw
      generalize zl (stGrower_grow_46 n ln post) fu46 = L46 at hw ih46
      unfold stGrower_grow_46 at hw
      dsimp only at hw
      refine lv_iload_n S.1 S.2.1 dGrower_grow_46 rfl (lv_at hl 2 rfl) ?_
      refine lv_iconst (v := 2) S.1 S.2.1 dGrower_grow_47 (by decide) ?_
      refine lv_icmp_ge S.1 S.2.1 dGrower_grow_48 rfl (fun hc => ?_) (fun hc => ?_)
      · have hw := hw.1 hc
        refine lv_aload_n S.1 S.2.1 dGrower_grow_78 rfl (lv_at hl 0 rfl) ?_
        refine lv_iload_n S.1 S.2.1 dGrower_grow_79 rfl (lv_at hl 1 rfl) ?_
        refine zr_v (zr_V (As := [.int v1]) (rest := []) S hK hT hN hP hS (zk (by decide)) (zF_19 _) rfl (cGrower_pushChosen l D cI cC cE ad n ln A hJ _ _ _ hw) caGrower_73 ⟨Nat.le_of_ble_eq_true rfl, Nat.le_of_ble_eq_true rfl⟩ ⟨rfl, rfl⟩ rfl hl.1 rfl (Nat.le_of_ble_eq_true rfl) dGrower_grow_80) hS (fun h80 H locs hw hP hS => ?_)
        refine lv_aload_n S.1 S.2.1 dGrower_grow_83 rfl (lv_at hl 0 rfl) ?_
        refine zr_get S hK hP (zk (by decide)) (zF_19 _) fGrower_book q193 rfl dGrower_grow_84 ?_
        refine lv_aload_n S.1 S.2.1 dGrower_grow_87 rfl (lv_at hl 0 rfl) ?_
        refine zr_get S hK hP (zk (by decide)) (zF_19 _) fGrower_sequence q195 rfl dGrower_grow_88 ?_
        refine zr_i (zr_V (As := [.ref (ad 20)]) (rest := []) S hK hT hN hP hS (zk (by decide)) (zF_9 _) rfl (cBook_holds l D cI cC cE ad n ln A hJ 20 zs_20 _ _ hw) caGrower_77 ⟨Nat.le_of_ble_eq_true rfl, Nat.le_of_ble_eq_true rfl⟩ ⟨rfl, rfl⟩ rfl hl.1 rfl (Nat.le_of_ble_eq_true rfl) dGrower_grow_91) hS (fun r91 h91 H locs hw hP hS => ?_)
        refine lv_if_eq S.1 S.2.1 dGrower_grow_94 rfl (fun hc => ?_) (fun hc => ?_)
        · have hw := hw.1 hc
          refine lv_aload_n S.1 S.2.1 dGrower_grow_100 rfl (lv_at hl 0 rfl) ?_
          refine zr_get S hK hP (zk (by decide)) (zF_19 _) fGrower_runner q194 rfl dGrower_grow_101 ?_
          refine lv_aload_n S.1 S.2.1 dGrower_grow_104 rfl (lv_at hl 0 rfl) ?_
          refine zr_get S hK hP (zk (by decide)) (zF_19 _) fGrower_sequence q195 rfl dGrower_grow_105 ?_
          refine zr_v (zr_V (As := [.ref (ad 20)]) (rest := []) S hK hT hN hP hS (zk (by decide)) (zF_12 _) rfl (cRunner_run l D cI cC cE ad n ln A hJ 20 zs_20 _ _ hw) caGrower_81 ⟨Nat.le_of_ble_eq_true rfl, Nat.le_of_ble_eq_true rfl⟩ ⟨rfl, rfl⟩ rfl hl.1 rfl (Nat.le_of_ble_eq_true rfl) dGrower_grow_108) hS (fun h108 H locs hw hP hS => ?_)
          refine lv_aload_n S.1 S.2.1 dGrower_grow_111 rfl (lv_at hl 0 rfl) ?_
          refine zr_get S hK hP (zk (by decide)) (zF_19 _) fGrower_runner q194 rfl dGrower_grow_112 ?_
          refine zr_get S hK hP (zk (by decide)) (zF_12 _) fRunner_outcome q129 rfl dGrower_grow_115 ?_
          refine lv_iconst (v := 4) S.1 S.2.1 dGrower_grow_118 (by decide) ?_
          refine lv_icmp_ne S.1 S.2.1 dGrower_grow_119 rfl (fun hc => ?_) (fun hc => ?_)
          · have hw := hw.1 hc
            refine lv_aload_n S.1 S.2.1 dGrower_grow_127 rfl (lv_at hl 0 rfl) ?_
            refine zr_get S hK hP (zk (by decide)) (zF_19 _) fGrower_book q193 rfl dGrower_grow_128 ?_
            refine lv_aload_n S.1 S.2.1 dGrower_grow_131 rfl (lv_at hl 0 rfl) ?_
            refine zr_get S hK hP (zk (by decide)) (zF_19 _) fGrower_sequence q195 rfl dGrower_grow_132 ?_
            refine lv_aload_n S.1 S.2.1 dGrower_grow_135 rfl (lv_at hl 0 rfl) ?_
            refine zr_get S hK hP (zk (by decide)) (zF_19 _) fGrower_runner q194 rfl dGrower_grow_136 ?_
            refine va_calli (zg_VA (As := [.ref (ad 20), .ref (ad 12)]) (rest := []) S hK hT hN hP hS hz (zk (by decide)) (zF_9 _) rfl (cBook_add l D cI cC cE ad n ln A hJ sz hA 20 zs_20 _ _ hw) caGrower_90 ⟨Nat.le_of_ble_eq_true rfl, Nat.le_of_ble_eq_true rfl⟩ ⟨rfl, rfl⟩ rfl hl.1 rfl (Nat.le_of_ble_eq_true rfl) dGrower_grow_139 ⟨Nat.le_of_ble_eq_true rfl, Nat.le_of_ble_eq_true rfl⟩) hS (fun _ _ h => h) (fun _ h => h) (fun r u t H1 locs ht hvm hp hB _ _ hS => ?_)
            obtain ⟨hw, hn1, hag, hJ1⟩ := hp
            obtain ⟨hP, -⟩ := hB
            rw [ht] at hP
            refine W.widen (k := 4) (n := 79) (Nat.le_of_ble_eq_true rfl) (Nat.le_of_ble_eq_true rfl) ?_
            exact zr_aret S hr hlk hK hP hS hJ1 hn1 hag hw dGrower_grow_142
          · have hw := hw.2 hc
            refine lv_bipush (v := (-5)) S.1 S.2.1 dGrower_grow_122 (by decide) ?_
            refine lv_goto S.1 S.2.1 dGrower_grow_124 rfl ?_
            refine W.widen (k := 4) (n := 79) (Nat.zero_le _) (Nat.zero_le _) ?_
            exact zr_aret S hr hlk hK hP hS hJ (Nat.le_refl _) (fun _ _ => rfl) hw dGrower_grow_142
        · have hw := hw.2 hc
          refine lv_bipush (v := (-4)) S.1 S.2.1 dGrower_grow_97 (by decide) ?_
          refine W.widen (k := 4) (n := 79) (Nat.zero_le _) (Nat.zero_le _) ?_
          exact zr_aret S hr hlk hK hP hS hJ (Nat.le_refl _) (fun _ _ => rfl) hw dGrower_grow_99
      · have hw := hw.2 hc
        refine lv_aload_n S.1 S.2.1 dGrower_grow_51 rfl (lv_at hl 0 rfl) ?_
        refine lv_iload_n S.1 S.2.1 dGrower_grow_52 rfl (lv_at hl 2 rfl) ?_
        refine lv_aload_n S.1 S.2.1 dGrower_grow_53 rfl (lv_at hl 0 rfl) ?_
        refine zr_get S hK hP (zk (by decide)) (zF_19 _) fGrower_catalog q192 rfl dGrower_grow_54 ?_
        refine lv_iload_n S.1 S.2.1 dGrower_grow_57 rfl (lv_at hl 1 rfl) ?_
        refine lv_iload_n S.1 S.2.1 dGrower_grow_58 rfl (lv_at hl 2 rfl) ?_
        refine zr_i (zr_V (As := [.int v1, .int v2]) (rest := [.int v2, .ref (ad 19)]) S hK hT hN hP hS (zk (by decide)) (zF_1 _) rfl (cCatalog_argumentType l D cI cC cE ad n ln A hJ _ _ _ _ hw) caGrower_66 ⟨Nat.le_of_ble_eq_true rfl, Nat.le_of_ble_eq_true rfl⟩ ⟨rfl, rfl⟩ rfl hl.1 rfl (Nat.le_of_ble_eq_true rfl) dGrower_grow_59) hS (fun r59 h59 H locs hw hP hS => ?_)
        refine zr_i (zr_V (As := [.int v2, .int r59]) (rest := []) S hK hT hN hP hS (zk (by decide)) (zF_19 _) rfl (cGrower_chooseArgument l D cI cC cE ad n ln A hJ _ _ _ _ hw) caGrower_70 ⟨Nat.le_of_ble_eq_true rfl, Nat.le_of_ble_eq_true rfl⟩ ⟨rfl, rfl⟩ rfl hl.1 rfl (Nat.le_of_ble_eq_true rfl) dGrower_grow_62) hS (fun r62 h62 H locs hw hP hS => ?_)
        refine lv_istore_n (lv' := [(3, .int r62), (0, .ref (ad 19)), (1, .int v1), (2, .int v2)]) S.1 S.2.1 dGrower_grow_65 rfl hl (by decide) rfl (fun ls hl => ?_)
        refine lv_iload_n S.1 S.2.1 dGrower_grow_66 rfl (lv_at hl 0 rfl) ?_
        refine lv_if_eq S.1 S.2.1 dGrower_grow_67 rfl (fun hc => ?_) (fun hc => ?_)
        · have hw := hw.1 hc
          refine lv_iinc (v := (v2 + 1)) (lv' := [(2, .int (v2 + 1)), (3, .int r62), (0, .ref (ad 19)), (1, .int v1)]) (k := 3) S.1 S.2.1 dGrower_grow_72 hl rfl rfl (by decide) rfl (fun ls hl => ?_)
          refine lv_goto S.1 S.2.1 dGrower_grow_75 rfl ?_
          exact ih46 _ _ _ _ _ _ hw (lv_sub hl [2, 3, 0] rfl) hP hS
        · have hw := hw.2 hc
          refine lv_iload_n S.1 S.2.1 dGrower_grow_70 rfl (lv_at hl 0 rfl) ?_
          refine W.widen (k := 4) (n := 79) (Nat.zero_le _) (Nat.zero_le _) ?_
          exact zr_aret S hr hlk hK hP hS hJ (Nat.le_refl _) (fun _ _ => rfl) hw dGrower_grow_71
  unfold wpGrower_grow at hw
  refine lv_aload_n S.1 S.2.1 dGrower_grow_0 rfl (lv_at hl 0 rfl) ?_
  refine zr_get S hK hP (zk (by decide)) (zF_19 _) fGrower_book q193 rfl dGrower_grow_1 ?_
  refine zr_i (zr_V (As := []) (rest := []) S hK hT hN hP hS (zk (by decide)) (zF_9 _) rfl (cBook_isFull l D cI cC cE ad n ln A hJ _ _ hw) caGrower_48 ⟨Nat.le_of_ble_eq_true rfl, Nat.le_of_ble_eq_true rfl⟩ ⟨rfl, rfl⟩ rfl hl.1 rfl (Nat.le_of_ble_eq_true rfl) dGrower_grow_4) hS (fun r4 h4 H locs hw hP hS => ?_)
  refine lv_if_eq S.1 S.2.1 dGrower_grow_7 rfl (fun hc => ?_) (fun hc => ?_)
  · have hw := hw.1 hc
    refine lv_aload_n S.1 S.2.1 dGrower_grow_13 rfl (lv_at hl 0 rfl) ?_
    refine zr_get S hK hP (zk (by decide)) (zF_19 _) fGrower_catalog q192 rfl dGrower_grow_14 ?_
    refine zr_get S hK hP (zk (by decide)) (zF_1 _) fCatalog_operations q32 rfl dGrower_grow_17 ?_
    refine lv_if_ne S.1 S.2.1 dGrower_grow_20 rfl (fun hc => ?_) (fun hc => ?_)
    · have hw := hw.1 hc
      refine lv_aload_n S.1 S.2.1 dGrower_grow_25 rfl (lv_at hl 0 rfl) ?_
      refine lv_aload_n S.1 S.2.1 dGrower_grow_26 rfl (lv_at hl 0 rfl) ?_
      refine zr_get S hK hP (zk (by decide)) (zF_19 _) fGrower_catalog q192 rfl dGrower_grow_27 ?_
      refine zr_get S hK hP (zk (by decide)) (zF_1 _) fCatalog_operations q32 rfl dGrower_grow_30 ?_
      refine zr_i (zr_V (As := [.int (h4 1 1)]) (rest := []) S hK hT hN hP hS (zk (by decide)) (zF_19 _) rfl (cGrower_random l D cI cC cE ad n ln A hJ _ _ _ hw) caGrower_59 ⟨Nat.le_of_ble_eq_true rfl, Nat.le_of_ble_eq_true rfl⟩ ⟨rfl, rfl⟩ rfl hl.1 rfl (Nat.le_of_ble_eq_true rfl) dGrower_grow_33) hS (fun r33 h33 H locs hw hP hS => ?_)
      refine lv_istore_n (lv' := [(1, .int r33), (0, .ref (ad 19))]) S.1 S.2.1 dGrower_grow_36 rfl hl (by decide) rfl (fun ls hl => ?_)
      refine lv_aload_n S.1 S.2.1 dGrower_grow_37 rfl (lv_at hl 1 rfl) ?_
      refine zr_get S hK hP (zk (by decide)) (zF_19 _) fGrower_sequence q195 rfl dGrower_grow_38 ?_
      refine zr_v (zr_V (As := []) (rest := []) S hK hT hN hP hS (zk (by decide)) (zF_20 _) rfl (cSequence_clear l D (zty cI cC cE) (34 + 4 * n) ad (zF ad cI cC cE n ln) A hJ cI rfl 20 zs_20 _ _ hw) caGrower_63 ⟨Nat.le_of_ble_eq_true rfl, Nat.le_of_ble_eq_true rfl⟩ ⟨rfl, rfl⟩ rfl hl.1 rfl (Nat.le_of_ble_eq_true rfl) dGrower_grow_41) hS (fun h41 H locs hw hP hS => ?_)
      refine lv_iconst (v := 0) S.1 S.2.1 dGrower_grow_44 (by decide) ?_
      refine lv_istore_n (lv' := [(2, .int 0), (1, .int r33), (0, .ref (ad 19))]) S.1 S.2.1 dGrower_grow_45 rfl hl (by decide) rfl (fun ls hl => ?_)
      obtain ⟨fu, hw⟩ := hw
      exact J46 fu _ _ _ _ _ _ hw (lv_sub hl [2, 1, 0] rfl) hP hS
    · have hw := hw.2 hc
      refine lv_iconst (v := (-1)) S.1 S.2.1 dGrower_grow_23 (by decide) ?_
      refine W.widen (k := 4) (n := 79) (Nat.zero_le _) (Nat.zero_le _) ?_
      exact zr_aret S hr hlk hK hP hS hJ (Nat.le_refl _) (fun _ _ => rfl) hw dGrower_grow_24
  · have hw := hw.2 hc
    refine lv_bipush (v := (-6)) S.1 S.2.1 dGrower_grow_10 (by decide) ?_
    refine W.widen (k := 4) (n := 79) (Nat.zero_le _) (Nat.zero_le _) ?_
    exact zr_aret S hr hlk hK hP hS hJ (Nat.le_refl _) (fun _ _ => rfl) hw dGrower_grow_12
theorem dTop_step_0 : decode bTop_step 0 = .ok (.aload_n 0, 1) := by decide +kernel
theorem dTop_step_1 : decode bTop_step 1 = .ok (.getfield 37, 3) := by decide +kernel
theorem dTop_step_4 : decode bTop_step 4 = .ok (.invokevirtual 75, 3) := by decide +kernel
theorem dTop_step_7 : decode bTop_step 7 = .ok (.ireturn, 1) := by decide +kernel
def wpTop_step (n : Nat) (ln : Nat → Nat) (h : zM) (post : Int32 → Nat → (Nat → Nat) → zM → Prop) : Prop := wpGrower_grow n ln h post
abbrev rmTop_step : Room := { frames := 7, cells := 4, slots := 79, locals := 162 }
set_option maxHeartbeats 8000000 in
set_option maxRecDepth 100000 in
theorem cTop_step (l : Launch) (D : va_G) (cI cC cE : ClassId) (ad : Nat → Nat) (n : Nat) (ln : Nat → Nat) (A : Nat → Prop) (hJ : zJ A (34 + 4 * n) ad) (sz : Nat) (hA : ∀ q, sz ≤ q → A q) (h : zM) (post : Int32 → Nat → (Nat → Nat) → zM → Prop) (hw : wpTop_step n ln h post) : Met l yTop_step (.code yTop_step bTop_step 1 (some .int) :: zt) rmTop_step (va_Pc [.ref (ad 0)] (zPa D (zty cI cC cE) (34 + 4 * n) ad (zF ad cI cC cE n ln) A sz h)) (va_Qi (zaP post n ad A) (zaB D cI cC cE) A) 4 79 A := by
  refine Met.ofW (cc := bTop_step) (maxL := 1) (ret := (some .int)) (by decide) rfl ?_
  intro p e s m args below meth c s₁ B hml hv
  obtain ⟨rfl, ⟨hP, hK, hT, hN⟩, hz⟩ := hv
  have hr := B.returns
  have hlk := B.notSynchronized
  have S : zS p m c bTop_step 1 s _ "CallExplorer" := ⟨B.exec, B.bytes, hml, findClass_of_methodNamed B.named, fun w hw => atoms_spec (ws := .code yTop_step bTop_step 1 (some .int) :: zt) B.pre w (List.mem_cons_of_mem _ hw)⟩
  have hS : va_S A s.heap s.heap [] := va_S.rf
  have hA' : ∀ q, s.heap.size ≤ q → A q := fun q h => hA q (Nat.le_trans hz h)
  have hl := lv_entry ([.ref (ad 0)]) (n := 1) (Nat.le_of_ble_eq_true rfl)
  rw [lg_entry_eq]
  generalize (lg_sl ([.ref (ad 0)]) ++ List.replicate (1 - (lg_sl ([.ref (ad 0)])).length) Slot.unset).toArray = ls at hl ⊢
  have hl : lv_has ls 1 [(0, .ref (ad 0))] := hl
  show W p l e rmTop_step s m ([.ref (ad 0)] : List Value).toArray below meth c s.heap [] 0 0 (zQa post D cI cC cE n ad A below ([.ref (ad 0)] : List Value).toArray s 4 79) _
  generalize hargs : ([.ref (ad 0)] : List Value).toArray = args at S ⊢
  unfold wpTop_step at hw
  refine lv_aload_n S.1 S.2.1 dTop_step_0 rfl (lv_at hl 0 rfl) ?_
  refine zr_get S hK hP (zk (by decide)) (zF_0 _) fTop_grower q298 rfl dTop_step_1 ?_
  refine va_calli (zg_VA (As := []) (rest := []) S hK hT hN hP hS hz (zk (by decide)) (zF_19 _) rfl (cGrower_grow l D cI cC cE ad n ln A hJ sz hA _ _ hw) caTop_75 ⟨Nat.le_of_ble_eq_true rfl, Nat.le_of_ble_eq_true rfl⟩ ⟨rfl, rfl⟩ rfl hl.1 rfl (Nat.le_of_ble_eq_true rfl) dTop_step_4 ⟨Nat.le_of_ble_eq_true rfl, Nat.le_of_ble_eq_true rfl⟩) hS (fun _ _ h => h) (fun _ h => h) (fun r u t H1 locs ht hvm hp hB _ _ hS => ?_)
  obtain ⟨hw, hn1, hag, hJ1⟩ := hp
  obtain ⟨hP, -⟩ := hB
  rw [ht] at hP
  refine W.widen (k := 4) (n := 79) (Nat.le_of_ble_eq_true rfl) (Nat.le_of_ble_eq_true rfl) ?_
  exact zr_aret S hr hlk hK hP hS hJ1 hn1 hag hw dTop_step_7
