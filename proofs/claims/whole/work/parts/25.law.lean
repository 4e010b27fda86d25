/-! words of the tables by their places; printed by wip/whole/gen/gen.py -/
theorem q0 : Cond.initialized "CallExplorerLaw" ∈ zt := zin (List.mem_append_right _ (List.mem_of_getElem? (i := 0) (by decide +kernel))) (by decide +kernel)
theorem q1 : Cond.initialized "CallExplorer" ∈ zt := zin (List.mem_append_right _ (List.mem_of_getElem? (i := 1) (by decide +kernel))) (by decide +kernel)
theorem q16 : Cond.classLink "CallExplorerLaw" (7 : Nat) "CallExplorer" ∈ zt := zin (List.mem_append_right _ (List.mem_of_getElem? (i := 16) (by decide +kernel))) (by decide +kernel)
theorem q17 : Cond.instantiable "CallExplorer" (7 : Nat) ∈ zt := zin (List.mem_append_right _ (List.mem_of_getElem? (i := 17) (by decide +kernel))) (by decide +kernel)
theorem q18 : Cond.methodLink "CallExplorerLaw" (15 : Nat) ({ cls := "CallExplorer", name := "<init>", desc := "(I)V" } : MethodName) ∈ zt := zin (List.mem_append_right _ (List.mem_of_getElem? (i := 18) (by decide +kernel))) (by decide +kernel)
theorem q19 : Cond.instanceMethod ({ cls := "CallExplorer", name := "<init>", desc := "(I)V" } : MethodName) ∈ zt := zin (List.mem_append_right _ (List.mem_of_getElem? (i := 19) (by decide +kernel))) (by decide +kernel)
set_option maxRecDepth 100000 in
theorem q20 : Cond.code ({ cls := "CallExplorer", name := "<init>", desc := "(I)V" } : MethodName) prog_1_method_1_code (2 : Nat) (Option.none : Option FieldType) ∈ zt := zin (List.mem_append_right _ (List.mem_of_getElem? (i := 20) (rfl))) (by rfl)
theorem q317 : Cond.methodLink "CallExplorerLaw" (21 : Nat) ({ cls := "CallExplorer", name := "type", desc := "(III)I" } : MethodName) ∈ zt := zin (List.mem_append_right _ (List.mem_of_getElem? (i := 317) (by decide +kernel))) (by decide +kernel)
theorem q318 : Cond.instanceMethod ({ cls := "CallExplorer", name := "type", desc := "(III)I" } : MethodName) ∈ zt := zin (List.mem_append_right _ (List.mem_of_getElem? (i := 318) (by decide +kernel))) (by decide +kernel)
theorem q319 : Cond.selects "CallExplorer" ({ cls := "CallExplorer", name := "type", desc := "(III)I" } : MethodName) ({ cls := "CallExplorer", name := "type", desc := "(III)I" } : MethodName) ∈ zt := zin (List.mem_append_right _ (List.mem_of_getElem? (i := 319) (by decide +kernel))) (by decide +kernel)
set_option maxRecDepth 100000 in
theorem q320 : Cond.code ({ cls := "CallExplorer", name := "type", desc := "(III)I" } : MethodName) prog_1_method_2_code (4 : Nat) (Option.some FieldType.int) ∈ zt := zin (List.mem_append_right _ (List.mem_of_getElem? (i := 320) (rfl))) (by rfl)
theorem q329 : Cond.methodLink "CallExplorerLaw" (26 : Nat) ({ cls := "CallExplorer", name := "operation", desc := "(III)I" } : MethodName) ∈ zt := zin (List.mem_append_right _ (List.mem_of_getElem? (i := 329) (by decide +kernel))) (by decide +kernel)
theorem q330 : Cond.instanceMethod ({ cls := "CallExplorer", name := "operation", desc := "(III)I" } : MethodName) ∈ zt := zin (List.mem_append_right _ (List.mem_of_getElem? (i := 330) (by decide +kernel))) (by decide +kernel)
theorem q331 : Cond.selects "CallExplorer" ({ cls := "CallExplorer", name := "operation", desc := "(III)I" } : MethodName) ({ cls := "CallExplorer", name := "operation", desc := "(III)I" } : MethodName) ∈ zt := zin (List.mem_append_right _ (List.mem_of_getElem? (i := 331) (by decide +kernel))) (by decide +kernel)
set_option maxRecDepth 100000 in
theorem q332 : Cond.code ({ cls := "CallExplorer", name := "operation", desc := "(III)I" } : MethodName) prog_1_method_3_code (4 : Nat) (Option.some FieldType.int) ∈ zt := zin (List.mem_append_right _ (List.mem_of_getElem? (i := 332) (rfl))) (by rfl)
theorem q351 : Cond.methodLink "CallExplorerLaw" (30 : Nat) ({ cls := "CallExplorer", name := "literal", desc := "(I)I" } : MethodName) ∈ zt := zin (List.mem_append_right _ (List.mem_of_getElem? (i := 351) (by decide +kernel))) (by decide +kernel)
theorem q352 : Cond.instanceMethod ({ cls := "CallExplorer", name := "literal", desc := "(I)I" } : MethodName) ∈ zt := zin (List.mem_append_right _ (List.mem_of_getElem? (i := 352) (by decide +kernel))) (by decide +kernel)
theorem q353 : Cond.selects "CallExplorer" ({ cls := "CallExplorer", name := "literal", desc := "(I)I" } : MethodName) ({ cls := "CallExplorer", name := "literal", desc := "(I)I" } : MethodName) ∈ zt := zin (List.mem_append_right _ (List.mem_of_getElem? (i := 353) (by decide +kernel))) (by decide +kernel)
set_option maxRecDepth 100000 in
theorem q354 : Cond.code ({ cls := "CallExplorer", name := "literal", desc := "(I)I" } : MethodName) prog_1_method_4_code (2 : Nat) (Option.some FieldType.int) ∈ zt := zin (List.mem_append_right _ (List.mem_of_getElem? (i := 354) (rfl))) (by rfl)
theorem q359 : Cond.methodLink "CallExplorerLaw" (35 : Nat) ({ cls := "CallExplorer", name := "step", desc := "()I" } : MethodName) ∈ zt := zin (List.mem_append_right _ (List.mem_of_getElem? (i := 359) (by decide +kernel))) (by decide +kernel)
theorem q360 : Cond.instanceMethod ({ cls := "CallExplorer", name := "step", desc := "()I" } : MethodName) ∈ zt := zin (List.mem_append_right _ (List.mem_of_getElem? (i := 360) (by decide +kernel))) (by decide +kernel)
theorem q361 : Cond.selects "CallExplorer" ({ cls := "CallExplorer", name := "step", desc := "()I" } : MethodName) ({ cls := "CallExplorer", name := "step", desc := "()I" } : MethodName) ∈ zt := zin (List.mem_append_right _ (List.mem_of_getElem? (i := 361) (by decide +kernel))) (by decide +kernel)
set_option maxRecDepth 100000 in
theorem q362 : Cond.code ({ cls := "CallExplorer", name := "step", desc := "()I" } : MethodName) prog_1_method_5_code (1 : Nat) (Option.some FieldType.int) ∈ zt := zin (List.mem_append_right _ (List.mem_of_getElem? (i := 362) (rfl))) (by rfl)
theorem q638 : Cond.methodLink "CallExplorerLaw" (40 : Nat) ({ cls := "CallExplorer", name := "seek", desc := "(I)I" } : MethodName) ∈ zt := zin (List.mem_append_right _ (List.mem_of_getElem? (i := 638) (by decide +kernel))) (by decide +kernel)
theorem q639 : Cond.instanceMethod ({ cls := "CallExplorer", name := "seek", desc := "(I)I" } : MethodName) ∈ zt := zin (List.mem_append_right _ (List.mem_of_getElem? (i := 639) (by decide +kernel))) (by decide +kernel)
theorem q640 : Cond.selects "CallExplorer" ({ cls := "CallExplorer", name := "seek", desc := "(I)I" } : MethodName) ({ cls := "CallExplorer", name := "seek", desc := "(I)I" } : MethodName) ∈ zt := zin (List.mem_append_right _ (List.mem_of_getElem? (i := 640) (by decide +kernel))) (by decide +kernel)
set_option maxRecDepth 100000 in
theorem q641 : Cond.code ({ cls := "CallExplorer", name := "seek", desc := "(I)I" } : MethodName) prog_1_method_6_code (4 : Nat) (Option.some FieldType.int) ∈ zt := zin (List.mem_append_right _ (List.mem_of_getElem? (i := 641) (rfl))) (by rfl)
theorem q643 : Cond.methodLink "CallExplorerLaw" (44 : Nat) ({ cls := "CallExplorer", name := "shorten", desc := "(I)I" } : MethodName) ∈ zt := zin (List.mem_append_right _ (List.mem_of_getElem? (i := 643) (by decide +kernel))) (by decide +kernel)
theorem q644 : Cond.instanceMethod ({ cls := "CallExplorer", name := "shorten", desc := "(I)I" } : MethodName) ∈ zt := zin (List.mem_append_right _ (List.mem_of_getElem? (i := 644) (by decide +kernel))) (by decide +kernel)
theorem q645 : Cond.selects "CallExplorer" ({ cls := "CallExplorer", name := "shorten", desc := "(I)I" } : MethodName) ({ cls := "CallExplorer", name := "shorten", desc := "(I)I" } : MethodName) ∈ zt := zin (List.mem_append_right _ (List.mem_of_getElem? (i := 645) (by decide +kernel))) (by decide +kernel)
set_option maxRecDepth 100000 in
theorem q646 : Cond.code ({ cls := "CallExplorer", name := "shorten", desc := "(I)I" } : MethodName) prog_1_method_7_code (3 : Nat) (Option.some FieldType.int) ∈ zt := zin (List.mem_append_right _ (List.mem_of_getElem? (i := 646) (rfl))) (by rfl)
theorem q684 : Cond.methodLink "CallExplorerLaw" (48 : Nat) ({ cls := "CallExplorer", name := "entries", desc := "()I" } : MethodName) ∈ zt := zin (List.mem_append_right _ (List.mem_of_getElem? (i := 684) (by decide +kernel))) (by decide +kernel)
theorem q685 : Cond.instanceMethod ({ cls := "CallExplorer", name := "entries", desc := "()I" } : MethodName) ∈ zt := zin (List.mem_append_right _ (List.mem_of_getElem? (i := 685) (by decide +kernel))) (by decide +kernel)
theorem q686 : Cond.selects "CallExplorer" ({ cls := "CallExplorer", name := "entries", desc := "()I" } : MethodName) ({ cls := "CallExplorer", name := "entries", desc := "()I" } : MethodName) ∈ zt := zin (List.mem_append_right _ (List.mem_of_getElem? (i := 686) (by decide +kernel))) (by decide +kernel)
set_option maxRecDepth 100000 in
theorem q687 : Cond.code ({ cls := "CallExplorer", name := "entries", desc := "()I" } : MethodName) prog_1_method_8_code (1 : Nat) (Option.some FieldType.int) ∈ zt := zin (List.mem_append_right _ (List.mem_of_getElem? (i := 687) (rfl))) (by rfl)
theorem q688 : Cond.methodLink "CallExplorerLaw" (52 : Nat) ({ cls := "CallExplorer", name := "entry", desc := "(II)I" } : MethodName) ∈ zt := zin (List.mem_append_right _ (List.mem_of_getElem? (i := 688) (by decide +kernel))) (by decide +kernel)
theorem q689 : Cond.instanceMethod ({ cls := "CallExplorer", name := "entry", desc := "(II)I" } : MethodName) ∈ zt := zin (List.mem_append_right _ (List.mem_of_getElem? (i := 689) (by decide +kernel))) (by decide +kernel)
theorem q690 : Cond.selects "CallExplorer" ({ cls := "CallExplorer", name := "entry", desc := "(II)I" } : MethodName) ({ cls := "CallExplorer", name := "entry", desc := "(II)I" } : MethodName) ∈ zt := zin (List.mem_append_right _ (List.mem_of_getElem? (i := 690) (by decide +kernel))) (by decide +kernel)
set_option maxRecDepth 100000 in
theorem q691 : Cond.code ({ cls := "CallExplorer", name := "entry", desc := "(II)I" } : MethodName) prog_1_method_9_code (4 : Nat) (Option.some FieldType.int) ∈ zt := zin (List.mem_append_right _ (List.mem_of_getElem? (i := 691) (rfl))) (by rfl)
theorem q692 : Cond.methodLink "CallExplorerLaw" (57 : Nat) ({ cls := "CallExplorer", name := "statement", desc := "(III)I" } : MethodName) ∈ zt := zin (List.mem_append_right _ (List.mem_of_getElem? (i := 692) (by decide +kernel))) (by decide +kernel)
theorem q693 : Cond.instanceMethod ({ cls := "CallExplorer", name := "statement", desc := "(III)I" } : MethodName) ∈ zt := zin (List.mem_append_right _ (List.mem_of_getElem? (i := 693) (by decide +kernel))) (by decide +kernel)
theorem q694 : Cond.selects "CallExplorer" ({ cls := "CallExplorer", name := "statement", desc := "(III)I" } : MethodName) ({ cls := "CallExplorer", name := "statement", desc := "(III)I" } : MethodName) ∈ zt := zin (List.mem_append_right _ (List.mem_of_getElem? (i := 694) (by decide +kernel))) (by decide +kernel)
set_option maxRecDepth 100000 in
theorem q695 : Cond.code ({ cls := "CallExplorer", name := "statement", desc := "(III)I" } : MethodName) prog_1_method_10_code (5 : Nat) (Option.some FieldType.int) ∈ zt := zin (List.mem_append_right _ (List.mem_of_getElem? (i := 695) (rfl))) (by rfl)
theorem q696 : Cond.methodLink "CallExplorerLaw" (61 : Nat) ({ cls := "CallExplorer", name := "text", desc := "(II)I" } : MethodName) ∈ zt := zin (List.mem_append_right _ (List.mem_of_getElem? (i := 696) (by decide +kernel))) (by decide +kernel)
theorem q697 : Cond.instanceMethod ({ cls := "CallExplorer", name := "text", desc := "(II)I" } : MethodName) ∈ zt := zin (List.mem_append_right _ (List.mem_of_getElem? (i := 697) (by decide +kernel))) (by decide +kernel)
theorem q698 : Cond.selects "CallExplorer" ({ cls := "CallExplorer", name := "text", desc := "(II)I" } : MethodName) ({ cls := "CallExplorer", name := "text", desc := "(II)I" } : MethodName) ∈ zt := zin (List.mem_append_right _ (List.mem_of_getElem? (i := 698) (by decide +kernel))) (by decide +kernel)
set_option maxRecDepth 100000 in
theorem q699 : Cond.code ({ cls := "CallExplorer", name := "text", desc := "(II)I" } : MethodName) prog_1_method_11_code (4 : Nat) (Option.some FieldType.int) ∈ zt := zin (List.mem_append_right _ (List.mem_of_getElem? (i := 699) (rfl))) (by rfl)
theorem q734 : Cond.methodLink "CallExplorerLaw" (67 : Nat) ({ cls := "CallExplorer", name := "draft", desc := "(J)Z" } : MethodName) ∈ zt := zin (List.mem_append_right _ (List.mem_of_getElem? (i := 734) (by decide +kernel))) (by decide +kernel)
theorem q735 : Cond.instanceMethod ({ cls := "CallExplorer", name := "draft", desc := "(J)Z" } : MethodName) ∈ zt := zin (List.mem_append_right _ (List.mem_of_getElem? (i := 735) (by decide +kernel))) (by decide +kernel)
theorem q736 : Cond.selects "CallExplorer" ({ cls := "CallExplorer", name := "draft", desc := "(J)Z" } : MethodName) ({ cls := "CallExplorer", name := "draft", desc := "(J)Z" } : MethodName) ∈ zt := zin (List.mem_append_right _ (List.mem_of_getElem? (i := 736) (by decide +kernel))) (by decide +kernel)
set_option maxRecDepth 100000 in
theorem q737 : Cond.code ({ cls := "CallExplorer", name := "draft", desc := "(J)Z" } : MethodName) prog_1_method_12_code (3 : Nat) (Option.some FieldType.boolean) ∈ zt := zin (List.mem_append_right _ (List.mem_of_getElem? (i := 737) (rfl))) (by rfl)
theorem q751 : Cond.methodLink "CallExplorerLaw" (72 : Nat) ({ cls := "CallExplorer", name := "replay", desc := "()I" } : MethodName) ∈ zt := zin (List.mem_append_right _ (List.mem_of_getElem? (i := 751) (by decide +kernel))) (by decide +kernel)
theorem q752 : Cond.instanceMethod ({ cls := "CallExplorer", name := "replay", desc := "()I" } : MethodName) ∈ zt := zin (List.mem_append_right _ (List.mem_of_getElem? (i := 752) (by decide +kernel))) (by decide +kernel)
theorem q753 : Cond.selects "CallExplorer" ({ cls := "CallExplorer", name := "replay", desc := "()I" } : MethodName) ({ cls := "CallExplorer", name := "replay", desc := "()I" } : MethodName) ∈ zt := zin (List.mem_append_right _ (List.mem_of_getElem? (i := 753) (by decide +kernel))) (by decide +kernel)
set_option maxRecDepth 100000 in
theorem q754 : Cond.code ({ cls := "CallExplorer", name := "replay", desc := "()I" } : MethodName) prog_1_method_13_code (1 : Nat) (Option.some FieldType.int) ∈ zt := zin (List.mem_append_right _ (List.mem_of_getElem? (i := 754) (rfl))) (by rfl)
theorem q815 : Cond.methodLink "CallExplorerLaw" (76 : Nat) ({ cls := "CallExplorer", name := "state", desc := "()I" } : MethodName) ∈ zt := zin (List.mem_append_right _ (List.mem_of_getElem? (i := 815) (by decide +kernel))) (by decide +kernel)
theorem q816 : Cond.instanceMethod ({ cls := "CallExplorer", name := "state", desc := "()I" } : MethodName) ∈ zt := zin (List.mem_append_right _ (List.mem_of_getElem? (i := 816) (by decide +kernel))) (by decide +kernel)
theorem q817 : Cond.selects "CallExplorer" ({ cls := "CallExplorer", name := "state", desc := "()I" } : MethodName) ({ cls := "CallExplorer", name := "state", desc := "()I" } : MethodName) ∈ zt := zin (List.mem_append_right _ (List.mem_of_getElem? (i := 817) (by decide +kernel))) (by decide +kernel)
set_option maxRecDepth 100000 in
theorem q818 : Cond.code ({ cls := "CallExplorer", name := "state", desc := "()I" } : MethodName) prog_1_method_14_code (1 : Nat) (Option.some FieldType.int) ∈ zt := zin (List.mem_append_right _ (List.mem_of_getElem? (i := 818) (rfl))) (by rfl)
theorem q819 : Cond.methodLink "CallExplorerLaw" (9 : Nat) ({ cls := "CallExplorerLaw", name := "cell", desc := "([II)I" } : MethodName) ∈ zt := zin (List.mem_append_right _ (List.mem_of_getElem? (i := 819) (by decide +kernel))) (by decide +kernel)
theorem q820 : Cond.static ({ cls := "CallExplorerLaw", name := "cell", desc := "([II)I" } : MethodName) ∈ zt := zin (List.mem_append_right _ (List.mem_of_getElem? (i := 820) (by decide +kernel))) (by decide +kernel)
set_option maxRecDepth 100000 in
theorem q821 : Cond.code ({ cls := "CallExplorerLaw", name := "cell", desc := "([II)I" } : MethodName) method_2_code (2 : Nat) (Option.some FieldType.int) ∈ zt := zin (List.mem_append_right _ (List.mem_of_getElem? (i := 821) (rfl))) (by rfl)
theorem q822 : Cond.classLink "CallExplorerLaw" (18 : Nat) "CallExplorerModel" ∈ zt := zin (List.mem_append_right _ (List.mem_of_getElem? (i := 822) (by decide +kernel))) (by decide +kernel)
theorem q823 : Cond.instantiable "CallExplorerModel" (43 : Nat) ∈ zt := zin (List.mem_append_right _ (List.mem_of_getElem? (i := 823) (by decide +kernel))) (by decide +kernel)
theorem q824 : Cond.methodLink "CallExplorerLaw" (20 : Nat) ({ cls := "CallExplorerModel", name := "<init>", desc := "(I)V" } : MethodName) ∈ zt := zin (List.mem_append_right _ (List.mem_of_getElem? (i := 824) (by decide +kernel))) (by decide +kernel)
theorem q825 : Cond.instanceMethod ({ cls := "CallExplorerModel", name := "<init>", desc := "(I)V" } : MethodName) ∈ zt := zin (List.mem_append_right _ (List.mem_of_getElem? (i := 825) (by decide +kernel))) (by decide +kernel)
set_option maxRecDepth 100000 in
theorem q826 : Cond.code ({ cls := "CallExplorerModel", name := "<init>", desc := "(I)V" } : MethodName) prog_13_method_1_code (2 : Nat) (Option.none : Option FieldType) ∈ zt := zin (List.mem_append_right _ (List.mem_of_getElem? (i := 826) (rfl))) (by rfl)
theorem q958 : Cond.methodLink "CallExplorerLaw" (25 : Nat) ({ cls := "CallExplorerModel", name := "type", desc := "(III)I" } : MethodName) ∈ zt := zin (List.mem_append_right _ (List.mem_of_getElem? (i := 958) (by decide +kernel))) (by decide +kernel)
theorem q959 : Cond.instanceMethod ({ cls := "CallExplorerModel", name := "type", desc := "(III)I" } : MethodName) ∈ zt := zin (List.mem_append_right _ (List.mem_of_getElem? (i := 959) (by decide +kernel))) (by decide +kernel)
theorem q960 : Cond.selects "CallExplorerModel" ({ cls := "CallExplorerModel", name := "type", desc := "(III)I" } : MethodName) ({ cls := "CallExplorerModel", name := "type", desc := "(III)I" } : MethodName) ∈ zt := zin (List.mem_append_right _ (List.mem_of_getElem? (i := 960) (by decide +kernel))) (by decide +kernel)
set_option maxRecDepth 100000 in
theorem q961 : Cond.code ({ cls := "CallExplorerModel", name := "type", desc := "(III)I" } : MethodName) prog_13_method_2_code (4 : Nat) (Option.some FieldType.int) ∈ zt := zin (List.mem_append_right _ (List.mem_of_getElem? (i := 961) (rfl))) (by rfl)
theorem q962 : Cond.methodLink "CallExplorerLaw" (29 : Nat) ({ cls := "CallExplorerModel", name := "operation", desc := "(III)I" } : MethodName) ∈ zt := zin (List.mem_append_right _ (List.mem_of_getElem? (i := 962) (by decide +kernel))) (by decide +kernel)
theorem q963 : Cond.instanceMethod ({ cls := "CallExplorerModel", name := "operation", desc := "(III)I" } : MethodName) ∈ zt := zin (List.mem_append_right _ (List.mem_of_getElem? (i := 963) (by decide +kernel))) (by decide +kernel)
theorem q964 : Cond.selects "CallExplorerModel" ({ cls := "CallExplorerModel", name := "operation", desc := "(III)I" } : MethodName) ({ cls := "CallExplorerModel", name := "operation", desc := "(III)I" } : MethodName) ∈ zt := zin (List.mem_append_right _ (List.mem_of_getElem? (i := 964) (by decide +kernel))) (by decide +kernel)
set_option maxRecDepth 100000 in
theorem q965 : Cond.code ({ cls := "CallExplorerModel", name := "operation", desc := "(III)I" } : MethodName) prog_13_method_5_code (4 : Nat) (Option.some FieldType.int) ∈ zt := zin (List.mem_append_right _ (List.mem_of_getElem? (i := 965) (rfl))) (by rfl)
theorem q973 : Cond.methodLink "CallExplorerLaw" (34 : Nat) ({ cls := "CallExplorerModel", name := "literal", desc := "(I)I" } : MethodName) ∈ zt := zin (List.mem_append_right _ (List.mem_of_getElem? (i := 973) (by decide +kernel))) (by decide +kernel)
theorem q974 : Cond.instanceMethod ({ cls := "CallExplorerModel", name := "literal", desc := "(I)I" } : MethodName) ∈ zt := zin (List.mem_append_right _ (List.mem_of_getElem? (i := 974) (by decide +kernel))) (by decide +kernel)
theorem q975 : Cond.selects "CallExplorerModel" ({ cls := "CallExplorerModel", name := "literal", desc := "(I)I" } : MethodName) ({ cls := "CallExplorerModel", name := "literal", desc := "(I)I" } : MethodName) ∈ zt := zin (List.mem_append_right _ (List.mem_of_getElem? (i := 975) (by decide +kernel))) (by decide +kernel)
set_option maxRecDepth 100000 in
theorem q976 : Cond.code ({ cls := "CallExplorerModel", name := "literal", desc := "(I)I" } : MethodName) prog_13_method_6_code (3 : Nat) (Option.some FieldType.int) ∈ zt := zin (List.mem_append_right _ (List.mem_of_getElem? (i := 976) (rfl))) (by rfl)
theorem q977 : Cond.methodLink "CallExplorerLaw" (39 : Nat) ({ cls := "CallExplorerModel", name := "step", desc := "()I" } : MethodName) ∈ zt := zin (List.mem_append_right _ (List.mem_of_getElem? (i := 977) (by decide +kernel))) (by decide +kernel)
theorem q1106 : Cond.methodLink "CallExplorerLaw" (43 : Nat) ({ cls := "CallExplorerModel", name := "seek", desc := "(I)I" } : MethodName) ∈ zt := zin (List.mem_append_right _ (List.mem_of_getElem? (i := 1106) (by decide +kernel))) (by decide +kernel)
theorem q1107 : Cond.instanceMethod ({ cls := "CallExplorerModel", name := "seek", desc := "(I)I" } : MethodName) ∈ zt := zin (List.mem_append_right _ (List.mem_of_getElem? (i := 1107) (by decide +kernel))) (by decide +kernel)
theorem q1108 : Cond.selects "CallExplorerModel" ({ cls := "CallExplorerModel", name := "seek", desc := "(I)I" } : MethodName) ({ cls := "CallExplorerModel", name := "seek", desc := "(I)I" } : MethodName) ∈ zt := zin (List.mem_append_right _ (List.mem_of_getElem? (i := 1108) (by decide +kernel))) (by decide +kernel)
set_option maxRecDepth 100000 in
theorem q1109 : Cond.code ({ cls := "CallExplorerModel", name := "seek", desc := "(I)I" } : MethodName) prog_13_method_39_code (4 : Nat) (Option.some FieldType.int) ∈ zt := zin (List.mem_append_right _ (List.mem_of_getElem? (i := 1109) (rfl))) (by rfl)
theorem q1111 : Cond.methodLink "CallExplorerLaw" (47 : Nat) ({ cls := "CallExplorerModel", name := "shorten", desc := "(I)I" } : MethodName) ∈ zt := zin (List.mem_append_right _ (List.mem_of_getElem? (i := 1111) (by decide +kernel))) (by decide +kernel)
theorem q1112 : Cond.instanceMethod ({ cls := "CallExplorerModel", name := "shorten", desc := "(I)I" } : MethodName) ∈ zt := zin (List.mem_append_right _ (List.mem_of_getElem? (i := 1112) (by decide +kernel))) (by decide +kernel)
theorem q1113 : Cond.selects "CallExplorerModel" ({ cls := "CallExplorerModel", name := "shorten", desc := "(I)I" } : MethodName) ({ cls := "CallExplorerModel", name := "shorten", desc := "(I)I" } : MethodName) ∈ zt := zin (List.mem_append_right _ (List.mem_of_getElem? (i := 1113) (by decide +kernel))) (by decide +kernel)
set_option maxRecDepth 100000 in
theorem q1114 : Cond.code ({ cls := "CallExplorerModel", name := "shorten", desc := "(I)I" } : MethodName) prog_13_method_44_code (3 : Nat) (Option.some FieldType.int) ∈ zt := zin (List.mem_append_right _ (List.mem_of_getElem? (i := 1114) (rfl))) (by rfl)
theorem q1131 : Cond.methodLink "CallExplorerLaw" (51 : Nat) ({ cls := "CallExplorerModel", name := "entries", desc := "()I" } : MethodName) ∈ zt := zin (List.mem_append_right _ (List.mem_of_getElem? (i := 1131) (by decide +kernel))) (by decide +kernel)
theorem q1132 : Cond.instanceMethod ({ cls := "CallExplorerModel", name := "entries", desc := "()I" } : MethodName) ∈ zt := zin (List.mem_append_right _ (List.mem_of_getElem? (i := 1132) (by decide +kernel))) (by decide +kernel)
theorem q1133 : Cond.selects "CallExplorerModel" ({ cls := "CallExplorerModel", name := "entries", desc := "()I" } : MethodName) ({ cls := "CallExplorerModel", name := "entries", desc := "()I" } : MethodName) ∈ zt := zin (List.mem_append_right _ (List.mem_of_getElem? (i := 1133) (by decide +kernel))) (by decide +kernel)
set_option maxRecDepth 100000 in
theorem q1134 : Cond.code ({ cls := "CallExplorerModel", name := "entries", desc := "()I" } : MethodName) prog_13_method_45_code (1 : Nat) (Option.some FieldType.int) ∈ zt := zin (List.mem_append_right _ (List.mem_of_getElem? (i := 1134) (rfl))) (by rfl)
theorem q1135 : Cond.methodLink "CallExplorerLaw" (56 : Nat) ({ cls := "CallExplorerModel", name := "entry", desc := "(II)I" } : MethodName) ∈ zt := zin (List.mem_append_right _ (List.mem_of_getElem? (i := 1135) (by decide +kernel))) (by decide +kernel)
theorem q1136 : Cond.instanceMethod ({ cls := "CallExplorerModel", name := "entry", desc := "(II)I" } : MethodName) ∈ zt := zin (List.mem_append_right _ (List.mem_of_getElem? (i := 1136) (by decide +kernel))) (by decide +kernel)
theorem q1137 : Cond.selects "CallExplorerModel" ({ cls := "CallExplorerModel", name := "entry", desc := "(II)I" } : MethodName) ({ cls := "CallExplorerModel", name := "entry", desc := "(II)I" } : MethodName) ∈ zt := zin (List.mem_append_right _ (List.mem_of_getElem? (i := 1137) (by decide +kernel))) (by decide +kernel)
set_option maxRecDepth 100000 in
theorem q1138 : Cond.code ({ cls := "CallExplorerModel", name := "entry", desc := "(II)I" } : MethodName) prog_13_method_46_code (3 : Nat) (Option.some FieldType.int) ∈ zt := zin (List.mem_append_right _ (List.mem_of_getElem? (i := 1138) (rfl))) (by rfl)
theorem q1139 : Cond.methodLink "CallExplorerLaw" (60 : Nat) ({ cls := "CallExplorerModel", name := "statement", desc := "(III)I" } : MethodName) ∈ zt := zin (List.mem_append_right _ (List.mem_of_getElem? (i := 1139) (by decide +kernel))) (by decide +kernel)
theorem q1140 : Cond.instanceMethod ({ cls := "CallExplorerModel", name := "statement", desc := "(III)I" } : MethodName) ∈ zt := zin (List.mem_append_right _ (List.mem_of_getElem? (i := 1140) (by decide +kernel))) (by decide +kernel)
theorem q1141 : Cond.selects "CallExplorerModel" ({ cls := "CallExplorerModel", name := "statement", desc := "(III)I" } : MethodName) ({ cls := "CallExplorerModel", name := "statement", desc := "(III)I" } : MethodName) ∈ zt := zin (List.mem_append_right _ (List.mem_of_getElem? (i := 1141) (by decide +kernel))) (by decide +kernel)
set_option maxRecDepth 100000 in
theorem q1142 : Cond.code ({ cls := "CallExplorerModel", name := "statement", desc := "(III)I" } : MethodName) prog_13_method_47_code (7 : Nat) (Option.some FieldType.int) ∈ zt := zin (List.mem_append_right _ (List.mem_of_getElem? (i := 1142) (rfl))) (by rfl)
theorem q1143 : Cond.methodLink "CallExplorerLaw" (64 : Nat) ({ cls := "CallExplorerModel", name := "text", desc := "(II)I" } : MethodName) ∈ zt := zin (List.mem_append_right _ (List.mem_of_getElem? (i := 1143) (by decide +kernel))) (by decide +kernel)
theorem q1144 : Cond.instanceMethod ({ cls := "CallExplorerModel", name := "text", desc := "(II)I" } : MethodName) ∈ zt := zin (List.mem_append_right _ (List.mem_of_getElem? (i := 1144) (by decide +kernel))) (by decide +kernel)
theorem q1145 : Cond.selects "CallExplorerModel" ({ cls := "CallExplorerModel", name := "text", desc := "(II)I" } : MethodName) ({ cls := "CallExplorerModel", name := "text", desc := "(II)I" } : MethodName) ∈ zt := zin (List.mem_append_right _ (List.mem_of_getElem? (i := 1145) (by decide +kernel))) (by decide +kernel)
set_option maxRecDepth 100000 in
theorem q1146 : Cond.code ({ cls := "CallExplorerModel", name := "text", desc := "(II)I" } : MethodName) prog_13_method_51_code (3 : Nat) (Option.some FieldType.int) ∈ zt := zin (List.mem_append_right _ (List.mem_of_getElem? (i := 1146) (rfl))) (by rfl)
theorem q1162 : Cond.methodLink "CallExplorerLaw" (71 : Nat) ({ cls := "CallExplorerModel", name := "draft", desc := "(J)Z" } : MethodName) ∈ zt := zin (List.mem_append_right _ (List.mem_of_getElem? (i := 1162) (by decide +kernel))) (by decide +kernel)
theorem q1163 : Cond.instanceMethod ({ cls := "CallExplorerModel", name := "draft", desc := "(J)Z" } : MethodName) ∈ zt := zin (List.mem_append_right _ (List.mem_of_getElem? (i := 1163) (by decide +kernel))) (by decide +kernel)
theorem q1164 : Cond.selects "CallExplorerModel" ({ cls := "CallExplorerModel", name := "draft", desc := "(J)Z" } : MethodName) ({ cls := "CallExplorerModel", name := "draft", desc := "(J)Z" } : MethodName) ∈ zt := zin (List.mem_append_right _ (List.mem_of_getElem? (i := 1164) (by decide +kernel))) (by decide +kernel)
set_option maxRecDepth 100000 in
theorem q1165 : Cond.code ({ cls := "CallExplorerModel", name := "draft", desc := "(J)Z" } : MethodName) prog_13_method_52_code (6 : Nat) (Option.some FieldType.boolean) ∈ zt := zin (List.mem_append_right _ (List.mem_of_getElem? (i := 1165) (rfl))) (by rfl)
theorem q1167 : Cond.methodLink "CallExplorerLaw" (75 : Nat) ({ cls := "CallExplorerModel", name := "replay", desc := "()I" } : MethodName) ∈ zt := zin (List.mem_append_right _ (List.mem_of_getElem? (i := 1167) (by decide +kernel))) (by decide +kernel)
theorem q1168 : Cond.instanceMethod ({ cls := "CallExplorerModel", name := "replay", desc := "()I" } : MethodName) ∈ zt := zin (List.mem_append_right _ (List.mem_of_getElem? (i := 1168) (by decide +kernel))) (by decide +kernel)
theorem q1169 : Cond.selects "CallExplorerModel" ({ cls := "CallExplorerModel", name := "replay", desc := "()I" } : MethodName) ({ cls := "CallExplorerModel", name := "replay", desc := "()I" } : MethodName) ∈ zt := zin (List.mem_append_right _ (List.mem_of_getElem? (i := 1169) (by decide +kernel))) (by decide +kernel)
set_option maxRecDepth 100000 in
theorem q1170 : Cond.code ({ cls := "CallExplorerModel", name := "replay", desc := "()I" } : MethodName) prog_13_method_60_code (2 : Nat) (Option.some FieldType.int) ∈ zt := zin (List.mem_append_right _ (List.mem_of_getElem? (i := 1170) (rfl))) (by rfl)
theorem q1198 : Cond.methodLink "CallExplorerLaw" (79 : Nat) ({ cls := "CallExplorerModel", name := "state", desc := "()I" } : MethodName) ∈ zt := zin (List.mem_append_right _ (List.mem_of_getElem? (i := 1198) (by decide +kernel))) (by decide +kernel)
theorem q1199 : Cond.instanceMethod ({ cls := "CallExplorerModel", name := "state", desc := "()I" } : MethodName) ∈ zt := zin (List.mem_append_right _ (List.mem_of_getElem? (i := 1199) (by decide +kernel))) (by decide +kernel)
theorem q1200 : Cond.selects "CallExplorerModel" ({ cls := "CallExplorerModel", name := "state", desc := "()I" } : MethodName) ({ cls := "CallExplorerModel", name := "state", desc := "()I" } : MethodName) ∈ zt := zin (List.mem_append_right _ (List.mem_of_getElem? (i := 1200) (by decide +kernel))) (by decide +kernel)
set_option maxRecDepth 100000 in
theorem q1201 : Cond.code ({ cls := "CallExplorerModel", name := "state", desc := "()I" } : MethodName) prog_13_method_61_code (1 : Nat) (Option.some FieldType.int) ∈ zt := zin (List.mem_append_right _ (List.mem_of_getElem? (i := 1201) (rfl))) (by rfl)
theorem q1202 : Cond.constantLong "CallExplorerLaw" (65 : Nat) (4294967295 : Int64) ∈ zt := zin (List.mem_append_right _ (List.mem_of_getElem? (i := 1202) (by decide +kernel))) (by decide +kernel)
theorem caLaw_21 : zCal "CallExplorerLaw" 21 yTop_type "CallExplorer" bTop_type 4 (some .int) 3 := ⟨q320, q317, q318, q319, q1, rfl, by decide, by decide, by decide +kernel⟩
theorem caLaw_25 : zCal "CallExplorerLaw" 25 yMod_type "CallExplorerModel" bMod_type 4 (some .int) 3 := ⟨q961, q958, q959, q960, q11, rfl, by decide, by decide, by decide +kernel⟩
theorem caLaw_26 : zCal "CallExplorerLaw" 26 yTop_operation "CallExplorer" bTop_operation 4 (some .int) 3 := ⟨q332, q329, q330, q331, q1, rfl, by decide, by decide, by decide +kernel⟩
theorem caLaw_29 : zCal "CallExplorerLaw" 29 yMod_operation "CallExplorerModel" bMod_operation 4 (some .int) 3 := ⟨q965, q962, q963, q964, q11, rfl, by decide, by decide, by decide +kernel⟩
theorem caLaw_30 : zCal "CallExplorerLaw" 30 yTop_literal "CallExplorer" bTop_literal 2 (some .int) 1 := ⟨q354, q351, q352, q353, q1, rfl, by decide, by decide, by decide +kernel⟩
theorem caLaw_34 : zCal "CallExplorerLaw" 34 yMod_literal "CallExplorerModel" bMod_literal 3 (some .int) 1 := ⟨q976, q973, q974, q975, q11, rfl, by decide, by decide, by decide +kernel⟩
theorem caLaw_35 : zCal "CallExplorerLaw" 35 yTop_step "CallExplorer" bTop_step 1 (some .int) 0 := ⟨q362, q359, q360, q361, q1, rfl, by decide, by decide, by decide +kernel⟩
theorem caLaw_39 : zCal "CallExplorerLaw" 39 yMod_step "CallExplorerModel" bMod_step 4 (some .int) 0 := ⟨q980, q977, q978, q979, q11, rfl, by decide, by decide, by decide +kernel⟩
theorem caLaw_40 : zCal "CallExplorerLaw" 40 yTop_seek "CallExplorer" bTop_seek 4 (some .int) 1 := ⟨q641, q638, q639, q640, q1, rfl, by decide, by decide, by decide +kernel⟩
theorem caLaw_43 : zCal "CallExplorerLaw" 43 yMod_seek "CallExplorerModel" bMod_seek 4 (some .int) 1 := ⟨q1109, q1106, q1107, q1108, q11, rfl, by decide, by decide, by decide +kernel⟩
theorem caLaw_44 : zCal "CallExplorerLaw" 44 yTop_shorten "CallExplorer" bTop_shorten 3 (some .int) 1 := ⟨q646, q643, q644, q645, q1, rfl, by decide, by decide, by decide +kernel⟩
theorem caLaw_47 : zCal "CallExplorerLaw" 47 yMod_shorten "CallExplorerModel" bMod_shorten 3 (some .int) 1 := ⟨q1114, q1111, q1112, q1113, q11, rfl, by decide, by decide, by decide +kernel⟩
theorem caLaw_48 : zCal "CallExplorerLaw" 48 yTop_entries "CallExplorer" bTop_entries 1 (some .int) 0 := ⟨q687, q684, q685, q686, q1, rfl, by decide, by decide, by decide +kernel⟩
theorem caLaw_51 : zCal "CallExplorerLaw" 51 yMod_entries "CallExplorerModel" bMod_entries 1 (some .int) 0 := ⟨q1134, q1131, q1132, q1133, q11, rfl, by decide, by decide, by decide +kernel⟩
theorem caLaw_52 : zCal "CallExplorerLaw" 52 yTop_entry "CallExplorer" bTop_entry 4 (some .int) 2 := ⟨q691, q688, q689, q690, q1, rfl, by decide, by decide, by decide +kernel⟩
theorem caLaw_56 : zCal "CallExplorerLaw" 56 yMod_entry "CallExplorerModel" bMod_entry 3 (some .int) 2 := ⟨q1138, q1135, q1136, q1137, q11, rfl, by decide, by decide, by decide +kernel⟩
theorem caLaw_57 : zCal "CallExplorerLaw" 57 yTop_statement "CallExplorer" bTop_statement 5 (some .int) 3 := ⟨q695, q692, q693, q694, q1, rfl, by decide, by decide, by decide +kernel⟩
theorem caLaw_60 : zCal "CallExplorerLaw" 60 yMod_statement "CallExplorerModel" bMod_statement 7 (some .int) 3 := ⟨q1142, q1139, q1140, q1141, q11, rfl, by decide, by decide, by decide +kernel⟩
theorem caLaw_61 : zCal "CallExplorerLaw" 61 yTop_text "CallExplorer" bTop_text 4 (some .int) 2 := ⟨q699, q696, q697, q698, q1, rfl, by decide, by decide, by decide +kernel⟩
theorem caLaw_64 : zCal "CallExplorerLaw" 64 yMod_text "CallExplorerModel" bMod_text 3 (some .int) 2 := ⟨q1146, q1143, q1144, q1145, q11, rfl, by decide, by decide, by decide +kernel⟩
theorem caLaw_67 : zCal "CallExplorerLaw" 67 yTop_draft "CallExplorer" bTop_draft 3 (some .boolean) 1 := ⟨q737, q734, q735, q736, q1, rfl, by decide, by decide, by decide +kernel⟩
theorem caLaw_71 : zCal "CallExplorerLaw" 71 yMod_draft "CallExplorerModel" bMod_draft 6 (some .boolean) 1 := ⟨q1165, q1162, q1163, q1164, q11, rfl, by decide, by decide, by decide +kernel⟩
theorem caLaw_72 : zCal "CallExplorerLaw" 72 yTop_replay "CallExplorer" bTop_replay 1 (some .int) 0 := ⟨q754, q751, q752, q753, q1, rfl, by decide, by decide, by decide +kernel⟩
theorem caLaw_75 : zCal "CallExplorerLaw" 75 yMod_replay "CallExplorerModel" bMod_replay 2 (some .int) 0 := ⟨q1170, q1167, q1168, q1169, q11, rfl, by decide, by decide, by decide +kernel⟩
theorem caLaw_76 : zCal "CallExplorerLaw" 76 yTop_state "CallExplorer" bTop_state 1 (some .int) 0 := ⟨q818, q815, q816, q817, q1, rfl, by decide, by decide, by decide +kernel⟩
theorem caLaw_79 : zCal "CallExplorerLaw" 79 yMod_state "CallExplorerModel" bMod_state 1 (some .int) 0 := ⟨q1201, q1198, q1199, q1200, q11, rfl, by decide, by decide, by decide +kernel⟩
theorem caLaw_9 : zCas "CallExplorerLaw" 9 ⟨"CallExplorerLaw", "cell", "([II)I"⟩ method_2_code 2 (some .int) 2 := ⟨q821, q819, q820, q0, rfl, by decide, by decide, by decide +kernel⟩
/-! THE CLAIM OUT OF ONE WALK OF THE LAW'S BODY. Your part is whole_start (and what it stands on); all else here is the same for every law, but numbers. -/
def R_law : String := "CallExplorerLaw"
/-- what the law needs of its room, whatever numbers the Statement has -/
theorem lw_rc : 50000 ≤ room_1.cells := by decide
theorem lw_rs : 900000 ≤ room_1.slots := by decide
def lw_P (b : Addr) (xs : List Int32) (args : Array Value) (s : State) : Prop := args = #[.ref b] ∧ s.IntsAt b xs ∧ xs.length ≤ 2049 ∧ (Jvm.Cond.and given_1 narrow_1).before args s = true
def lw_Q (_ : Array Value) (s : State) (o : Outcome) (t : State) : Prop := o = .returned (some (.int 1)) ∧ Framed s o t [] room_1.cells room_1.slots
def lw_Z (below : List Frame) (a : Array Value) (s : State) : State → Prop := fun t => ∃ o, t.status = .running ∧ Ended t below o ∧ lw_Q a s o t
/-- the law's own end, with 1 on the stack, nothing written that was there before, its room as the claim has it -/
theorem lw_ret {p : Program} {l : Launch} {e : Env} {s : State} {m : MethodId} {below : List Frame} {meth : Method} {c : Code} {b : Nat} (hx : p.tables.exec = Jvm.exec) (hb : c.code = code) (hr : meth.sig.returnType = ret) (hlocks : meth.locks = false) {pc : Nat} {H : Heap} {ls : Array Slot} (hdg : decode code pc = .ok (.ireturn, 1)) : W p l e room_1 s m #[Value.ref b] below meth c H [] room_1.cells room_1.slots (lw_Z below #[Value.ref b] s) (F0 m pc ls [.int 1]) := by
  intro T hT X
  obtain ⟨fs, hret, hrun, hended, hW, hframe⟩ := X.leave (v := some (.int 1)) (hlocks := hlocks) (fun h => by rw [hr] at h; cases h)
  have hmeth' : T.vm.method? m = some meth := X.method'
  refine ⟨T.setFrames fs, ?_, .returned (some (.int 1)), hrun, hended, rfl, ⟨_, rfl⟩, hW, hframe⟩
  jvm_step X.here [X.here.top, hx, hb, hdg, hmeth', hr, ret, narrow_b1]
  (try refine ⟨rfl, ?_⟩); (try refine ⟨rfl, ?_⟩)
  first | (intro acts; rw [hret _ acts rfl rfl rfl]) | rw [hret _ _ rfl rfl rfl]
  exact Steps.refl _
/-- what holds at the law's entry: the machine, the code, the tables' words (any of lw_tbl by 'hts w (by decide +kernel)'), the script of L ints xs at the cell b, what the Statement gives of the start (any of its parts by flat_of_before) -/
def lw_At (p : Program) (s : State) (m : MethodId) (meth : Method) (c : Code) (b L : Nat) (xs : Nat → Int32) : Prop :=
  p.tables.exec = Jvm.exec ∧ c.code = code ∧ meth.sig.returnType = ret ∧ c.maxLocals = 4 ∧ s.vm.findClass R_law = some m.cls ∧ (∀ w ∈ lw_tbl, w.before #[Value.ref b] s = true) ∧ va_X b L xs s s.heap ∧ b < s.heap.size ∧ meth.locks = false ∧ (Jvm.Cond.and given_1 narrow_1).before #[Value.ref b] s = true

/-! the law; printed by wip/whole/gen/law.py -/
theorem dLaw_0 : decode code 0 = .ok (.new 7, 3) := by decide +kernel
theorem dLaw_3 : decode code 3 = .ok (.dup, 1) := by decide +kernel
theorem dLaw_4 : decode code 4 = .ok (.aload_n 0, 1) := by decide +kernel
theorem dLaw_5 : decode code 5 = .ok (.iconst 0, 1) := by decide +kernel
theorem dLaw_6 : decode code 6 = .ok (.invokestatic 9, 3) := by decide +kernel
theorem dLaw_9 : decode code 9 = .ok (.invokespecial 15, 3) := by decide +kernel
theorem dLaw_12 : decode code 12 = .ok (.astore_n 1, 1) := by decide +kernel
theorem dLaw_13 : decode code 13 = .ok (.new 18, 3) := by decide +kernel
theorem dLaw_16 : decode code 16 = .ok (.dup, 1) := by decide +kernel
theorem dLaw_17 : decode code 17 = .ok (.aload_n 0, 1) := by decide +kernel
theorem dLaw_18 : decode code 18 = .ok (.iconst 0, 1) := by decide +kernel
theorem dLaw_19 : decode code 19 = .ok (.invokestatic 9, 3) := by decide +kernel
theorem dLaw_22 : decode code 22 = .ok (.invokespecial 20, 3) := by decide +kernel
theorem dLaw_25 : decode code 25 = .ok (.astore_n 2, 1) := by decide +kernel
theorem dLaw_26 : decode code 26 = .ok (.iconst 1, 1) := by decide +kernel
theorem dLaw_27 : decode code 27 = .ok (.istore_n 3, 1) := by decide +kernel
theorem dLaw_28 : decode code 28 = .ok (.iload_n 3, 1) := by decide +kernel
theorem dLaw_29 : decode code 29 = .ok (.aload_n 0, 1) := by decide +kernel
theorem dLaw_30 : decode code 30 = .ok (.arraylength, 1) := by decide +kernel
theorem dLaw_31 : decode code 31 = .ok (.iconst 4, 1) := by decide +kernel
theorem dLaw_32 : decode code 32 = .ok (.isub, 1) := by decide +kernel
theorem dLaw_33 : decode code 33 = .ok (.if_icmp .gt 450, 3) := by decide +kernel
theorem dLaw_36 : decode code 36 = .ok (.aload_n 0, 1) := by decide +kernel
theorem dLaw_37 : decode code 37 = .ok (.iload_n 3, 1) := by decide +kernel
theorem dLaw_38 : decode code 38 = .ok (.iaload, 1) := by decide +kernel
theorem dLaw_39 : decode code 39 = .ok (.bipush 15, 2) := by decide +kernel
theorem dLaw_41 : decode code 41 = .ok (.iand, 1) := by decide +kernel
theorem dLaw_42 : decode code 42 = .ok (.tableswitch 435 0 12 #[66, 109, 152, 175, 188, 211, 234, 247, 280, 323, 356, 409, 422], 66) := by decide +kernel
theorem dLaw_108 : decode code 108 = .ok (.aload_n 1, 1) := by decide +kernel
theorem dLaw_109 : decode code 109 = .ok (.aload_n 0, 1) := by decide +kernel
theorem dLaw_110 : decode code 110 = .ok (.iload_n 3, 1) := by decide +kernel
theorem dLaw_111 : decode code 111 = .ok (.iconst 1, 1) := by decide +kernel
theorem dLaw_112 : decode code 112 = .ok (.iadd, 1) := by decide +kernel
theorem dLaw_113 : decode code 113 = .ok (.iaload, 1) := by decide +kernel
theorem dLaw_114 : decode code 114 = .ok (.aload_n 0, 1) := by decide +kernel
theorem dLaw_115 : decode code 115 = .ok (.iload_n 3, 1) := by decide +kernel
theorem dLaw_116 : decode code 116 = .ok (.iconst 2, 1) := by decide +kernel
theorem dLaw_117 : decode code 117 = .ok (.iadd, 1) := by decide +kernel
theorem dLaw_118 : decode code 118 = .ok (.iaload, 1) := by decide +kernel
theorem dLaw_119 : decode code 119 = .ok (.aload_n 0, 1) := by decide +kernel
theorem dLaw_120 : decode code 120 = .ok (.iload_n 3, 1) := by decide +kernel
theorem dLaw_121 : decode code 121 = .ok (.iconst 3, 1) := by decide +kernel
theorem dLaw_122 : decode code 122 = .ok (.iadd, 1) := by decide +kernel
theorem dLaw_123 : decode code 123 = .ok (.iaload, 1) := by decide +kernel
theorem dLaw_124 : decode code 124 = .ok (.invokevirtual 21, 3) := by decide +kernel
theorem dLaw_127 : decode code 127 = .ok (.aload_n 2, 1) := by decide +kernel
theorem dLaw_128 : decode code 128 = .ok (.aload_n 0, 1) := by decide +kernel
theorem dLaw_129 : decode code 129 = .ok (.iload_n 3, 1) := by decide +kernel
theorem dLaw_130 : decode code 130 = .ok (.iconst 1, 1) := by decide +kernel
theorem dLaw_131 : decode code 131 = .ok (.iadd, 1) := by decide +kernel
theorem dLaw_132 : decode code 132 = .ok (.iaload, 1) := by decide +kernel
theorem dLaw_133 : decode code 133 = .ok (.aload_n 0, 1) := by decide +kernel
theorem dLaw_134 : decode code 134 = .ok (.iload_n 3, 1) := by decide +kernel
theorem dLaw_135 : decode code 135 = .ok (.iconst 2, 1) := by decide +kernel
theorem dLaw_136 : decode code 136 = .ok (.iadd, 1) := by decide +kernel
theorem dLaw_137 : decode code 137 = .ok (.iaload, 1) := by decide +kernel
theorem dLaw_138 : decode code 138 = .ok (.aload_n 0, 1) := by decide +kernel
theorem dLaw_139 : decode code 139 = .ok (.iload_n 3, 1) := by decide +kernel
theorem dLaw_140 : decode code 140 = .ok (.iconst 3, 1) := by decide +kernel
theorem dLaw_141 : decode code 141 = .ok (.iadd, 1) := by decide +kernel
theorem dLaw_142 : decode code 142 = .ok (.iaload, 1) := by decide +kernel
theorem dLaw_143 : decode code 143 = .ok (.invokevirtual 25, 3) := by decide +kernel
theorem dLaw_146 : decode code 146 = .ok (.if_icmp .eq 331, 3) := by decide +kernel
theorem dLaw_149 : decode code 149 = .ok (.iconst 0, 1) := by decide +kernel
theorem dLaw_150 : decode code 150 = .ok (.ireturn, 1) := by decide +kernel
theorem dLaw_151 : decode code 151 = .ok (.aload_n 1, 1) := by decide +kernel
theorem dLaw_152 : decode code 152 = .ok (.aload_n 0, 1) := by decide +kernel
theorem dLaw_153 : decode code 153 = .ok (.iload_n 3, 1) := by decide +kernel
theorem dLaw_154 : decode code 154 = .ok (.iconst 1, 1) := by decide +kernel
theorem dLaw_155 : decode code 155 = .ok (.iadd, 1) := by decide +kernel
theorem dLaw_156 : decode code 156 = .ok (.iaload, 1) := by decide +kernel
theorem dLaw_157 : decode code 157 = .ok (.aload_n 0, 1) := by decide +kernel
theorem dLaw_158 : decode code 158 = .ok (.iload_n 3, 1) := by decide +kernel
theorem dLaw_159 : decode code 159 = .ok (.iconst 2, 1) := by decide +kernel
theorem dLaw_160 : decode code 160 = .ok (.iadd, 1) := by decide +kernel
theorem dLaw_161 : decode code 161 = .ok (.iaload, 1) := by decide +kernel
theorem dLaw_162 : decode code 162 = .ok (.aload_n 0, 1) := by decide +kernel
theorem dLaw_163 : decode code 163 = .ok (.iload_n 3, 1) := by decide +kernel
theorem dLaw_164 : decode code 164 = .ok (.iconst 3, 1) := by decide +kernel
theorem dLaw_165 : decode code 165 = .ok (.iadd, 1) := by decide +kernel
theorem dLaw_166 : decode code 166 = .ok (.iaload, 1) := by decide +kernel
theorem dLaw_167 : decode code 167 = .ok (.invokevirtual 26, 3) := by decide +kernel
theorem dLaw_170 : decode code 170 = .ok (.aload_n 2, 1) := by decide +kernel
theorem dLaw_171 : decode code 171 = .ok (.aload_n 0, 1) := by decide +kernel
theorem dLaw_172 : decode code 172 = .ok (.iload_n 3, 1) := by decide +kernel
theorem dLaw_173 : decode code 173 = .ok (.iconst 1, 1) := by decide +kernel
theorem dLaw_174 : decode code 174 = .ok (.iadd, 1) := by decide +kernel
theorem dLaw_175 : decode code 175 = .ok (.iaload, 1) := by decide +kernel
theorem dLaw_176 : decode code 176 = .ok (.aload_n 0, 1) := by decide +kernel
theorem dLaw_177 : decode code 177 = .ok (.iload_n 3, 1) := by decide +kernel
theorem dLaw_178 : decode code 178 = .ok (.iconst 2, 1) := by decide +kernel
theorem dLaw_179 : decode code 179 = .ok (.iadd, 1) := by decide +kernel
theorem dLaw_180 : decode code 180 = .ok (.iaload, 1) := by decide +kernel
theorem dLaw_181 : decode code 181 = .ok (.aload_n 0, 1) := by decide +kernel
theorem dLaw_182 : decode code 182 = .ok (.iload_n 3, 1) := by decide +kernel
theorem dLaw_183 : decode code 183 = .ok (.iconst 3, 1) := by decide +kernel
theorem dLaw_184 : decode code 184 = .ok (.iadd, 1) := by decide +kernel
theorem dLaw_185 : decode code 185 = .ok (.iaload, 1) := by decide +kernel
theorem dLaw_186 : decode code 186 = .ok (.invokevirtual 29, 3) := by decide +kernel
theorem dLaw_189 : decode code 189 = .ok (.if_icmp .eq 288, 3) := by decide +kernel
theorem dLaw_192 : decode code 192 = .ok (.iconst 0, 1) := by decide +kernel
theorem dLaw_193 : decode code 193 = .ok (.ireturn, 1) := by decide +kernel
theorem dLaw_194 : decode code 194 = .ok (.aload_n 1, 1) := by decide +kernel
theorem dLaw_195 : decode code 195 = .ok (.aload_n 0, 1) := by decide +kernel
theorem dLaw_196 : decode code 196 = .ok (.iload_n 3, 1) := by decide +kernel
theorem dLaw_197 : decode code 197 = .ok (.iconst 1, 1) := by decide +kernel
theorem dLaw_198 : decode code 198 = .ok (.iadd, 1) := by decide +kernel
theorem dLaw_199 : decode code 199 = .ok (.iaload, 1) := by decide +kernel
theorem dLaw_200 : decode code 200 = .ok (.invokevirtual 30, 3) := by decide +kernel
theorem dLaw_203 : decode code 203 = .ok (.aload_n 2, 1) := by decide +kernel
theorem dLaw_204 : decode code 204 = .ok (.aload_n 0, 1) := by decide +kernel
theorem dLaw_205 : decode code 205 = .ok (.iload_n 3, 1) := by decide +kernel
theorem dLaw_206 : decode code 206 = .ok (.iconst 1, 1) := by decide +kernel
theorem dLaw_207 : decode code 207 = .ok (.iadd, 1) := by decide +kernel
theorem dLaw_208 : decode code 208 = .ok (.iaload, 1) := by decide +kernel
theorem dLaw_209 : decode code 209 = .ok (.invokevirtual 34, 3) := by decide +kernel
theorem dLaw_212 : decode code 212 = .ok (.if_icmp .eq 265, 3) := by decide +kernel
theorem dLaw_215 : decode code 215 = .ok (.iconst 0, 1) := by decide +kernel
theorem dLaw_216 : decode code 216 = .ok (.ireturn, 1) := by decide +kernel
theorem dLaw_217 : decode code 217 = .ok (.aload_n 1, 1) := by decide +kernel
theorem dLaw_218 : decode code 218 = .ok (.invokevirtual 35, 3) := by decide +kernel
theorem dLaw_221 : decode code 221 = .ok (.aload_n 2, 1) := by decide +kernel
theorem dLaw_222 : decode code 222 = .ok (.invokevirtual 39, 3) := by decide +kernel
theorem dLaw_225 : decode code 225 = .ok (.if_icmp .eq 252, 3) := by decide +kernel
theorem dLaw_228 : decode code 228 = .ok (.iconst 0, 1) := by decide +kernel
theorem dLaw_229 : decode code 229 = .ok (.ireturn, 1) := by decide +kernel
theorem dLaw_230 : decode code 230 = .ok (.aload_n 1, 1) := by decide +kernel
theorem dLaw_231 : decode code 231 = .ok (.aload_n 0, 1) := by decide +kernel
theorem dLaw_232 : decode code 232 = .ok (.iload_n 3, 1) := by decide +kernel
theorem dLaw_233 : decode code 233 = .ok (.iconst 1, 1) := by decide +kernel
theorem dLaw_234 : decode code 234 = .ok (.iadd, 1) := by decide +kernel
theorem dLaw_235 : decode code 235 = .ok (.iaload, 1) := by decide +kernel
theorem dLaw_236 : decode code 236 = .ok (.invokevirtual 40, 3) := by decide +kernel
theorem dLaw_239 : decode code 239 = .ok (.aload_n 2, 1) := by decide +kernel
theorem dLaw_240 : decode code 240 = .ok (.aload_n 0, 1) := by decide +kernel
theorem dLaw_241 : decode code 241 = .ok (.iload_n 3, 1) := by decide +kernel
theorem dLaw_242 : decode code 242 = .ok (.iconst 1, 1) := by decide +kernel
theorem dLaw_243 : decode code 243 = .ok (.iadd, 1) := by decide +kernel
theorem dLaw_244 : decode code 244 = .ok (.iaload, 1) := by decide +kernel
theorem dLaw_245 : decode code 245 = .ok (.invokevirtual 43, 3) := by decide +kernel
theorem dLaw_248 : decode code 248 = .ok (.if_icmp .eq 229, 3) := by decide +kernel
theorem dLaw_251 : decode code 251 = .ok (.iconst 0, 1) := by decide +kernel
theorem dLaw_252 : decode code 252 = .ok (.ireturn, 1) := by decide +kernel
theorem dLaw_253 : decode code 253 = .ok (.aload_n 1, 1) := by decide +kernel
theorem dLaw_254 : decode code 254 = .ok (.aload_n 0, 1) := by decide +kernel
theorem dLaw_255 : decode code 255 = .ok (.iload_n 3, 1) := by decide +kernel
theorem dLaw_256 : decode code 256 = .ok (.iconst 1, 1) := by decide +kernel
theorem dLaw_257 : decode code 257 = .ok (.iadd, 1) := by decide +kernel
theorem dLaw_258 : decode code 258 = .ok (.iaload, 1) := by decide +kernel
theorem dLaw_259 : decode code 259 = .ok (.invokevirtual 44, 3) := by decide +kernel
theorem dLaw_262 : decode code 262 = .ok (.aload_n 2, 1) := by decide +kernel
theorem dLaw_263 : decode code 263 = .ok (.aload_n 0, 1) := by decide +kernel
theorem dLaw_264 : decode code 264 = .ok (.iload_n 3, 1) := by decide +kernel
theorem dLaw_265 : decode code 265 = .ok (.iconst 1, 1) := by decide +kernel
theorem dLaw_266 : decode code 266 = .ok (.iadd, 1) := by decide +kernel
theorem dLaw_267 : decode code 267 = .ok (.iaload, 1) := by decide +kernel
theorem dLaw_268 : decode code 268 = .ok (.invokevirtual 47, 3) := by decide +kernel
theorem dLaw_271 : decode code 271 = .ok (.if_icmp .eq 206, 3) := by decide +kernel
theorem dLaw_274 : decode code 274 = .ok (.iconst 0, 1) := by decide +kernel
theorem dLaw_275 : decode code 275 = .ok (.ireturn, 1) := by decide +kernel
theorem dLaw_276 : decode code 276 = .ok (.aload_n 1, 1) := by decide +kernel
theorem dLaw_277 : decode code 277 = .ok (.invokevirtual 48, 3) := by decide +kernel
theorem dLaw_280 : decode code 280 = .ok (.aload_n 2, 1) := by decide +kernel
theorem dLaw_281 : decode code 281 = .ok (.invokevirtual 51, 3) := by decide +kernel
theorem dLaw_284 : decode code 284 = .ok (.if_icmp .eq 193, 3) := by decide +kernel
theorem dLaw_287 : decode code 287 = .ok (.iconst 0, 1) := by decide +kernel
theorem dLaw_288 : decode code 288 = .ok (.ireturn, 1) := by decide +kernel
theorem dLaw_289 : decode code 289 = .ok (.aload_n 1, 1) := by decide +kernel
theorem dLaw_290 : decode code 290 = .ok (.aload_n 0, 1) := by decide +kernel
theorem dLaw_291 : decode code 291 = .ok (.iload_n 3, 1) := by decide +kernel
theorem dLaw_292 : decode code 292 = .ok (.iconst 1, 1) := by decide +kernel
theorem dLaw_293 : decode code 293 = .ok (.iadd, 1) := by decide +kernel
theorem dLaw_294 : decode code 294 = .ok (.iaload, 1) := by decide +kernel
theorem dLaw_295 : decode code 295 = .ok (.aload_n 0, 1) := by decide +kernel
theorem dLaw_296 : decode code 296 = .ok (.iload_n 3, 1) := by decide +kernel
theorem dLaw_297 : decode code 297 = .ok (.iconst 2, 1) := by decide +kernel
theorem dLaw_298 : decode code 298 = .ok (.iadd, 1) := by decide +kernel
theorem dLaw_299 : decode code 299 = .ok (.iaload, 1) := by decide +kernel
theorem dLaw_300 : decode code 300 = .ok (.invokevirtual 52, 3) := by decide +kernel
theorem dLaw_303 : decode code 303 = .ok (.aload_n 2, 1) := by decide +kernel
theorem dLaw_304 : decode code 304 = .ok (.aload_n 0, 1) := by decide +kernel
theorem dLaw_305 : decode code 305 = .ok (.iload_n 3, 1) := by decide +kernel
theorem dLaw_306 : decode code 306 = .ok (.iconst 1, 1) := by decide +kernel
theorem dLaw_307 : decode code 307 = .ok (.iadd, 1) := by decide +kernel
theorem dLaw_308 : decode code 308 = .ok (.iaload, 1) := by decide +kernel
theorem dLaw_309 : decode code 309 = .ok (.aload_n 0, 1) := by decide +kernel
theorem dLaw_310 : decode code 310 = .ok (.iload_n 3, 1) := by decide +kernel
theorem dLaw_311 : decode code 311 = .ok (.iconst 2, 1) := by decide +kernel
theorem dLaw_312 : decode code 312 = .ok (.iadd, 1) := by decide +kernel
theorem dLaw_313 : decode code 313 = .ok (.iaload, 1) := by decide +kernel
theorem dLaw_314 : decode code 314 = .ok (.invokevirtual 56, 3) := by decide +kernel
theorem dLaw_317 : decode code 317 = .ok (.if_icmp .eq 160, 3) := by decide +kernel
theorem dLaw_320 : decode code 320 = .ok (.iconst 0, 1) := by decide +kernel
theorem dLaw_321 : decode code 321 = .ok (.ireturn, 1) := by decide +kernel
theorem dLaw_322 : decode code 322 = .ok (.aload_n 1, 1) := by decide +kernel
theorem dLaw_323 : decode code 323 = .ok (.aload_n 0, 1) := by decide +kernel
theorem dLaw_324 : decode code 324 = .ok (.iload_n 3, 1) := by decide +kernel
theorem dLaw_325 : decode code 325 = .ok (.iconst 1, 1) := by decide +kernel
theorem dLaw_326 : decode code 326 = .ok (.iadd, 1) := by decide +kernel
theorem dLaw_327 : decode code 327 = .ok (.iaload, 1) := by decide +kernel
theorem dLaw_328 : decode code 328 = .ok (.aload_n 0, 1) := by decide +kernel
theorem dLaw_329 : decode code 329 = .ok (.iload_n 3, 1) := by decide +kernel
theorem dLaw_330 : decode code 330 = .ok (.iconst 2, 1) := by decide +kernel
theorem dLaw_331 : decode code 331 = .ok (.iadd, 1) := by decide +kernel
theorem dLaw_332 : decode code 332 = .ok (.iaload, 1) := by decide +kernel
theorem dLaw_333 : decode code 333 = .ok (.aload_n 0, 1) := by decide +kernel
theorem dLaw_334 : decode code 334 = .ok (.iload_n 3, 1) := by decide +kernel
theorem dLaw_335 : decode code 335 = .ok (.iconst 3, 1) := by decide +kernel
theorem dLaw_336 : decode code 336 = .ok (.iadd, 1) := by decide +kernel
theorem dLaw_337 : decode code 337 = .ok (.iaload, 1) := by decide +kernel
theorem dLaw_338 : decode code 338 = .ok (.invokevirtual 57, 3) := by decide +kernel
theorem dLaw_341 : decode code 341 = .ok (.aload_n 2, 1) := by decide +kernel
theorem dLaw_342 : decode code 342 = .ok (.aload_n 0, 1) := by decide +kernel
theorem dLaw_343 : decode code 343 = .ok (.iload_n 3, 1) := by decide +kernel
theorem dLaw_344 : decode code 344 = .ok (.iconst 1, 1) := by decide +kernel
theorem dLaw_345 : decode code 345 = .ok (.iadd, 1) := by decide +kernel
theorem dLaw_346 : decode code 346 = .ok (.iaload, 1) := by decide +kernel
theorem dLaw_347 : decode code 347 = .ok (.aload_n 0, 1) := by decide +kernel
theorem dLaw_348 : decode code 348 = .ok (.iload_n 3, 1) := by decide +kernel
theorem dLaw_349 : decode code 349 = .ok (.iconst 2, 1) := by decide +kernel
theorem dLaw_350 : decode code 350 = .ok (.iadd, 1) := by decide +kernel
theorem dLaw_351 : decode code 351 = .ok (.iaload, 1) := by decide +kernel
theorem dLaw_352 : decode code 352 = .ok (.aload_n 0, 1) := by decide +kernel
theorem dLaw_353 : decode code 353 = .ok (.iload_n 3, 1) := by decide +kernel
theorem dLaw_354 : decode code 354 = .ok (.iconst 3, 1) := by decide +kernel
theorem dLaw_355 : decode code 355 = .ok (.iadd, 1) := by decide +kernel
theorem dLaw_356 : decode code 356 = .ok (.iaload, 1) := by decide +kernel
theorem dLaw_357 : decode code 357 = .ok (.invokevirtual 60, 3) := by decide +kernel
theorem dLaw_360 : decode code 360 = .ok (.if_icmp .eq 117, 3) := by decide +kernel
theorem dLaw_363 : decode code 363 = .ok (.iconst 0, 1) := by decide +kernel
theorem dLaw_364 : decode code 364 = .ok (.ireturn, 1) := by decide +kernel
theorem dLaw_365 : decode code 365 = .ok (.aload_n 1, 1) := by decide +kernel
theorem dLaw_366 : decode code 366 = .ok (.aload_n 0, 1) := by decide +kernel
theorem dLaw_367 : decode code 367 = .ok (.iload_n 3, 1) := by decide +kernel
theorem dLaw_368 : decode code 368 = .ok (.iconst 1, 1) := by decide +kernel
theorem dLaw_369 : decode code 369 = .ok (.iadd, 1) := by decide +kernel
theorem dLaw_370 : decode code 370 = .ok (.iaload, 1) := by decide +kernel
theorem dLaw_371 : decode code 371 = .ok (.aload_n 0, 1) := by decide +kernel
theorem dLaw_372 : decode code 372 = .ok (.iload_n 3, 1) := by decide +kernel
theorem dLaw_373 : decode code 373 = .ok (.iconst 2, 1) := by decide +kernel
theorem dLaw_374 : decode code 374 = .ok (.iadd, 1) := by decide +kernel
theorem dLaw_375 : decode code 375 = .ok (.iaload, 1) := by decide +kernel
theorem dLaw_376 : decode code 376 = .ok (.invokevirtual 61, 3) := by decide +kernel
theorem dLaw_379 : decode code 379 = .ok (.aload_n 2, 1) := by decide +kernel
theorem dLaw_380 : decode code 380 = .ok (.aload_n 0, 1) := by decide +kernel
theorem dLaw_381 : decode code 381 = .ok (.iload_n 3, 1) := by decide +kernel
theorem dLaw_382 : decode code 382 = .ok (.iconst 1, 1) := by decide +kernel
theorem dLaw_383 : decode code 383 = .ok (.iadd, 1) := by decide +kernel
theorem dLaw_384 : decode code 384 = .ok (.iaload, 1) := by decide +kernel
theorem dLaw_385 : decode code 385 = .ok (.aload_n 0, 1) := by decide +kernel
theorem dLaw_386 : decode code 386 = .ok (.iload_n 3, 1) := by decide +kernel
theorem dLaw_387 : decode code 387 = .ok (.iconst 2, 1) := by decide +kernel
theorem dLaw_388 : decode code 388 = .ok (.iadd, 1) := by decide +kernel
theorem dLaw_389 : decode code 389 = .ok (.iaload, 1) := by decide +kernel
theorem dLaw_390 : decode code 390 = .ok (.invokevirtual 64, 3) := by decide +kernel
theorem dLaw_393 : decode code 393 = .ok (.if_icmp .eq 84, 3) := by decide +kernel
theorem dLaw_396 : decode code 396 = .ok (.iconst 0, 1) := by decide +kernel
theorem dLaw_397 : decode code 397 = .ok (.ireturn, 1) := by decide +kernel
theorem dLaw_398 : decode code 398 = .ok (.aload_n 1, 1) := by decide +kernel
theorem dLaw_399 : decode code 399 = .ok (.aload_n 0, 1) := by decide +kernel
theorem dLaw_400 : decode code 400 = .ok (.iload_n 3, 1) := by decide +kernel
theorem dLaw_401 : decode code 401 = .ok (.iconst 1, 1) := by decide +kernel
theorem dLaw_402 : decode code 402 = .ok (.iadd, 1) := by decide +kernel
theorem dLaw_403 : decode code 403 = .ok (.iaload, 1) := by decide +kernel
theorem dLaw_404 : decode code 404 = .ok (.i2l, 1) := by decide +kernel
theorem dLaw_405 : decode code 405 = .ok (.bipush 32, 2) := by decide +kernel
theorem dLaw_407 : decode code 407 = .ok (.lshl, 1) := by decide +kernel
theorem dLaw_408 : decode code 408 = .ok (.aload_n 0, 1) := by decide +kernel
theorem dLaw_409 : decode code 409 = .ok (.iload_n 3, 1) := by decide +kernel
theorem dLaw_410 : decode code 410 = .ok (.iconst 2, 1) := by decide +kernel
theorem dLaw_411 : decode code 411 = .ok (.iadd, 1) := by decide +kernel
theorem dLaw_412 : decode code 412 = .ok (.iaload, 1) := by decide +kernel
theorem dLaw_413 : decode code 413 = .ok (.i2l, 1) := by decide +kernel
theorem dLaw_414 : decode code 414 = .ok (.ldc2_w 65, 3) := by decide +kernel
theorem dLaw_417 : decode code 417 = .ok (.land, 1) := by decide +kernel
theorem dLaw_418 : decode code 418 = .ok (.lor, 1) := by decide +kernel
theorem dLaw_419 : decode code 419 = .ok (.invokevirtual 67, 3) := by decide +kernel
theorem dLaw_422 : decode code 422 = .ok (.aload_n 2, 1) := by decide +kernel
theorem dLaw_423 : decode code 423 = .ok (.aload_n 0, 1) := by decide +kernel
theorem dLaw_424 : decode code 424 = .ok (.iload_n 3, 1) := by decide +kernel
theorem dLaw_425 : decode code 425 = .ok (.iconst 1, 1) := by decide +kernel
theorem dLaw_426 : decode code 426 = .ok (.iadd, 1) := by decide +kernel
theorem dLaw_427 : decode code 427 = .ok (.iaload, 1) := by decide +kernel
theorem dLaw_428 : decode code 428 = .ok (.i2l, 1) := by decide +kernel
theorem dLaw_429 : decode code 429 = .ok (.bipush 32, 2) := by decide +kernel
theorem dLaw_431 : decode code 431 = .ok (.lshl, 1) := by decide +kernel
theorem dLaw_432 : decode code 432 = .ok (.aload_n 0, 1) := by decide +kernel
theorem dLaw_433 : decode code 433 = .ok (.iload_n 3, 1) := by decide +kernel
theorem dLaw_434 : decode code 434 = .ok (.iconst 2, 1) := by decide +kernel
theorem dLaw_435 : decode code 435 = .ok (.iadd, 1) := by decide +kernel
theorem dLaw_436 : decode code 436 = .ok (.iaload, 1) := by decide +kernel
theorem dLaw_437 : decode code 437 = .ok (.i2l, 1) := by decide +kernel
theorem dLaw_438 : decode code 438 = .ok (.ldc2_w 65, 3) := by decide +kernel
theorem dLaw_441 : decode code 441 = .ok (.land, 1) := by decide +kernel
theorem dLaw_442 : decode code 442 = .ok (.lor, 1) := by decide +kernel
theorem dLaw_443 : decode code 443 = .ok (.invokevirtual 71, 3) := by decide +kernel
theorem dLaw_446 : decode code 446 = .ok (.if_icmp .eq 31, 3) := by decide +kernel
theorem dLaw_449 : decode code 449 = .ok (.iconst 0, 1) := by decide +kernel
theorem dLaw_450 : decode code 450 = .ok (.ireturn, 1) := by decide +kernel
theorem dLaw_451 : decode code 451 = .ok (.aload_n 1, 1) := by decide +kernel
theorem dLaw_452 : decode code 452 = .ok (.invokevirtual 72, 3) := by decide +kernel
theorem dLaw_455 : decode code 455 = .ok (.aload_n 2, 1) := by decide +kernel
theorem dLaw_456 : decode code 456 = .ok (.invokevirtual 75, 3) := by decide +kernel
theorem dLaw_459 : decode code 459 = .ok (.if_icmp .eq 18, 3) := by decide +kernel
theorem dLaw_462 : decode code 462 = .ok (.iconst 0, 1) := by decide +kernel
theorem dLaw_463 : decode code 463 = .ok (.ireturn, 1) := by decide +kernel
theorem dLaw_464 : decode code 464 = .ok (.aload_n 1, 1) := by decide +kernel
theorem dLaw_465 : decode code 465 = .ok (.invokevirtual 76, 3) := by decide +kernel
theorem dLaw_468 : decode code 468 = .ok (.aload_n 2, 1) := by decide +kernel
theorem dLaw_469 : decode code 469 = .ok (.invokevirtual 79, 3) := by decide +kernel
theorem dLaw_472 : decode code 472 = .ok (.if_icmp .eq 5, 3) := by decide +kernel
theorem dLaw_475 : decode code 475 = .ok (.iconst 0, 1) := by decide +kernel
theorem dLaw_476 : decode code 476 = .ok (.ireturn, 1) := by decide +kernel
theorem dLaw_477 : decode code 477 = .ok (.iinc 3 4, 3) := by decide +kernel
theorem dLaw_480 : decode code 480 = .ok (.goto (-452), 3) := by decide +kernel
theorem dLaw_483 : decode code 483 = .ok (.iconst 1, 1) := by decide +kernel
theorem dLaw_484 : decode code 484 = .ok (.ireturn, 1) := by decide +kernel
theorem dLaw_cell_0 : decode method_2_code 0 = .ok (.iload_n 1, 1) := by decide +kernel
theorem dLaw_cell_1 : decode method_2_code 1 = .ok (.aload_n 0, 1) := by decide +kernel
theorem dLaw_cell_2 : decode method_2_code 2 = .ok (.arraylength, 1) := by decide +kernel
theorem dLaw_cell_3 : decode method_2_code 3 = .ok (.if_icmp .ge 9, 3) := by decide +kernel
theorem dLaw_cell_6 : decode method_2_code 6 = .ok (.aload_n 0, 1) := by decide +kernel
theorem dLaw_cell_7 : decode method_2_code 7 = .ok (.iload_n 1, 1) := by decide +kernel
theorem dLaw_cell_8 : decode method_2_code 8 = .ok (.iaload, 1) := by decide +kernel
theorem dLaw_cell_9 : decode method_2_code 9 = .ok (.goto 4, 3) := by decide +kernel
theorem dLaw_cell_12 : decode method_2_code 12 = .ok (.iconst 0, 1) := by decide +kernel
theorem dLaw_cell_13 : decode method_2_code 13 = .ok (.ireturn, 1) := by decide +kernel
def zh0 (x : Int32) : zM := fun o => if o = 19 then (fun k => if k = 5 then 3 else if k = 6 then x else 0) else if o = 22 then (upd (upd (upd (fun _ => 0) (Int32.toNatClampNeg 0) 0) (Int32.toNatClampNeg 1) 1) (Int32.toNatClampNeg 2) (-1)) else fun _ => 0
def mg0 (x : Int32) : zM := fun o => if o = 0 then (fun k => if k = 0 then x else if k = 9 then 3 else 0) else if o = 7 then (upd (upd (upd (upd (upd (upd (upd (upd (fun _ => 0) (Int32.toNatClampNeg 0) 0) (Int32.toNatClampNeg 1) 1) (Int32.toNatClampNeg 2) (-1)) (Int32.toNatClampNeg 3) 0) (Int32.toNatClampNeg 4) 0) (Int32.toNatClampNeg 5) 0) (Int32.toNatClampNeg 6) 0) (Int32.toNatClampNeg 7) 0) else fun _ => 0
def lA (s : State) : Nat → Prop := fun q => s.heap.size ≤ q
/-- both worlds stand beside each other -/
def lI (D : va_G) (cI cC cE : ClassId) (s : State) (ad adm : Nat → Nat) (n : Nat) (ln : Nat → Nat) (h g : zM) (H : Heap) (locs : List Loc) : Prop :=
  va_P D zcl (zW (34 + 4 * n) ad (zF ad cI cC cE n ln) h) H ∧ va_P D zcl (zW 28 adm (mF adm cI) g) H ∧ zJ (lA s) (34 + 4 * n) ad ∧ zJ (lA s) 28 adm ∧ (∀ o o', o < 34 + 4 * n → o' < 28 → ad o ≠ adm o') ∧ va_S (lA s) s.heap H locs
section LAW
variable {p : Program} {l : Launch} {e : Env} {R : Room} {s : State} {m : MethodId} {args : Array Value} {below : List Frame} {meth : Method} {c : Code} {H : Heap} {locs : List Loc} {cells slots : Nat} {Q : State → Prop}
variable {cc : ByteArray} {pc nL : Nat} {ls : Array Slot} {rest : List Value} {D : va_G} {own : String} {ad adm : Nat → Nat} {n k : Nat} {ln : Nat → Nat} {h g : zM} {cI cC cE : ClassId}
variable {index mL mc ms : Nat} {y : MethodName} {b : ByteArray} {ret : Option FieldType} {rm : Room} {As st0 : List Value}
theorem lc_i (S : zS p m c cc nL s args own) (hK : va_K D zcl (zty cI cC cE) s) (hT : zTab (lA s) s s.heap) (hN : zNe s) (hI : lI D cI cC cE s ad adm n ln h g H locs) {post : Int32 → zM → Prop} (hM : ∀ A : Nat → Prop, zJ A (34 + 4 * n) ad → Met l y (.code y b mL ret :: zt) rm (va_Pc (.ref (ad 0) :: As) (zPre D (zty cI cC cE) (34 + 4 * n) ad (zF ad cI cC cE n ln) A h)) (va_Qi post (zPst D (zty cI cC cE) (34 + 4 * n) ad (zF ad cI cC cE n ln)) A) 0 0 A) (hc : zCal own index y "CallExplorer" b mL ret k) (hR : rm.frames + 1 ≤ R.frames ∧ 8 + (mL + 11) + rm.locals ≤ R.locals) (h0 : rm.cells = 0 ∧ rm.slots = 0) (hn : As.length = k) (hsz : ls.size = nL) (hst : st0 = As.reverse ++ .ref (ad 0) :: rest) (hW : (rest.map fun v => v.category).sum ≤ 8) (hdg : decode cc pc = .ok (.invokevirtual index, 3)) (hf : cells ≤ R.cells ∧ slots ≤ R.slots)
    (kk : ∀ (r : Int32) (h1 : zM) (H1 : Heap) (locs1 : List Loc), post r h1 → lI D cI cC cE s ad adm n ln h1 g H1 locs1 → W p l e R s m args below meth c H1 locs1 cells slots Q (F0 m (pc + 3) ls (.int r :: rest))) : W p l e R s m args below meth c H locs cells slots Q (F0 m pc ls st0) := by
  obtain ⟨hP, hPm, hJ, hJm, hdis, hS⟩ := hI
  have hJ' : zJ (fun q => ∃ o, o < 34 + 4 * n ∧ q = ad o) (34 + 4 * n) ad := ⟨hJ.1, fun o ho => ⟨o, ho, rfl⟩⟩
  have hAA : ∀ q, (∃ o, o < 34 + 4 * n ∧ q = ad o) → lA s q := by
    rintro q ⟨o, ho, rfl⟩
    exact hJ.2 o ho
  refine va_calli (va_runV S (hM _ hJ') (zCw S.2.2.2.2 hc hR h0.1 h0.2) ⟨zBlind, va_recv hK hP rfl (q0 := 0) (by rw [zW_at (zk (by decide)), zF_0]), fun U hU hW => ⟨rfl, by rw [hU]; exact hP, va_K.moved hW.alike hK, by rw [hU]; exact ((hT.kept hS.2.1).narrow hAA).moved hW.alike, hN.warm hW⟩⟩ rfl hn hsz hst (lv_room (rest := st0) hW) hdg hf) hS (fun q _ h => hAA q h) (fun q h => hAA q h) (fun r u t H1 locs1 ht hvm hp hB hz hk hS1 => kk r u H1 locs1 hp ⟨by rw [← ht]; exact hB.1, hPm.kept (fun k q hq => ?_), hJ, hJm, hdis, hS1⟩)
  obtain ⟨hl, rfl⟩ := zW_in hq
  exact hk _ (hPm k _ hq).lt (by rintro ⟨o, ho, he⟩; exact hdis o k ho hl he.symm)
theorem lm_i (S : zS p m c cc nL s args own) (hK : va_K D zcl (zty cI cC cE) s) (hT : zTab (lA s) s s.heap) (hN : zNe s) (hI : lI D cI cC cE s ad adm n ln h g H locs) {post : Int32 → zM → Prop} (hM : ∀ A : Nat → Prop, zJ A 28 adm → Met l y (.code y b mL ret :: zt) rm (va_Pc (.ref (adm 0) :: As) (zPre D (zty cI cC cE) 28 adm (mF adm cI) A g)) (va_Qi post (zPst D (zty cI cC cE) 28 adm (mF adm cI)) A) 0 0 A) (hc : zCal own index y "CallExplorerModel" b mL ret k) (hR : rm.frames + 1 ≤ R.frames ∧ 8 + (mL + 11) + rm.locals ≤ R.locals) (h0 : rm.cells = 0 ∧ rm.slots = 0) (hn : As.length = k) (hsz : ls.size = nL) (hst : st0 = As.reverse ++ .ref (adm 0) :: rest) (hW : (rest.map fun v => v.category).sum ≤ 8) (hdg : decode cc pc = .ok (.invokevirtual index, 3)) (hf : cells ≤ R.cells ∧ slots ≤ R.slots)
    (kk : ∀ (r : Int32) (g1 : zM) (H1 : Heap) (locs1 : List Loc), post r g1 → lI D cI cC cE s ad adm n ln h g1 H1 locs1 → W p l e R s m args below meth c H1 locs1 cells slots Q (F0 m (pc + 3) ls (.int r :: rest))) : W p l e R s m args below meth c H locs cells slots Q (F0 m pc ls st0) := by
  obtain ⟨hP, hPm, hJ, hJm, hdis, hS⟩ := hI
  have hJ' : zJ (fun q => ∃ o, o < 28 ∧ q = adm o) 28 adm := ⟨hJm.1, fun o ho => ⟨o, ho, rfl⟩⟩
  have hAA : ∀ q, (∃ o, o < 28 ∧ q = adm o) → lA s q := by
    rintro q ⟨o, ho, rfl⟩
    exact hJm.2 o ho
  refine va_calli (va_runV S (hM _ hJ') (zCw S.2.2.2.2 hc hR h0.1 h0.2) ⟨zBlind, va_recv hK hPm rfl (q0 := 0) (by rw [zW_at (by decide), mF_0]), fun U hU hW => ⟨rfl, by rw [hU]; exact hPm, va_K.moved hW.alike hK, by rw [hU]; exact ((hT.kept hS.2.1).narrow hAA).moved hW.alike, hN.warm hW⟩⟩ rfl hn hsz hst (lv_room (rest := st0) hW) hdg hf) hS (fun q _ h => hAA q h) (fun q h => hAA q h) (fun r u t H1 locs1 ht hvm hp hB hz hk hS1 => kk r u H1 locs1 hp ⟨hP.kept (fun k q hq => ?_), by rw [← ht]; exact hB.1, hJ, hJm, hdis, hS1⟩)
  obtain ⟨hl, rfl⟩ := zW_in hq
  exact hk _ (hP k _ hq).lt (by rintro ⟨o, ho, he⟩; exact hdis k o hl ho he)
theorem lc_a (S : zS p m c cc nL s args own) (hK : va_K D zcl (zty cI cC cE) s) (hT : zTab (lA s) s s.heap) (hN : zNe s) (hI : lI D cI cC cE s ad adm n ln h g H locs) {post : Int32 → Nat → (Nat → Nat) → zM → Prop} (hM : ∀ (A : Nat → Prop), zJ A (34 + 4 * n) ad → (∀ q, H.size ≤ q → A q) → Met l y (.code y b mL ret :: zt) rm (va_Pc (.ref (ad 0) :: As) (zPa D (zty cI cC cE) (34 + 4 * n) ad (zF ad cI cC cE n ln) A H.size h)) (va_Qi (zaP post n ad A) (zaB D cI cC cE) A) mc ms A) (hc : zCal own index y "CallExplorer" b mL ret k) (hR : rm.frames + 1 ≤ R.frames ∧ 8 + (mL + 11) + rm.locals ≤ R.locals) (h0 : rm.cells = mc ∧ rm.slots = ms) (hn : As.length = k) (hsz : ls.size = nL) (hst : st0 = As.reverse ++ .ref (ad 0) :: rest) (hW : (rest.map fun v => v.category).sum ≤ 8) (hdg : decode cc pc = .ok (.invokevirtual index, 3)) (hf : cells + mc ≤ R.cells ∧ slots + ms ≤ R.slots)
    (kk : ∀ (r : Int32) (ad1 : Nat → Nat) (n1 : Nat) (ln1 : Nat → Nat) (h1 : zM) (H1 : Heap) (locs1 : List Loc), post r n1 ln1 h1 → ad1 0 = ad 0 → lI D cI cC cE s ad1 adm n1 ln1 h1 g H1 locs1 → W p l e R s m args below meth c H1 locs1 (cells + mc) (slots + ms) Q (F0 m (pc + 3) ls (.int r :: rest))) : W p l e R s m args below meth c H locs cells slots Q (F0 m pc ls st0) := by
  obtain ⟨hP, hPm, hJ, hJm, hdis, hS⟩ := hI
  have hJ' : zJ (fun q => (∃ o, o < 34 + 4 * n ∧ q = ad o) ∨ H.size ≤ q) (34 + 4 * n) ad := ⟨hJ.1, fun o ho => Or.inl ⟨o, ho, rfl⟩⟩
  have hAA : ∀ q, ((∃ o, o < 34 + 4 * n ∧ q = ad o) ∨ H.size ≤ q) → lA s q := by
    rintro q (⟨o, ho, rfl⟩ | hq)
    · exact hJ.2 o ho
    · exact Nat.le_trans hS.1 hq
  have hml : ∀ o, o < 28 → adm o < H.size := fun o ho => (hPm o _ (zW_at ho)).lt
  refine va_calli (va_runV S (hM _ hJ' (fun q h => Or.inr h)) (zCw S.2.2.2.2 hc hR h0.1 h0.2) ⟨zPa_blind, va_recv hK hP rfl (q0 := 0) (by rw [zW_at (zk (by decide)), zF_0]), fun U hU hW => ⟨rfl, ⟨by rw [hU]; exact hP, va_K.moved hW.alike hK, by rw [hU]; exact ((hT.kept hS.2.1).narrow hAA).moved hW.alike, hN.warm hW⟩, by rw [hU]; exact Nat.le_refl _⟩⟩ rfl hn hsz hst (lv_room (rest := st0) hW) hdg hf) hS (fun q _ h => hAA q h) (fun q h => hAA q h) (fun r u t H1 locs1 ht hvm hp hB hz hk hS1 => ?_)
  obtain ⟨ad1, n1, ln1, h1⟩ := u
  obtain ⟨hpost, hn1, hag, hJ1⟩ := hp
  dsimp only at hpost hn1 hag hJ1
  refine kk r ad1 n1 ln1 h1 H1 locs1 hpost (hag 0 (zk (by decide))) ⟨by rw [← ht]; exact hB.1, hPm.kept (fun k q hq => ?_), ⟨hJ1.1, fun o ho => hAA _ (hJ1.2 o ho)⟩, hJm, fun o o' ho ho' he => ?_, hS1⟩
  · obtain ⟨hl, rfl⟩ := zW_in hq
    refine hk _ (hPm k _ hq).lt ?_
    rintro (⟨o, ho, he⟩ | he)
    · exact hdis o k ho hl he.symm
    · exact absurd (hml k hl) (Nat.not_lt.mpr he)
  · rcases hJ1.2 o ho with ⟨o2, ho2, he2⟩ | he2
    · exact hdis o2 o' ho2 ho' (he2.symm.trans he)
    · rw [he] at he2
      exact absurd (hml o' ho') (Nat.not_lt.mpr he2)
end LAW
abbrev yLaw_cell : MethodName := ⟨"CallExplorerLaw", "cell", "([II)I"⟩
abbrev rmLaw_cell : Room := { frames := 0, cells := 0, slots := 0, locals := 0 }
set_option maxHeartbeats 4000000 in
/-- the law's cell(script, 0): any int, but the same at both calls -/
theorem cLaw_cell (l : Launch) (b L : Nat) (xs : Nat → Int32) (hL : L ≤ 2049) : Met l yLaw_cell (.code yLaw_cell method_2_code 2 (some .int) :: zt) rmLaw_cell (va_Pc [.ref b, .int 0] (fun U => va_X b L xs U U.heap ∧ b < U.heap.size)) (vp_Si (fun r => r = if 0 < L then xs 0 else 0)) 0 0 (fun _ => False) := by
  refine Met.ofW (cc := method_2_code) (maxL := 2) (ret := some .int) (by decide) rfl ?_
  intro p e s m args below meth c s₁ B hml hv
  obtain ⟨rfl, hX, hbl⟩ := hv
  have hr := B.returns
  have hlk := B.notSynchronized
  have hx := B.exec
  have hb := B.bytes
  have hS : va_S (fun _ => False) s.heap s.heap [] := va_S.rf
  have hl := lv_entry ([.ref b, .int 0]) (n := 2) (Nat.le_of_ble_eq_true rfl)
  rw [lg_entry_eq]
  generalize (lg_sl ([.ref b, .int 0]) ++ List.replicate (2 - (lg_sl ([.ref b, .int 0])).length) Slot.unset).toArray = ls at hl ⊢
  have hl : lv_has ls 2 [(0, .ref b), (1, .int 0)] := hl
  have cl : (0 : Int32).toNatClampNeg = 0 := rfl
  refine lv_iload_n hx hb dLaw_cell_0 rfl (lv_at hl 1 rfl) ?_
  refine lv_aload_n hx hb dLaw_cell_1 rfl (lv_at hl 0 rfl) ?_
  refine va_slen hx hb hX hbl (fun h => h) hS dLaw_cell_2 ?_
  refine lv_icmp_ge hx hb dLaw_cell_3 rfl (fun hc => ?_) (fun hc => ?_)
  · have h0 : L = 0 := by
      rcases Nat.eq_zero_or_pos L with h | h
      · exact h
      · exact absurd (show nI L ≤ 0 from hc) (nI_nle h (by omega))
    refine lv_iconst (v := 0) hx hb dLaw_cell_12 (by decide) ?_
    exact W.iret hx hb hr (fun t ht hW => ⟨0, rfl, by rw [if_neg (by omega)], ht⟩) (fun q hq => by cases hq) dLaw_cell_13 hlk
  · have h0 : 0 < L := by
      rcases Nat.eq_zero_or_pos L with h | h
      · exact absurd (by rw [h]; decide) hc
      · exact h
    refine lv_aload_n hx hb dLaw_cell_6 rfl (lv_at hl 0 rfl) ?_
    refine lv_iload_n hx hb dLaw_cell_7 rfl (lv_at hl 1 rfl) ?_
    refine va_sld hx hb hX hbl (fun h => h) hS (vp_in_nI (n := 0) h0 (by omega)) dLaw_cell_8 ?_
    refine lv_goto hx hb dLaw_cell_9 rfl ?_
    exact W.iret hx hb hr (fun t ht hW => ⟨_, rfl, by rw [if_pos h0]; rfl, ht⟩) (fun q hq => by cases hq) dLaw_cell_13 hlk
set_option maxHeartbeats 16000000 in
set_option maxRecDepth 100000 in
theorem law_walk (Rl : Nat → (Nat → Nat) → zM → zM → Prop) (H_init : ∀ x : Int32, Rl 0 (fun _ => 0) (zh0 x) (mg0 x)) (H_type : ∀ (n : Nat) (ln : Nat → Nat) (h g : zM) (a0 : Int32) (a1 : Int32) (a2 : Int32), Rl n ln h g → wpTop_type n ln a0 a1 a2 h (fun r h1 => wpMod_type a0 a1 a2 g (fun r1 g1 => r = r1 ∧ Rl n ln h1 g1))) (H_operation : ∀ (n : Nat) (ln : Nat → Nat) (h g : zM) (a0 : Int32) (a1 : Int32) (a2 : Int32), Rl n ln h g → wpTop_operation n ln a0 a1 a2 h (fun r h1 => wpMod_operation a0 a1 a2 g (fun r1 g1 => r = r1 ∧ Rl n ln h1 g1))) (H_literal : ∀ (n : Nat) (ln : Nat → Nat) (h g : zM) (a0 : Int32), Rl n ln h g → wpTop_literal n ln a0 h (fun r h1 => wpMod_literal a0 g (fun r1 g1 => r = r1 ∧ Rl n ln h1 g1))) (H_step : ∀ (n : Nat) (ln : Nat → Nat) (h g : zM), Rl n ln h g → wpTop_step n ln  h (fun r n1 ln1 h1 => wpMod_step  g (fun r1 g1 => r = r1 ∧ Rl n1 ln1 h1 g1))) (H_seek : ∀ (n : Nat) (ln : Nat → Nat) (h g : zM) (a0 : Int32), Rl n ln h g → wpTop_seek n ln a0 h (fun r n1 ln1 h1 => wpMod_seek a0 g (fun r1 g1 => r = r1 ∧ Rl n1 ln1 h1 g1))) (H_shorten : ∀ (n : Nat) (ln : Nat → Nat) (h g : zM) (a0 : Int32), Rl n ln h g → wpTop_shorten n ln a0 h (fun r h1 => wpMod_shorten a0 g (fun r1 g1 => r = r1 ∧ Rl n ln h1 g1))) (H_entries : ∀ (n : Nat) (ln : Nat → Nat) (h g : zM), Rl n ln h g → wpTop_entries n ln  h (fun r h1 => wpMod_entries  g (fun r1 g1 => r = r1 ∧ Rl n ln h1 g1))) (H_entry : ∀ (n : Nat) (ln : Nat → Nat) (h g : zM) (a0 : Int32) (a1 : Int32), Rl n ln h g → wpTop_entry n ln a0 a1 h (fun r h1 => wpMod_entry a0 a1 g (fun r1 g1 => r = r1 ∧ Rl n ln h1 g1))) (H_statement : ∀ (n : Nat) (ln : Nat → Nat) (h g : zM) (a0 : Int32) (a1 : Int32) (a2 : Int32), Rl n ln h g → wpTop_statement n ln a0 a1 a2 h (fun r h1 => wpMod_statement a0 a1 a2 g (fun r1 g1 => r = r1 ∧ Rl n ln h1 g1))) (H_text : ∀ (n : Nat) (ln : Nat → Nat) (h g : zM) (a0 : Int32) (a1 : Int32), Rl n ln h g → wpTop_text n ln a0 a1 h (fun r h1 => wpMod_text a0 a1 g (fun r1 g1 => r = r1 ∧ Rl n ln h1 g1))) (H_draft : ∀ (n : Nat) (ln : Nat → Nat) (h g : zM) (a0 : Int64), Rl n ln h g → wpTop_draft n ln a0 h (fun r h1 => wpMod_draft a0 g (fun r1 g1 => r = r1 ∧ Rl n ln h1 g1))) (H_replay : ∀ (n : Nat) (ln : Nat → Nat) (h g : zM), Rl n ln h g → wpTop_replay n ln  h (fun r h1 => wpMod_replay  g (fun r1 g1 => r = r1 ∧ Rl n ln h1 g1))) (H_state : ∀ (n : Nat) (ln : Nat → Nat) (h g : zM), Rl n ln h g → wpTop_state n ln  h (fun r h1 => wpMod_state  g (fun r1 g1 => r = r1 ∧ Rl n ln h1 g1))) {p : Program} {e : Env} {s : State} {m : MethodId} {below : List Frame} {meth : Method} {c : Code} (l : Launch) {b L : Nat} {xs : Nat → Int32} (hL : L ≤ 2049) (C0 : lw_At p s m meth c b L xs) (D : va_G) (cI cC cE : ClassId) (hK : va_K D zcl (zty cI cC cE) s) (hT : zTab (lA s) s s.heap) (hN : zNe s) : W p l e room_1 s m #[Value.ref b] below meth c s.heap [] 0 0 (lw_Z below #[Value.ref b] s) (entryFrame m ([Value.ref b] : List Value).toArray 4) := by
  obtain ⟨hx, hb, hr, hml, hown, hts, hX, hbl, hlk, hgv⟩ := C0
  have S : zS p m c code 4 s #[Value.ref b] "CallExplorerLaw" := ⟨hx, hb, hml, hown, fun w hw => hts w (List.mem_filter.mp hw).1⟩
  have hbA : ¬ lA s b := Nat.not_le.mpr hbl
  have J28 : ∀ (k j : Nat), 513 ≤ j + k → j ≤ 512 → ∀ (ad adm : Nat → Nat) (n : Nat) (ln : Nat → Nat) (h g : zM) (H : Heap) (locs : List Loc) (ls : Array Slot), Rl n ln h g → lI D cI cC cE s ad adm n ln h g H locs → lv_has ls 4 [(0, .ref b), (1, .ref (ad 0)), (2, .ref (adm 0)), (3, .int (nI (1 + 4 * j)))] → W p l e room_1 s m #[Value.ref b] below meth c H locs (62 + 80 * j) (3817 + 1580 * j) (lw_Z below #[Value.ref b] s) (F0 m 28 ls []) := by
    intro k
    induction k with
    | zero => intro j h1 h2; omega
    | succ k ih =>
      intro j hjk hj ad adm n ln h g H locs ls hR hI hl
      refine lv_iload_n S.1 S.2.1 dLaw_28 rfl (lv_at hl 3 rfl) ?_
      refine lv_aload_n S.1 S.2.1 dLaw_29 rfl (lv_at hl 0 rfl) ?_
      refine va_slen S.1 S.2.1 hX hbl hbA hI.2.2.2.2.2 dLaw_30 ?_
      refine lv_iconst (v := 4) S.1 S.2.1 dLaw_31 (by decide) ?_
      refine lv_isub S.1 S.2.1 dLaw_32 ?_
      have hsub : (Int32.ofNat L - 4).toInt = (L : Int) - 4 := pk_sub_toInt (a := L) (b := 4) (by omega) (by omega)
      have hi : (nI (1 + 4 * j)).toInt = ((1 + 4 * j : Nat) : Int) := nI_toInt (by omega)
      refine lv_icmp_gt S.1 S.2.1 dLaw_33 rfl (fun hc => ?_) (fun hc => ?_)
      · refine lv_iconst (v := 1) S.1 S.2.1 dLaw_483 (by decide) ?_
        refine va_forget (fun q hq => hI.2.2.2.2.2.2.2 q hq) ?_
        refine W.widen (k := room_1.cells) (n := room_1.slots) (by have := lw_rc; omega) (by have := lw_rs; omega) ?_
        exact lw_ret hx hb hr hlk dLaw_484
      · have hlt : 1 + 4 * j + 3 < L := by
          have h1 : ¬ (Int32.ofNat L - 4).toInt < (nI (1 + 4 * j)).toInt := fun q => hc (Int32.lt_iff_toInt_lt.mpr q)
          rw [hsub, hi] at h1
          omega
        have lin : ∀ k : Nat, k ≤ 3 → vp_in (nI (1 + 4 * j) + nI k) L := fun k hk => by rw [nI_add]; exact vp_in_nI (by omega) (by omega)
        have lin0 : vp_in (nI (1 + 4 * j)) L := vp_in_nI (by omega) (by omega)
        have hj2 : j + 1 ≤ 512 := by omega
        have J477 : ∀ (ad : Nat → Nat) (n : Nat) (ln : Nat → Nat) (h g : zM) (H : Heap) (locs : List Loc) (ls : Array Slot), Rl n ln h g → lI D cI cC cE s ad adm n ln h g H locs → lv_has ls 4 [(0, .ref b), (1, .ref (ad 0)), (2, .ref (adm 0)), (3, .int (nI (1 + 4 * j)))] → W p l e room_1 s m #[Value.ref b] below meth c H locs (62 + 80 * j + 80) (3817 + 1580 * j + 1580) (lw_Z below #[Value.ref b] s) (F0 m 477 ls []) := by
          intro ad n ln h g H locs ls hR hI hl
          refine lv_iinc (v := nI (1 + 4 * (j + 1))) (lv' := [(3, .int (nI (1 + 4 * (j + 1)))), (0, .ref b), (1, .ref (ad 0)), (2, .ref (adm 0))]) (k := 3) S.1 S.2.1 dLaw_477 hl rfl (by show nI (1 + 4 * j) + nI 4 = _; rw [nI_add]; congr 1) (by decide) rfl (fun ls hl => ?_)
          refine lv_goto S.1 S.2.1 dLaw_480 rfl ?_
          exact ih (j + 1) (by omega) hj2 ad adm n ln h g H locs ls hR hI (lv_sub hl [1, 2, 3, 0] rfl)
        refine lv_aload_n S.1 S.2.1 dLaw_36 rfl (lv_at hl 0 rfl) ?_
        refine lv_iload_n S.1 S.2.1 dLaw_37 rfl (lv_at hl 3 rfl) ?_
        refine va_sld S.1 S.2.1 hX hbl hbA hI.2.2.2.2.2 lin0 dLaw_38 ?_
        refine lv_bipush (v := 15) S.1 S.2.1 dLaw_39 (by decide) ?_
        refine lv_iand S.1 S.2.1 dLaw_41 ?_
        by_cases c0 : xs (Int32.toNatClampNeg (nI (1 + 4 * j))) &&& 15 = 0
        · refine lv_tableIn (off := 66) S.1 S.2.1 dLaw_42 (by rw [c0]; decide) (by rw [c0]; decide) (by rw [c0]; rfl) rfl ?_
          refine lv_aload_n S.1 S.2.1 dLaw_108 rfl (lv_at hl 1 rfl) ?_
          refine lv_aload_n S.1 S.2.1 dLaw_109 rfl (lv_at hl 0 rfl) ?_
          refine lv_iload_n S.1 S.2.1 dLaw_110 rfl (lv_at hl 3 rfl) ?_
          refine lv_iconst (v := 1) S.1 S.2.1 dLaw_111 (by decide) ?_
          refine lv_iadd S.1 S.2.1 dLaw_112 ?_
          refine va_sld S.1 S.2.1 hX hbl hbA hI.2.2.2.2.2 (lin 1 (by decide)) dLaw_113 ?_
          refine lv_aload_n S.1 S.2.1 dLaw_114 rfl (lv_at hl 0 rfl) ?_
          refine lv_iload_n S.1 S.2.1 dLaw_115 rfl (lv_at hl 3 rfl) ?_
          refine lv_iconst (v := 2) S.1 S.2.1 dLaw_116 (by decide) ?_
          refine lv_iadd S.1 S.2.1 dLaw_117 ?_
          refine va_sld S.1 S.2.1 hX hbl hbA hI.2.2.2.2.2 (lin 2 (by decide)) dLaw_118 ?_
          refine lv_aload_n S.1 S.2.1 dLaw_119 rfl (lv_at hl 0 rfl) ?_
          refine lv_iload_n S.1 S.2.1 dLaw_120 rfl (lv_at hl 3 rfl) ?_
          refine lv_iconst (v := 3) S.1 S.2.1 dLaw_121 (by decide) ?_
          refine lv_iadd S.1 S.2.1 dLaw_122 ?_
          refine va_sld S.1 S.2.1 hX hbl hbA hI.2.2.2.2.2 (lin 3 (by decide)) dLaw_123 ?_
          have hw := H_type n ln h g (xs (Int32.toNatClampNeg ((nI (1 + 4 * j)) + 1))) (xs (Int32.toNatClampNeg ((nI (1 + 4 * j)) + 2))) (xs (Int32.toNatClampNeg ((nI (1 + 4 * j)) + 3))) hR
          refine lc_i (As := [.int (xs (Int32.toNatClampNeg ((nI (1 + 4 * j)) + 1))), .int (xs (Int32.toNatClampNeg ((nI (1 + 4 * j)) + 2))), .int (xs (Int32.toNatClampNeg ((nI (1 + 4 * j)) + 3)))]) (rest := []) S hK hT hN hI (fun A hJ => cTop_type l D cI cC cE ad n ln A hJ _ _ _ _ _ hw) caLaw_21 ⟨Nat.le_of_ble_eq_true rfl, Nat.le_of_ble_eq_true rfl⟩ ⟨rfl, rfl⟩ rfl hl.1 rfl (Nat.le_of_ble_eq_true rfl) dLaw_124 ⟨by have := lw_rc; show _ ≤ room_1.cells; omega, by have := lw_rs; show _ ≤ room_1.slots; omega⟩ (fun r1 h1 H1 locs1 hw hI => ?_)
          refine W.widen (k := 62 + 80 * j + 80) (n := 3817 + 1580 * j + 1580) (by omega) (by omega) ?_
          refine lv_aload_n S.1 S.2.1 dLaw_127 rfl (lv_at hl 2 rfl) ?_
          refine lv_aload_n S.1 S.2.1 dLaw_128 rfl (lv_at hl 0 rfl) ?_
          refine lv_iload_n S.1 S.2.1 dLaw_129 rfl (lv_at hl 3 rfl) ?_
          refine lv_iconst (v := 1) S.1 S.2.1 dLaw_130 (by decide) ?_
          refine lv_iadd S.1 S.2.1 dLaw_131 ?_
          refine va_sld S.1 S.2.1 hX hbl hbA hI.2.2.2.2.2 (lin 1 (by decide)) dLaw_132 ?_
          refine lv_aload_n S.1 S.2.1 dLaw_133 rfl (lv_at hl 0 rfl) ?_
          refine lv_iload_n S.1 S.2.1 dLaw_134 rfl (lv_at hl 3 rfl) ?_
          refine lv_iconst (v := 2) S.1 S.2.1 dLaw_135 (by decide) ?_
          refine lv_iadd S.1 S.2.1 dLaw_136 ?_
          refine va_sld S.1 S.2.1 hX hbl hbA hI.2.2.2.2.2 (lin 2 (by decide)) dLaw_137 ?_
          refine lv_aload_n S.1 S.2.1 dLaw_138 rfl (lv_at hl 0 rfl) ?_
          refine lv_iload_n S.1 S.2.1 dLaw_139 rfl (lv_at hl 3 rfl) ?_
          refine lv_iconst (v := 3) S.1 S.2.1 dLaw_140 (by decide) ?_
          refine lv_iadd S.1 S.2.1 dLaw_141 ?_
          refine va_sld S.1 S.2.1 hX hbl hbA hI.2.2.2.2.2 (lin 3 (by decide)) dLaw_142 ?_
          refine lm_i (As := [.int (xs (Int32.toNatClampNeg ((nI (1 + 4 * j)) + 1))), .int (xs (Int32.toNatClampNeg ((nI (1 + 4 * j)) + 2))), .int (xs (Int32.toNatClampNeg ((nI (1 + 4 * j)) + 3)))]) (rest := [.int r1]) S hK hT hN hI (fun A hJ => cMod_type l D cI cC cE adm A hJ _ _ _ _ _ hw) caLaw_25 ⟨Nat.le_of_ble_eq_true rfl, Nat.le_of_ble_eq_true rfl⟩ ⟨rfl, rfl⟩ rfl hl.1 rfl (Nat.le_of_ble_eq_true rfl) dLaw_143 ⟨by have := lw_rc; show _ ≤ room_1.cells; omega, by have := lw_rs; show _ ≤ room_1.slots; omega⟩ (fun r2 g1 H2 locs2 hw hI => ?_)
          refine lv_icmp_eq S.1 S.2.1 dLaw_146 rfl (fun hc => ?_) (fun hc => absurd hw.1 hc)
          exact J477 ad n ln h1 g1 H2 locs2 ls hw.2 hI hl
        · by_cases c1 : xs (Int32.toNatClampNeg (nI (1 + 4 * j))) &&& 15 = 1
          · refine lv_tableIn (off := 109) S.1 S.2.1 dLaw_42 (by rw [c1]; decide) (by rw [c1]; decide) (by rw [c1]; rfl) rfl ?_
            refine lv_aload_n S.1 S.2.1 dLaw_151 rfl (lv_at hl 1 rfl) ?_
            refine lv_aload_n S.1 S.2.1 dLaw_152 rfl (lv_at hl 0 rfl) ?_
            refine lv_iload_n S.1 S.2.1 dLaw_153 rfl (lv_at hl 3 rfl) ?_
            refine lv_iconst (v := 1) S.1 S.2.1 dLaw_154 (by decide) ?_
            refine lv_iadd S.1 S.2.1 dLaw_155 ?_
            refine va_sld S.1 S.2.1 hX hbl hbA hI.2.2.2.2.2 (lin 1 (by decide)) dLaw_156 ?_
            refine lv_aload_n S.1 S.2.1 dLaw_157 rfl (lv_at hl 0 rfl) ?_
            refine lv_iload_n S.1 S.2.1 dLaw_158 rfl (lv_at hl 3 rfl) ?_
            refine lv_iconst (v := 2) S.1 S.2.1 dLaw_159 (by decide) ?_
            refine lv_iadd S.1 S.2.1 dLaw_160 ?_
            refine va_sld S.1 S.2.1 hX hbl hbA hI.2.2.2.2.2 (lin 2 (by decide)) dLaw_161 ?_
            refine lv_aload_n S.1 S.2.1 dLaw_162 rfl (lv_at hl 0 rfl) ?_
            refine lv_iload_n S.1 S.2.1 dLaw_163 rfl (lv_at hl 3 rfl) ?_
            refine lv_iconst (v := 3) S.1 S.2.1 dLaw_164 (by decide) ?_
            refine lv_iadd S.1 S.2.1 dLaw_165 ?_
            refine va_sld S.1 S.2.1 hX hbl hbA hI.2.2.2.2.2 (lin 3 (by decide)) dLaw_166 ?_
            have hw := H_operation n ln h g (xs (Int32.toNatClampNeg ((nI (1 + 4 * j)) + 1))) (xs (Int32.toNatClampNeg ((nI (1 + 4 * j)) + 2))) (xs (Int32.toNatClampNeg ((nI (1 + 4 * j)) + 3))) hR
            refine lc_i (As := [.int (xs (Int32.toNatClampNeg ((nI (1 + 4 * j)) + 1))), .int (xs (Int32.toNatClampNeg ((nI (1 + 4 * j)) + 2))), .int (xs (Int32.toNatClampNeg ((nI (1 + 4 * j)) + 3)))]) (rest := []) S hK hT hN hI (fun A hJ => cTop_operation l D cI cC cE ad n ln A hJ _ _ _ _ _ hw) caLaw_26 ⟨Nat.le_of_ble_eq_true rfl, Nat.le_of_ble_eq_true rfl⟩ ⟨rfl, rfl⟩ rfl hl.1 rfl (Nat.le_of_ble_eq_true rfl) dLaw_167 ⟨by have := lw_rc; show _ ≤ room_1.cells; omega, by have := lw_rs; show _ ≤ room_1.slots; omega⟩ (fun r1 h1 H1 locs1 hw hI => ?_)
            refine W.widen (k := 62 + 80 * j + 80) (n := 3817 + 1580 * j + 1580) (by omega) (by omega) ?_
            refine lv_aload_n S.1 S.2.1 dLaw_170 rfl (lv_at hl 2 rfl) ?_
            refine lv_aload_n S.1 S.2.1 dLaw_171 rfl (lv_at hl 0 rfl) ?_
            refine lv_iload_n S.1 S.2.1 dLaw_172 rfl (lv_at hl 3 rfl) ?_
            refine lv_iconst (v := 1) S.1 S.2.1 dLaw_173 (by decide) ?_
            refine lv_iadd S.1 S.2.1 dLaw_174 ?_
            refine va_sld S.1 S.2.1 hX hbl hbA hI.2.2.2.2.2 (lin 1 (by decide)) dLaw_175 ?_
            refine lv_aload_n S.1 S.2.1 dLaw_176 rfl (lv_at hl 0 rfl) ?_
            refine lv_iload_n S.1 S.2.1 dLaw_177 rfl (lv_at hl 3 rfl) ?_
            refine lv_iconst (v := 2) S.1 S.2.1 dLaw_178 (by decide) ?_
            refine lv_iadd S.1 S.2.1 dLaw_179 ?_
            refine va_sld S.1 S.2.1 hX hbl hbA hI.2.2.2.2.2 (lin 2 (by decide)) dLaw_180 ?_
            refine lv_aload_n S.1 S.2.1 dLaw_181 rfl (lv_at hl 0 rfl) ?_
            refine lv_iload_n S.1 S.2.1 dLaw_182 rfl (lv_at hl 3 rfl) ?_
            refine lv_iconst (v := 3) S.1 S.2.1 dLaw_183 (by decide) ?_
            refine lv_iadd S.1 S.2.1 dLaw_184 ?_
            refine va_sld S.1 S.2.1 hX hbl hbA hI.2.2.2.2.2 (lin 3 (by decide)) dLaw_185 ?_
            refine lm_i (As := [.int (xs (Int32.toNatClampNeg ((nI (1 + 4 * j)) + 1))), .int (xs (Int32.toNatClampNeg ((nI (1 + 4 * j)) + 2))), .int (xs (Int32.toNatClampNeg ((nI (1 + 4 * j)) + 3)))]) (rest := [.int r1]) S hK hT hN hI (fun A hJ => cMod_operation l D cI cC cE adm A hJ _ _ _ _ _ hw) caLaw_29 ⟨Nat.le_of_ble_eq_true rfl, Nat.le_of_ble_eq_true rfl⟩ ⟨rfl, rfl⟩ rfl hl.1 rfl (Nat.le_of_ble_eq_true rfl) dLaw_186 ⟨by have := lw_rc; show _ ≤ room_1.cells; omega, by have := lw_rs; show _ ≤ room_1.slots; omega⟩ (fun r2 g1 H2 locs2 hw hI => ?_)
            refine lv_icmp_eq S.1 S.2.1 dLaw_189 rfl (fun hc => ?_) (fun hc => absurd hw.1 hc)
            exact J477 ad n ln h1 g1 H2 locs2 ls hw.2 hI hl
          · by_cases c2 : xs (Int32.toNatClampNeg (nI (1 + 4 * j))) &&& 15 = 2
            · refine lv_tableIn (off := 152) S.1 S.2.1 dLaw_42 (by rw [c2]; decide) (by rw [c2]; decide) (by rw [c2]; rfl) rfl ?_
              refine lv_aload_n S.1 S.2.1 dLaw_194 rfl (lv_at hl 1 rfl) ?_
              refine lv_aload_n S.1 S.2.1 dLaw_195 rfl (lv_at hl 0 rfl) ?_
              refine lv_iload_n S.1 S.2.1 dLaw_196 rfl (lv_at hl 3 rfl) ?_
              refine lv_iconst (v := 1) S.1 S.2.1 dLaw_197 (by decide) ?_
              refine lv_iadd S.1 S.2.1 dLaw_198 ?_
              refine va_sld S.1 S.2.1 hX hbl hbA hI.2.2.2.2.2 (lin 1 (by decide)) dLaw_199 ?_
              have hw := H_literal n ln h g (xs (Int32.toNatClampNeg ((nI (1 + 4 * j)) + 1))) hR
              refine lc_i (As := [.int (xs (Int32.toNatClampNeg ((nI (1 + 4 * j)) + 1)))]) (rest := []) S hK hT hN hI (fun A hJ => cTop_literal l D cI cC cE ad n ln A hJ _ _ _ hw) caLaw_30 ⟨Nat.le_of_ble_eq_true rfl, Nat.le_of_ble_eq_true rfl⟩ ⟨rfl, rfl⟩ rfl hl.1 rfl (Nat.le_of_ble_eq_true rfl) dLaw_200 ⟨by have := lw_rc; show _ ≤ room_1.cells; omega, by have := lw_rs; show _ ≤ room_1.slots; omega⟩ (fun r1 h1 H1 locs1 hw hI => ?_)
              refine W.widen (k := 62 + 80 * j + 80) (n := 3817 + 1580 * j + 1580) (by omega) (by omega) ?_
              refine lv_aload_n S.1 S.2.1 dLaw_203 rfl (lv_at hl 2 rfl) ?_
              refine lv_aload_n S.1 S.2.1 dLaw_204 rfl (lv_at hl 0 rfl) ?_
              refine lv_iload_n S.1 S.2.1 dLaw_205 rfl (lv_at hl 3 rfl) ?_
              refine lv_iconst (v := 1) S.1 S.2.1 dLaw_206 (by decide) ?_
              refine lv_iadd S.1 S.2.1 dLaw_207 ?_
              refine va_sld S.1 S.2.1 hX hbl hbA hI.2.2.2.2.2 (lin 1 (by decide)) dLaw_208 ?_
              refine lm_i (As := [.int (xs (Int32.toNatClampNeg ((nI (1 + 4 * j)) + 1)))]) (rest := [.int r1]) S hK hT hN hI (fun A hJ => cMod_literal l D cI cC cE adm A hJ _ _ _ hw) caLaw_34 ⟨Nat.le_of_ble_eq_true rfl, Nat.le_of_ble_eq_true rfl⟩ ⟨rfl, rfl⟩ rfl hl.1 rfl (Nat.le_of_ble_eq_true rfl) dLaw_209 ⟨by have := lw_rc; show _ ≤ room_1.cells; omega, by have := lw_rs; show _ ≤ room_1.slots; omega⟩ (fun r2 g1 H2 locs2 hw hI => ?_)
              refine lv_icmp_eq S.1 S.2.1 dLaw_212 rfl (fun hc => ?_) (fun hc => absurd hw.1 hc)
              exact J477 ad n ln h1 g1 H2 locs2 ls hw.2 hI hl
            · by_cases c3 : xs (Int32.toNatClampNeg (nI (1 + 4 * j))) &&& 15 = 3
              · refine lv_tableIn (off := 175) S.1 S.2.1 dLaw_42 (by rw [c3]; decide) (by rw [c3]; decide) (by rw [c3]; rfl) rfl ?_
                refine lv_aload_n S.1 S.2.1 dLaw_217 rfl (lv_at hl 1 rfl) ?_
                have hw := H_step n ln h g hR
                refine lc_a (As := []) (rest := []) S hK hT hN hI (fun A hJ hA => cTop_step l D cI cC cE ad n ln A hJ H.size hA _ _ hw) caLaw_35 ⟨Nat.le_of_ble_eq_true rfl, Nat.le_of_ble_eq_true rfl⟩ ⟨rfl, rfl⟩ rfl hl.1 rfl (Nat.le_of_ble_eq_true rfl) dLaw_218 ⟨by have := lw_rc; show _ + 4 ≤ room_1.cells; omega, by have := lw_rs; show _ + 79 ≤ room_1.slots; omega⟩ (fun r1 ad1 n1 ln1 h1 H1 locs1 hw e0 hI => ?_)
                have hl : lv_has ls 4 [(0, .ref b), (1, .ref (ad1 0)), (2, .ref (adm 0)), (3, .int (nI (1 + 4 * j)))] := by rw [e0]; exact hl
                refine W.widen (k := 62 + 80 * j + 80) (n := 3817 + 1580 * j + 1580) (by omega) (by omega) ?_
                refine lv_aload_n S.1 S.2.1 dLaw_221 rfl (lv_at hl 2 rfl) ?_
                refine lm_i (As := []) (rest := [.int r1]) S hK hT hN hI (fun A hJ => cMod_step l D cI cC cE adm A hJ _ _ hw) caLaw_39 ⟨Nat.le_of_ble_eq_true rfl, Nat.le_of_ble_eq_true rfl⟩ ⟨rfl, rfl⟩ rfl hl.1 rfl (Nat.le_of_ble_eq_true rfl) dLaw_222 ⟨by have := lw_rc; show _ ≤ room_1.cells; omega, by have := lw_rs; show _ ≤ room_1.slots; omega⟩ (fun r2 g1 H2 locs2 hw hI => ?_)
                refine lv_icmp_eq S.1 S.2.1 dLaw_225 rfl (fun hc => ?_) (fun hc => absurd hw.1 hc)
                exact J477 ad1 n1 ln1 h1 g1 H2 locs2 ls hw.2 hI hl
              · by_cases c4 : xs (Int32.toNatClampNeg (nI (1 + 4 * j))) &&& 15 = 4
                · refine lv_tableIn (off := 188) S.1 S.2.1 dLaw_42 (by rw [c4]; decide) (by rw [c4]; decide) (by rw [c4]; rfl) rfl ?_
                  refine lv_aload_n S.1 S.2.1 dLaw_230 rfl (lv_at hl 1 rfl) ?_
                  refine lv_aload_n S.1 S.2.1 dLaw_231 rfl (lv_at hl 0 rfl) ?_
                  refine lv_iload_n S.1 S.2.1 dLaw_232 rfl (lv_at hl 3 rfl) ?_
                  refine lv_iconst (v := 1) S.1 S.2.1 dLaw_233 (by decide) ?_
                  refine lv_iadd S.1 S.2.1 dLaw_234 ?_
                  refine va_sld S.1 S.2.1 hX hbl hbA hI.2.2.2.2.2 (lin 1 (by decide)) dLaw_235 ?_
                  have hw := H_seek n ln h g (xs (Int32.toNatClampNeg ((nI (1 + 4 * j)) + 1))) hR
                  refine lc_a (As := [.int (xs (Int32.toNatClampNeg ((nI (1 + 4 * j)) + 1)))]) (rest := []) S hK hT hN hI (fun A hJ hA => cTop_seek l D cI cC cE ad n ln A hJ H.size hA _ _ _ hw) caLaw_40 ⟨Nat.le_of_ble_eq_true rfl, Nat.le_of_ble_eq_true rfl⟩ ⟨rfl, rfl⟩ rfl hl.1 rfl (Nat.le_of_ble_eq_true rfl) dLaw_236 ⟨by have := lw_rc; show _ + 80 ≤ room_1.cells; omega, by have := lw_rs; show _ + 1580 ≤ room_1.slots; omega⟩ (fun r1 ad1 n1 ln1 h1 H1 locs1 hw e0 hI => ?_)
                  have hl : lv_has ls 4 [(0, .ref b), (1, .ref (ad1 0)), (2, .ref (adm 0)), (3, .int (nI (1 + 4 * j)))] := by rw [e0]; exact hl
                  refine W.widen (k := 62 + 80 * j + 80) (n := 3817 + 1580 * j + 1580) (by omega) (by omega) ?_
                  refine lv_aload_n S.1 S.2.1 dLaw_239 rfl (lv_at hl 2 rfl) ?_
                  refine lv_aload_n S.1 S.2.1 dLaw_240 rfl (lv_at hl 0 rfl) ?_
                  refine lv_iload_n S.1 S.2.1 dLaw_241 rfl (lv_at hl 3 rfl) ?_
                  refine lv_iconst (v := 1) S.1 S.2.1 dLaw_242 (by decide) ?_
                  refine lv_iadd S.1 S.2.1 dLaw_243 ?_
                  refine va_sld S.1 S.2.1 hX hbl hbA hI.2.2.2.2.2 (lin 1 (by decide)) dLaw_244 ?_
                  refine lm_i (As := [.int (xs (Int32.toNatClampNeg ((nI (1 + 4 * j)) + 1)))]) (rest := [.int r1]) S hK hT hN hI (fun A hJ => cMod_seek l D cI cC cE adm A hJ _ _ _ hw) caLaw_43 ⟨Nat.le_of_ble_eq_true rfl, Nat.le_of_ble_eq_true rfl⟩ ⟨rfl, rfl⟩ rfl hl.1 rfl (Nat.le_of_ble_eq_true rfl) dLaw_245 ⟨by have := lw_rc; show _ ≤ room_1.cells; omega, by have := lw_rs; show _ ≤ room_1.slots; omega⟩ (fun r2 g1 H2 locs2 hw hI => ?_)
                  refine lv_icmp_eq S.1 S.2.1 dLaw_248 rfl (fun hc => ?_) (fun hc => absurd hw.1 hc)
                  exact J477 ad1 n1 ln1 h1 g1 H2 locs2 ls hw.2 hI hl
                · by_cases c5 : xs (Int32.toNatClampNeg (nI (1 + 4 * j))) &&& 15 = 5
                  · refine lv_tableIn (off := 211) S.1 S.2.1 dLaw_42 (by rw [c5]; decide) (by rw [c5]; decide) (by rw [c5]; rfl) rfl ?_
                    refine lv_aload_n S.1 S.2.1 dLaw_253 rfl (lv_at hl 1 rfl) ?_
                    refine lv_aload_n S.1 S.2.1 dLaw_254 rfl (lv_at hl 0 rfl) ?_
                    refine lv_iload_n S.1 S.2.1 dLaw_255 rfl (lv_at hl 3 rfl) ?_
                    refine lv_iconst (v := 1) S.1 S.2.1 dLaw_256 (by decide) ?_
                    refine lv_iadd S.1 S.2.1 dLaw_257 ?_
                    refine va_sld S.1 S.2.1 hX hbl hbA hI.2.2.2.2.2 (lin 1 (by decide)) dLaw_258 ?_
                    have hw := H_shorten n ln h g (xs (Int32.toNatClampNeg ((nI (1 + 4 * j)) + 1))) hR
                    refine lc_i (As := [.int (xs (Int32.toNatClampNeg ((nI (1 + 4 * j)) + 1)))]) (rest := []) S hK hT hN hI (fun A hJ => cTop_shorten l D cI cC cE ad n ln A hJ _ _ _ hw) caLaw_44 ⟨Nat.le_of_ble_eq_true rfl, Nat.le_of_ble_eq_true rfl⟩ ⟨rfl, rfl⟩ rfl hl.1 rfl (Nat.le_of_ble_eq_true rfl) dLaw_259 ⟨by have := lw_rc; show _ ≤ room_1.cells; omega, by have := lw_rs; show _ ≤ room_1.slots; omega⟩ (fun r1 h1 H1 locs1 hw hI => ?_)
                    refine W.widen (k := 62 + 80 * j + 80) (n := 3817 + 1580 * j + 1580) (by omega) (by omega) ?_
                    refine lv_aload_n S.1 S.2.1 dLaw_262 rfl (lv_at hl 2 rfl) ?_
                    refine lv_aload_n S.1 S.2.1 dLaw_263 rfl (lv_at hl 0 rfl) ?_
                    refine lv_iload_n S.1 S.2.1 dLaw_264 rfl (lv_at hl 3 rfl) ?_
                    refine lv_iconst (v := 1) S.1 S.2.1 dLaw_265 (by decide) ?_
                    refine lv_iadd S.1 S.2.1 dLaw_266 ?_
                    refine va_sld S.1 S.2.1 hX hbl hbA hI.2.2.2.2.2 (lin 1 (by decide)) dLaw_267 ?_
                    refine lm_i (As := [.int (xs (Int32.toNatClampNeg ((nI (1 + 4 * j)) + 1)))]) (rest := [.int r1]) S hK hT hN hI (fun A hJ => cMod_shorten l D cI cC cE adm A hJ _ _ _ hw) caLaw_47 ⟨Nat.le_of_ble_eq_true rfl, Nat.le_of_ble_eq_true rfl⟩ ⟨rfl, rfl⟩ rfl hl.1 rfl (Nat.le_of_ble_eq_true rfl) dLaw_268 ⟨by have := lw_rc; show _ ≤ room_1.cells; omega, by have := lw_rs; show _ ≤ room_1.slots; omega⟩ (fun r2 g1 H2 locs2 hw hI => ?_)
                    refine lv_icmp_eq S.1 S.2.1 dLaw_271 rfl (fun hc => ?_) (fun hc => absurd hw.1 hc)
                    exact J477 ad n ln h1 g1 H2 locs2 ls hw.2 hI hl
                  · by_cases c6 : xs (Int32.toNatClampNeg (nI (1 + 4 * j))) &&& 15 = 6
                    · refine lv_tableIn (off := 234) S.1 S.2.1 dLaw_42 (by rw [c6]; decide) (by rw [c6]; decide) (by rw [c6]; rfl) rfl ?_
                      refine lv_aload_n S.1 S.2.1 dLaw_276 rfl (lv_at hl 1 rfl) ?_
                      have hw := H_entries n ln h g hR
                      refine lc_i (As := []) (rest := []) S hK hT hN hI (fun A hJ => cTop_entries l D cI cC cE ad n ln A hJ _ _ hw) caLaw_48 ⟨Nat.le_of_ble_eq_true rfl, Nat.le_of_ble_eq_true rfl⟩ ⟨rfl, rfl⟩ rfl hl.1 rfl (Nat.le_of_ble_eq_true rfl) dLaw_277 ⟨by have := lw_rc; show _ ≤ room_1.cells; omega, by have := lw_rs; show _ ≤ room_1.slots; omega⟩ (fun r1 h1 H1 locs1 hw hI => ?_)
                      refine W.widen (k := 62 + 80 * j + 80) (n := 3817 + 1580 * j + 1580) (by omega) (by omega) ?_
                      refine lv_aload_n S.1 S.2.1 dLaw_280 rfl (lv_at hl 2 rfl) ?_
                      refine lm_i (As := []) (rest := [.int r1]) S hK hT hN hI (fun A hJ => cMod_entries l D cI cC cE adm A hJ _ _ hw) caLaw_51 ⟨Nat.le_of_ble_eq_true rfl, Nat.le_of_ble_eq_true rfl⟩ ⟨rfl, rfl⟩ rfl hl.1 rfl (Nat.le_of_ble_eq_true rfl) dLaw_281 ⟨by have := lw_rc; show _ ≤ room_1.cells; omega, by have := lw_rs; show _ ≤ room_1.slots; omega⟩ (fun r2 g1 H2 locs2 hw hI => ?_)
                      refine lv_icmp_eq S.1 S.2.1 dLaw_284 rfl (fun hc => ?_) (fun hc => absurd hw.1 hc)
                      exact J477 ad n ln h1 g1 H2 locs2 ls hw.2 hI hl
                    · by_cases c7 : xs (Int32.toNatClampNeg (nI (1 + 4 * j))) &&& 15 = 7
                      · refine lv_tableIn (off := 247) S.1 S.2.1 dLaw_42 (by rw [c7]; decide) (by rw [c7]; decide) (by rw [c7]; rfl) rfl ?_
                        refine lv_aload_n S.1 S.2.1 dLaw_289 rfl (lv_at hl 1 rfl) ?_
                        refine lv_aload_n S.1 S.2.1 dLaw_290 rfl (lv_at hl 0 rfl) ?_
                        refine lv_iload_n S.1 S.2.1 dLaw_291 rfl (lv_at hl 3 rfl) ?_
                        refine lv_iconst (v := 1) S.1 S.2.1 dLaw_292 (by decide) ?_
                        refine lv_iadd S.1 S.2.1 dLaw_293 ?_
                        refine va_sld S.1 S.2.1 hX hbl hbA hI.2.2.2.2.2 (lin 1 (by decide)) dLaw_294 ?_
                        refine lv_aload_n S.1 S.2.1 dLaw_295 rfl (lv_at hl 0 rfl) ?_
                        refine lv_iload_n S.1 S.2.1 dLaw_296 rfl (lv_at hl 3 rfl) ?_
                        refine lv_iconst (v := 2) S.1 S.2.1 dLaw_297 (by decide) ?_
                        refine lv_iadd S.1 S.2.1 dLaw_298 ?_
                        refine va_sld S.1 S.2.1 hX hbl hbA hI.2.2.2.2.2 (lin 2 (by decide)) dLaw_299 ?_
                        have hw := H_entry n ln h g (xs (Int32.toNatClampNeg ((nI (1 + 4 * j)) + 1))) (xs (Int32.toNatClampNeg ((nI (1 + 4 * j)) + 2))) hR
                        refine lc_i (As := [.int (xs (Int32.toNatClampNeg ((nI (1 + 4 * j)) + 1))), .int (xs (Int32.toNatClampNeg ((nI (1 + 4 * j)) + 2)))]) (rest := []) S hK hT hN hI (fun A hJ => cTop_entry l D cI cC cE ad n ln A hJ _ _ _ _ hw) caLaw_52 ⟨Nat.le_of_ble_eq_true rfl, Nat.le_of_ble_eq_true rfl⟩ ⟨rfl, rfl⟩ rfl hl.1 rfl (Nat.le_of_ble_eq_true rfl) dLaw_300 ⟨by have := lw_rc; show _ ≤ room_1.cells; omega, by have := lw_rs; show _ ≤ room_1.slots; omega⟩ (fun r1 h1 H1 locs1 hw hI => ?_)
                        refine W.widen (k := 62 + 80 * j + 80) (n := 3817 + 1580 * j + 1580) (by omega) (by omega) ?_
                        refine lv_aload_n S.1 S.2.1 dLaw_303 rfl (lv_at hl 2 rfl) ?_
                        refine lv_aload_n S.1 S.2.1 dLaw_304 rfl (lv_at hl 0 rfl) ?_
                        refine lv_iload_n S.1 S.2.1 dLaw_305 rfl (lv_at hl 3 rfl) ?_
                        refine lv_iconst (v := 1) S.1 S.2.1 dLaw_306 (by decide) ?_
                        refine lv_iadd S.1 S.2.1 dLaw_307 ?_
                        refine va_sld S.1 S.2.1 hX hbl hbA hI.2.2.2.2.2 (lin 1 (by decide)) dLaw_308 ?_
                        refine lv_aload_n S.1 S.2.1 dLaw_309 rfl (lv_at hl 0 rfl) ?_
                        refine lv_iload_n S.1 S.2.1 dLaw_310 rfl (lv_at hl 3 rfl) ?_
                        refine lv_iconst (v := 2) S.1 S.2.1 dLaw_311 (by decide) ?_
                        refine lv_iadd S.1 S.2.1 dLaw_312 ?_
                        refine va_sld S.1 S.2.1 hX hbl hbA hI.2.2.2.2.2 (lin 2 (by decide)) dLaw_313 ?_
                        refine lm_i (As := [.int (xs (Int32.toNatClampNeg ((nI (1 + 4 * j)) + 1))), .int (xs (Int32.toNatClampNeg ((nI (1 + 4 * j)) + 2)))]) (rest := [.int r1]) S hK hT hN hI (fun A hJ => cMod_entry l D cI cC cE adm A hJ _ _ _ _ hw) caLaw_56 ⟨Nat.le_of_ble_eq_true rfl, Nat.le_of_ble_eq_true rfl⟩ ⟨rfl, rfl⟩ rfl hl.1 rfl (Nat.le_of_ble_eq_true rfl) dLaw_314 ⟨by have := lw_rc; show _ ≤ room_1.cells; omega, by have := lw_rs; show _ ≤ room_1.slots; omega⟩ (fun r2 g1 H2 locs2 hw hI => ?_)
                        refine lv_icmp_eq S.1 S.2.1 dLaw_317 rfl (fun hc => ?_) (fun hc => absurd hw.1 hc)
                        exact J477 ad n ln h1 g1 H2 locs2 ls hw.2 hI hl
                      · by_cases c8 : xs (Int32.toNatClampNeg (nI (1 + 4 * j))) &&& 15 = 8
                        · refine lv_tableIn (off := 280) S.1 S.2.1 dLaw_42 (by rw [c8]; decide) (by rw [c8]; decide) (by rw [c8]; rfl) rfl ?_
                          refine lv_aload_n S.1 S.2.1 dLaw_322 rfl (lv_at hl 1 rfl) ?_
                          refine lv_aload_n S.1 S.2.1 dLaw_323 rfl (lv_at hl 0 rfl) ?_
                          refine lv_iload_n S.1 S.2.1 dLaw_324 rfl (lv_at hl 3 rfl) ?_
                          refine lv_iconst (v := 1) S.1 S.2.1 dLaw_325 (by decide) ?_
                          refine lv_iadd S.1 S.2.1 dLaw_326 ?_
                          refine va_sld S.1 S.2.1 hX hbl hbA hI.2.2.2.2.2 (lin 1 (by decide)) dLaw_327 ?_
                          refine lv_aload_n S.1 S.2.1 dLaw_328 rfl (lv_at hl 0 rfl) ?_
                          refine lv_iload_n S.1 S.2.1 dLaw_329 rfl (lv_at hl 3 rfl) ?_
                          refine lv_iconst (v := 2) S.1 S.2.1 dLaw_330 (by decide) ?_
                          refine lv_iadd S.1 S.2.1 dLaw_331 ?_
                          refine va_sld S.1 S.2.1 hX hbl hbA hI.2.2.2.2.2 (lin 2 (by decide)) dLaw_332 ?_
                          refine lv_aload_n S.1 S.2.1 dLaw_333 rfl (lv_at hl 0 rfl) ?_
                          refine lv_iload_n S.1 S.2.1 dLaw_334 rfl (lv_at hl 3 rfl) ?_
                          refine lv_iconst (v := 3) S.1 S.2.1 dLaw_335 (by decide) ?_
                          refine lv_iadd S.1 S.2.1 dLaw_336 ?_
                          refine va_sld S.1 S.2.1 hX hbl hbA hI.2.2.2.2.2 (lin 3 (by decide)) dLaw_337 ?_
                          have hw := H_statement n ln h g (xs (Int32.toNatClampNeg ((nI (1 + 4 * j)) + 1))) (xs (Int32.toNatClampNeg ((nI (1 + 4 * j)) + 2))) (xs (Int32.toNatClampNeg ((nI (1 + 4 * j)) + 3))) hR
                          refine lc_i (As := [.int (xs (Int32.toNatClampNeg ((nI (1 + 4 * j)) + 1))), .int (xs (Int32.toNatClampNeg ((nI (1 + 4 * j)) + 2))), .int (xs (Int32.toNatClampNeg ((nI (1 + 4 * j)) + 3)))]) (rest := []) S hK hT hN hI (fun A hJ => cTop_statement l D cI cC cE ad n ln A hJ _ _ _ _ _ hw) caLaw_57 ⟨Nat.le_of_ble_eq_true rfl, Nat.le_of_ble_eq_true rfl⟩ ⟨rfl, rfl⟩ rfl hl.1 rfl (Nat.le_of_ble_eq_true rfl) dLaw_338 ⟨by have := lw_rc; show _ ≤ room_1.cells; omega, by have := lw_rs; show _ ≤ room_1.slots; omega⟩ (fun r1 h1 H1 locs1 hw hI => ?_)
                          refine W.widen (k := 62 + 80 * j + 80) (n := 3817 + 1580 * j + 1580) (by omega) (by omega) ?_
                          refine lv_aload_n S.1 S.2.1 dLaw_341 rfl (lv_at hl 2 rfl) ?_
                          refine lv_aload_n S.1 S.2.1 dLaw_342 rfl (lv_at hl 0 rfl) ?_
                          refine lv_iload_n S.1 S.2.1 dLaw_343 rfl (lv_at hl 3 rfl) ?_
                          refine lv_iconst (v := 1) S.1 S.2.1 dLaw_344 (by decide) ?_
                          refine lv_iadd S.1 S.2.1 dLaw_345 ?_
                          refine va_sld S.1 S.2.1 hX hbl hbA hI.2.2.2.2.2 (lin 1 (by decide)) dLaw_346 ?_
                          refine lv_aload_n S.1 S.2.1 dLaw_347 rfl (lv_at hl 0 rfl) ?_
                          refine lv_iload_n S.1 S.2.1 dLaw_348 rfl (lv_at hl 3 rfl) ?_
                          refine lv_iconst (v := 2) S.1 S.2.1 dLaw_349 (by decide) ?_
                          refine lv_iadd S.1 S.2.1 dLaw_350 ?_
                          refine va_sld S.1 S.2.1 hX hbl hbA hI.2.2.2.2.2 (lin 2 (by decide)) dLaw_351 ?_
                          refine lv_aload_n S.1 S.2.1 dLaw_352 rfl (lv_at hl 0 rfl) ?_
                          refine lv_iload_n S.1 S.2.1 dLaw_353 rfl (lv_at hl 3 rfl) ?_
                          refine lv_iconst (v := 3) S.1 S.2.1 dLaw_354 (by decide) ?_
                          refine lv_iadd S.1 S.2.1 dLaw_355 ?_
                          refine va_sld S.1 S.2.1 hX hbl hbA hI.2.2.2.2.2 (lin 3 (by decide)) dLaw_356 ?_
                          refine lm_i (As := [.int (xs (Int32.toNatClampNeg ((nI (1 + 4 * j)) + 1))), .int (xs (Int32.toNatClampNeg ((nI (1 + 4 * j)) + 2))), .int (xs (Int32.toNatClampNeg ((nI (1 + 4 * j)) + 3)))]) (rest := [.int r1]) S hK hT hN hI (fun A hJ => cMod_statement l D cI cC cE adm A hJ _ _ _ _ _ hw) caLaw_60 ⟨Nat.le_of_ble_eq_true rfl, Nat.le_of_ble_eq_true rfl⟩ ⟨rfl, rfl⟩ rfl hl.1 rfl (Nat.le_of_ble_eq_true rfl) dLaw_357 ⟨by have := lw_rc; show _ ≤ room_1.cells; omega, by have := lw_rs; show _ ≤ room_1.slots; omega⟩ (fun r2 g1 H2 locs2 hw hI => ?_)
                          refine lv_icmp_eq S.1 S.2.1 dLaw_360 rfl (fun hc => ?_) (fun hc => absurd hw.1 hc)
                          exact J477 ad n ln h1 g1 H2 locs2 ls hw.2 hI hl
                        · by_cases c9 : xs (Int32.toNatClampNeg (nI (1 + 4 * j))) &&& 15 = 9
                          · refine lv_tableIn (off := 323) S.1 S.2.1 dLaw_42 (by rw [c9]; decide) (by rw [c9]; decide) (by rw [c9]; rfl) rfl ?_
                            refine lv_aload_n S.1 S.2.1 dLaw_365 rfl (lv_at hl 1 rfl) ?_
                            refine lv_aload_n S.1 S.2.1 dLaw_366 rfl (lv_at hl 0 rfl) ?_
                            refine lv_iload_n S.1 S.2.1 dLaw_367 rfl (lv_at hl 3 rfl) ?_
                            refine lv_iconst (v := 1) S.1 S.2.1 dLaw_368 (by decide) ?_
                            refine lv_iadd S.1 S.2.1 dLaw_369 ?_
                            refine va_sld S.1 S.2.1 hX hbl hbA hI.2.2.2.2.2 (lin 1 (by decide)) dLaw_370 ?_
                            refine lv_aload_n S.1 S.2.1 dLaw_371 rfl (lv_at hl 0 rfl) ?_
                            refine lv_iload_n S.1 S.2.1 dLaw_372 rfl (lv_at hl 3 rfl) ?_
                            refine lv_iconst (v := 2) S.1 S.2.1 dLaw_373 (by decide) ?_
                            refine lv_iadd S.1 S.2.1 dLaw_374 ?_
                            refine va_sld S.1 S.2.1 hX hbl hbA hI.2.2.2.2.2 (lin 2 (by decide)) dLaw_375 ?_
                            have hw := H_text n ln h g (xs (Int32.toNatClampNeg ((nI (1 + 4 * j)) + 1))) (xs (Int32.toNatClampNeg ((nI (1 + 4 * j)) + 2))) hR
                            refine lc_i (As := [.int (xs (Int32.toNatClampNeg ((nI (1 + 4 * j)) + 1))), .int (xs (Int32.toNatClampNeg ((nI (1 + 4 * j)) + 2)))]) (rest := []) S hK hT hN hI (fun A hJ => cTop_text l D cI cC cE ad n ln A hJ _ _ _ _ hw) caLaw_61 ⟨Nat.le_of_ble_eq_true rfl, Nat.le_of_ble_eq_true rfl⟩ ⟨rfl, rfl⟩ rfl hl.1 rfl (Nat.le_of_ble_eq_true rfl) dLaw_376 ⟨by have := lw_rc; show _ ≤ room_1.cells; omega, by have := lw_rs; show _ ≤ room_1.slots; omega⟩ (fun r1 h1 H1 locs1 hw hI => ?_)
                            refine W.widen (k := 62 + 80 * j + 80) (n := 3817 + 1580 * j + 1580) (by omega) (by omega) ?_
                            refine lv_aload_n S.1 S.2.1 dLaw_379 rfl (lv_at hl 2 rfl) ?_
                            refine lv_aload_n S.1 S.2.1 dLaw_380 rfl (lv_at hl 0 rfl) ?_
                            refine lv_iload_n S.1 S.2.1 dLaw_381 rfl (lv_at hl 3 rfl) ?_
                            refine lv_iconst (v := 1) S.1 S.2.1 dLaw_382 (by decide) ?_
                            refine lv_iadd S.1 S.2.1 dLaw_383 ?_
                            refine va_sld S.1 S.2.1 hX hbl hbA hI.2.2.2.2.2 (lin 1 (by decide)) dLaw_384 ?_
                            refine lv_aload_n S.1 S.2.1 dLaw_385 rfl (lv_at hl 0 rfl) ?_
                            refine lv_iload_n S.1 S.2.1 dLaw_386 rfl (lv_at hl 3 rfl) ?_
                            refine lv_iconst (v := 2) S.1 S.2.1 dLaw_387 (by decide) ?_
                            refine lv_iadd S.1 S.2.1 dLaw_388 ?_
                            refine va_sld S.1 S.2.1 hX hbl hbA hI.2.2.2.2.2 (lin 2 (by decide)) dLaw_389 ?_
                            refine lm_i (As := [.int (xs (Int32.toNatClampNeg ((nI (1 + 4 * j)) + 1))), .int (xs (Int32.toNatClampNeg ((nI (1 + 4 * j)) + 2)))]) (rest := [.int r1]) S hK hT hN hI (fun A hJ => cMod_text l D cI cC cE adm A hJ _ _ _ _ hw) caLaw_64 ⟨Nat.le_of_ble_eq_true rfl, Nat.le_of_ble_eq_true rfl⟩ ⟨rfl, rfl⟩ rfl hl.1 rfl (Nat.le_of_ble_eq_true rfl) dLaw_390 ⟨by have := lw_rc; show _ ≤ room_1.cells; omega, by have := lw_rs; show _ ≤ room_1.slots; omega⟩ (fun r2 g1 H2 locs2 hw hI => ?_)
                            refine lv_icmp_eq S.1 S.2.1 dLaw_393 rfl (fun hc => ?_) (fun hc => absurd hw.1 hc)
                            exact J477 ad n ln h1 g1 H2 locs2 ls hw.2 hI hl
                          · by_cases c10 : xs (Int32.toNatClampNeg (nI (1 + 4 * j))) &&& 15 = 10
                            · refine lv_tableIn (off := 356) S.1 S.2.1 dLaw_42 (by rw [c10]; decide) (by rw [c10]; decide) (by rw [c10]; rfl) rfl ?_
                              refine lv_aload_n S.1 S.2.1 dLaw_398 rfl (lv_at hl 1 rfl) ?_
                              refine lv_aload_n S.1 S.2.1 dLaw_399 rfl (lv_at hl 0 rfl) ?_
                              refine lv_iload_n S.1 S.2.1 dLaw_400 rfl (lv_at hl 3 rfl) ?_
                              refine lv_iconst (v := 1) S.1 S.2.1 dLaw_401 (by decide) ?_
                              refine lv_iadd S.1 S.2.1 dLaw_402 ?_
                              refine va_sld S.1 S.2.1 hX hbl hbA hI.2.2.2.2.2 (lin 1 (by decide)) dLaw_403 ?_
                              refine lv_i2l S.1 S.2.1 dLaw_404 rfl ?_
                              refine lv_bipush (v := 32) S.1 S.2.1 dLaw_405 (by decide) ?_
                              refine lv_lshl S.1 S.2.1 dLaw_407 rfl ?_
                              refine lv_aload_n S.1 S.2.1 dLaw_408 rfl (lv_at hl 0 rfl) ?_
                              refine lv_iload_n S.1 S.2.1 dLaw_409 rfl (lv_at hl 3 rfl) ?_
                              refine lv_iconst (v := 2) S.1 S.2.1 dLaw_410 (by decide) ?_
                              refine lv_iadd S.1 S.2.1 dLaw_411 ?_
                              refine va_sld S.1 S.2.1 hX hbl hbA hI.2.2.2.2.2 (lin 2 (by decide)) dLaw_412 ?_
                              refine lv_i2l S.1 S.2.1 dLaw_413 rfl ?_
                              refine lv_ldc2 (v := 4294967295) S.1 S.2.1 S.2.2.2.1 (S.2.2.2.2 _ q1202) dLaw_414 ?_
                              refine lv_land S.1 S.2.1 dLaw_417 ?_
                              refine lv_lor S.1 S.2.1 dLaw_418 ?_
                              have hw := H_draft n ln h g (((Int32.toInt64 (xs (Int32.toNatClampNeg ((nI (1 + 4 * j)) + 1)))) <<< (Int32.toInt64 32 &&& 63)) ||| ((Int32.toInt64 (xs (Int32.toNatClampNeg ((nI (1 + 4 * j)) + 2)))) &&& 4294967295)) hR
                              refine lc_i (As := [.long (((Int32.toInt64 (xs (Int32.toNatClampNeg ((nI (1 + 4 * j)) + 1)))) <<< (Int32.toInt64 32 &&& 63)) ||| ((Int32.toInt64 (xs (Int32.toNatClampNeg ((nI (1 + 4 * j)) + 2)))) &&& 4294967295))]) (rest := []) S hK hT hN hI (fun A hJ => cTop_draft l D cI cC cE ad n ln A hJ _ _ _ hw) caLaw_67 ⟨Nat.le_of_ble_eq_true rfl, Nat.le_of_ble_eq_true rfl⟩ ⟨rfl, rfl⟩ rfl hl.1 rfl (Nat.le_of_ble_eq_true rfl) dLaw_419 ⟨by have := lw_rc; show _ ≤ room_1.cells; omega, by have := lw_rs; show _ ≤ room_1.slots; omega⟩ (fun r1 h1 H1 locs1 hw hI => ?_)
                              refine W.widen (k := 62 + 80 * j + 80) (n := 3817 + 1580 * j + 1580) (by omega) (by omega) ?_
                              refine lv_aload_n S.1 S.2.1 dLaw_422 rfl (lv_at hl 2 rfl) ?_
                              refine lv_aload_n S.1 S.2.1 dLaw_423 rfl (lv_at hl 0 rfl) ?_
                              refine lv_iload_n S.1 S.2.1 dLaw_424 rfl (lv_at hl 3 rfl) ?_
                              refine lv_iconst (v := 1) S.1 S.2.1 dLaw_425 (by decide) ?_
                              refine lv_iadd S.1 S.2.1 dLaw_426 ?_
                              refine va_sld S.1 S.2.1 hX hbl hbA hI.2.2.2.2.2 (lin 1 (by decide)) dLaw_427 ?_
                              refine lv_i2l S.1 S.2.1 dLaw_428 rfl ?_
                              refine lv_bipush (v := 32) S.1 S.2.1 dLaw_429 (by decide) ?_
                              refine lv_lshl S.1 S.2.1 dLaw_431 rfl ?_
                              refine lv_aload_n S.1 S.2.1 dLaw_432 rfl (lv_at hl 0 rfl) ?_
                              refine lv_iload_n S.1 S.2.1 dLaw_433 rfl (lv_at hl 3 rfl) ?_
                              refine lv_iconst (v := 2) S.1 S.2.1 dLaw_434 (by decide) ?_
                              refine lv_iadd S.1 S.2.1 dLaw_435 ?_
                              refine va_sld S.1 S.2.1 hX hbl hbA hI.2.2.2.2.2 (lin 2 (by decide)) dLaw_436 ?_
                              refine lv_i2l S.1 S.2.1 dLaw_437 rfl ?_
                              refine lv_ldc2 (v := 4294967295) S.1 S.2.1 S.2.2.2.1 (S.2.2.2.2 _ q1202) dLaw_438 ?_
                              refine lv_land S.1 S.2.1 dLaw_441 ?_
                              refine lv_lor S.1 S.2.1 dLaw_442 ?_
                              refine lm_i (As := [.long (((Int32.toInt64 (xs (Int32.toNatClampNeg ((nI (1 + 4 * j)) + 1)))) <<< (Int32.toInt64 32 &&& 63)) ||| ((Int32.toInt64 (xs (Int32.toNatClampNeg ((nI (1 + 4 * j)) + 2)))) &&& 4294967295))]) (rest := [.int r1]) S hK hT hN hI (fun A hJ => cMod_draft l D cI cC cE adm A hJ _ _ _ hw) caLaw_71 ⟨Nat.le_of_ble_eq_true rfl, Nat.le_of_ble_eq_true rfl⟩ ⟨rfl, rfl⟩ rfl hl.1 rfl (Nat.le_of_ble_eq_true rfl) dLaw_443 ⟨by have := lw_rc; show _ ≤ room_1.cells; omega, by have := lw_rs; show _ ≤ room_1.slots; omega⟩ (fun r2 g1 H2 locs2 hw hI => ?_)
                              refine lv_icmp_eq S.1 S.2.1 dLaw_446 rfl (fun hc => ?_) (fun hc => absurd hw.1 hc)
                              exact J477 ad n ln h1 g1 H2 locs2 ls hw.2 hI hl
                            · by_cases c11 : xs (Int32.toNatClampNeg (nI (1 + 4 * j))) &&& 15 = 11
                              · refine lv_tableIn (off := 409) S.1 S.2.1 dLaw_42 (by rw [c11]; decide) (by rw [c11]; decide) (by rw [c11]; rfl) rfl ?_
                                refine lv_aload_n S.1 S.2.1 dLaw_451 rfl (lv_at hl 1 rfl) ?_
                                have hw := H_replay n ln h g hR
                                refine lc_i (As := []) (rest := []) S hK hT hN hI (fun A hJ => cTop_replay l D cI cC cE ad n ln A hJ _ _ hw) caLaw_72 ⟨Nat.le_of_ble_eq_true rfl, Nat.le_of_ble_eq_true rfl⟩ ⟨rfl, rfl⟩ rfl hl.1 rfl (Nat.le_of_ble_eq_true rfl) dLaw_452 ⟨by have := lw_rc; show _ ≤ room_1.cells; omega, by have := lw_rs; show _ ≤ room_1.slots; omega⟩ (fun r1 h1 H1 locs1 hw hI => ?_)
                                refine W.widen (k := 62 + 80 * j + 80) (n := 3817 + 1580 * j + 1580) (by omega) (by omega) ?_
                                refine lv_aload_n S.1 S.2.1 dLaw_455 rfl (lv_at hl 2 rfl) ?_
                                refine lm_i (As := []) (rest := [.int r1]) S hK hT hN hI (fun A hJ => cMod_replay l D cI cC cE adm A hJ _ _ hw) caLaw_75 ⟨Nat.le_of_ble_eq_true rfl, Nat.le_of_ble_eq_true rfl⟩ ⟨rfl, rfl⟩ rfl hl.1 rfl (Nat.le_of_ble_eq_true rfl) dLaw_456 ⟨by have := lw_rc; show _ ≤ room_1.cells; omega, by have := lw_rs; show _ ≤ room_1.slots; omega⟩ (fun r2 g1 H2 locs2 hw hI => ?_)
                                refine lv_icmp_eq S.1 S.2.1 dLaw_459 rfl (fun hc => ?_) (fun hc => absurd hw.1 hc)
                                exact J477 ad n ln h1 g1 H2 locs2 ls hw.2 hI hl
                              · by_cases c12 : xs (Int32.toNatClampNeg (nI (1 + 4 * j))) &&& 15 = 12
                                · refine lv_tableIn (off := 422) S.1 S.2.1 dLaw_42 (by rw [c12]; decide) (by rw [c12]; decide) (by rw [c12]; rfl) rfl ?_
                                  refine lv_aload_n S.1 S.2.1 dLaw_464 rfl (lv_at hl 1 rfl) ?_
                                  have hw := H_state n ln h g hR
                                  refine lc_i (As := []) (rest := []) S hK hT hN hI (fun A hJ => cTop_state l D cI cC cE ad n ln A hJ _ _ hw) caLaw_76 ⟨Nat.le_of_ble_eq_true rfl, Nat.le_of_ble_eq_true rfl⟩ ⟨rfl, rfl⟩ rfl hl.1 rfl (Nat.le_of_ble_eq_true rfl) dLaw_465 ⟨by have := lw_rc; show _ ≤ room_1.cells; omega, by have := lw_rs; show _ ≤ room_1.slots; omega⟩ (fun r1 h1 H1 locs1 hw hI => ?_)
                                  refine W.widen (k := 62 + 80 * j + 80) (n := 3817 + 1580 * j + 1580) (by omega) (by omega) ?_
                                  refine lv_aload_n S.1 S.2.1 dLaw_468 rfl (lv_at hl 2 rfl) ?_
                                  refine lm_i (As := []) (rest := [.int r1]) S hK hT hN hI (fun A hJ => cMod_state l D cI cC cE adm A hJ _ _ hw) caLaw_79 ⟨Nat.le_of_ble_eq_true rfl, Nat.le_of_ble_eq_true rfl⟩ ⟨rfl, rfl⟩ rfl hl.1 rfl (Nat.le_of_ble_eq_true rfl) dLaw_469 ⟨by have := lw_rc; show _ ≤ room_1.cells; omega, by have := lw_rs; show _ ≤ room_1.slots; omega⟩ (fun r2 g1 H2 locs2 hw hI => ?_)
                                  refine lv_icmp_eq S.1 S.2.1 dLaw_472 rfl (fun hc => ?_) (fun hc => absurd hw.1 hc)
                                  exact J477 ad n ln h1 g1 H2 locs2 ls hw.2 hI hl
                                · refine lv_tableOut S.1 S.2.1 dLaw_42 (by have n0 := lv_neT c0 (show (0 : Int32).toInt = 0 from by decide); have n1 := lv_neT c1 (show (1 : Int32).toInt = 1 from by decide); have n2 := lv_neT c2 (show (2 : Int32).toInt = 2 from by decide); have n3 := lv_neT c3 (show (3 : Int32).toInt = 3 from by decide); have n4 := lv_neT c4 (show (4 : Int32).toInt = 4 from by decide); have n5 := lv_neT c5 (show (5 : Int32).toInt = 5 from by decide); have n6 := lv_neT c6 (show (6 : Int32).toInt = 6 from by decide); have n7 := lv_neT c7 (show (7 : Int32).toInt = 7 from by decide); have n8 := lv_neT c8 (show (8 : Int32).toInt = 8 from by decide); have n9 := lv_neT c9 (show (9 : Int32).toInt = 9 from by decide); have n10 := lv_neT c10 (show (10 : Int32).toInt = 10 from by decide); have n11 := lv_neT c11 (show (11 : Int32).toInt = 11 from by decide); have n12 := lv_neT c12 (show (12 : Int32).toInt = 12 from by decide); omega) rfl ?_
                                  refine W.widen (k := 62 + 80 * j + 80) (n := 3817 + 1580 * j + 1580) (by omega) (by omega) ?_
                                  exact J477 ad n ln h g H locs ls hR hI hl
  have hS : va_S (lA s) s.heap s.heap [] := va_S.rf
  have hA : ∀ q, s.heap.size ≤ q → lA s q := fun q h => h
  obtain ⟨x0, ex0⟩ : ∃ x : Int32, x = if 0 < L then xs 0 else 0 := ⟨_, rfl⟩
  have hcell : ∀ (H : Heap) (locs : List Loc) (cells slots pc : Nat) (ls : Array Slot) (rest : List Value) (hS : va_S (lA s) s.heap H locs) (hl : ls.size = 4) (hW : (rest.map fun v => v.category).sum ≤ 8) (hdg : decode code pc = .ok (.invokestatic 9, 3)) (hf : cells + 0 ≤ room_1.cells ∧ slots + 0 ≤ room_1.slots) (kk : W p l e room_1 s m #[Value.ref b] below meth c H locs cells slots (lw_Z below #[Value.ref b] s) (F0 m (pc + 3) ls (.int x0 :: rest))), W p l e room_1 s m #[Value.ref b] below meth c H locs cells slots (lw_Z below #[Value.ref b] s) (F0 m pc ls (.int 0 :: .ref b :: rest)) := by
    intro H locs cells slots pc ls rest hS hl hW hdg hf kk
    have hrun := W.runS (l := l) (e := e) (below := below) (meth := meth) (locs := locs) (cells := cells) (slots := slots) (H := H) (g := F0 m pc ls (.int 0 :: .ref b :: rest)) (As := [.ref b, .int 0]) (rest := rest) S (cLaw_cell l b L xs hL) (zCws (rm := rmLaw_cell) (R := room_1) S.2.2.2.2 caLaw_9 ⟨Nat.le_of_ble_eq_true rfl, Nat.le_of_ble_eq_true rfl⟩ rfl rfl) ⟨fun a U g mk q => ⟨q.1, va_X.moved (u := U) (U := U.calling g mk a) (Vm.Alike.refl U.vm) q.2.1, q.2.2⟩, fun U hU hW => ⟨rfl, by rw [hU]; exact (hX.kept (hS.2.1 b hbl hbA)).moved hW.alike, by rw [hU]; exact Nat.lt_of_lt_of_le hbl hS.1⟩⟩ rfl rfl hl rfl (lv_room (rest := .int 0 :: .ref b :: rest) hW) hdg hf
    intro T hT X
    obtain ⟨v, st₀, t, T2, L2, h0, X2, hL2, e1, ⟨r, hv, hr2, hh⟩, st⟩ := hrun T hT X
    cases hv
    rw [← ex0] at hr2
    subst hr2
    obtain ⟨t2, a1, b1⟩ := kk T2 (by rw [e1, hh, h0]) (Stand.forget X2 (fun q h => (hL2 q h).elim))
    exact ⟨t2, st t2 a1, b1⟩
  have hl := lv_entry ([Value.ref b]) (n := 4) (Nat.le_of_ble_eq_true rfl)
  rw [lg_entry_eq]
  generalize (lg_sl ([Value.ref b]) ++ List.replicate (4 - (lg_sl ([Value.ref b])).length) Slot.unset).toArray = ls at hl ⊢
  have hl : lv_has ls 4 [(0, .ref b)] := hl
  have hP0 : va_P D zcl [] s.heap := fun k q hq => by simp at hq
  have hD0 : va_D (lA s) [] := ⟨fun i j p q hp => by simp at hp, fun k q hq => by simp at hq⟩
  refine zn_new (ci := 10) (fs := [.null, .null, .null, .null, .null, .null, .null]) S rfl inTop tyTop tyTop_ok q16 q17 q1 hK hP0 hD0 hS hA (fun j hj => by rcases (show j = 0 ∨ j = 1 ∨ j = 2 ∨ j = 3 ∨ j = 4 ∨ j = 5 ∨ j = 6 by omega) with rfl | rfl | rfl | rfl | rfl | rfl | rfl <;> rfl) (Nat.le_of_ble_eq_true rfl) (Nat.le_of_ble_eq_true rfl) dLaw_0 (fun q0 H hP hD hS => ?_)
  have hP : va_P D zcl [(q0, .inr (10, [.null, .null, .null, .null, .null, .null, .null]))] H := hP
  have hD : va_D (lA s) [(q0, .inr (10, [.null, .null, .null, .null, .null, .null, .null]))] := hD
  refine W.widen (k := 1) (n := 7) (Nat.le_of_ble_eq_true rfl) (Nat.le_of_ble_eq_true rfl) ?_
  refine lv_dup S.1 S.2.1 dLaw_3 rfl ?_
  refine lv_aload_n S.1 S.2.1 dLaw_4 rfl (lv_at hl 0 rfl) ?_
  refine lv_iconst (v := 0) S.1 S.2.1 dLaw_5 (by decide) ?_
  refine hcell H _ _ _ 6 ls _ hS hl.1 (Nat.le_of_ble_eq_true rfl) dLaw_6 ⟨Nat.le_of_ble_eq_true rfl, Nat.le_of_ble_eq_true rfl⟩ ?_
  have hFc := va_free (wc := [(q0, .inr (10, [.null, .null, .null, .null, .null, .null, .null]))]) hD hS hA [0] rfl
  refine va_callv (zn_I (n := 1) (As := [.int x0]) (rest := [.ref q0]) S hK hN hP hD (kTop_init l D cI cC cE q0 H.size x0) q20 q18 q19 q1 rfl ⟨by decide, by decide, by decide +kernel⟩ ⟨Nat.le_of_ble_eq_true rfl, Nat.le_of_ble_eq_true rfl⟩ ⟨rfl, rfl⟩ rfl hl.1 rfl (Nat.le_of_ble_eq_true rfl) dLaw_9 ⟨Nat.le_of_ble_eq_true rfl, Nat.le_of_ble_eq_true rfl⟩) hS (fun q _ h => hFc q h) hFc (fun u t H1 locs ht hvm _ hB hz1 hk1 hS => ?_)
  obtain ⟨u0, u1, u2, u3, u4, u5, u6, u7, u8, u9, u10, u11, u12, u13, u14, u15, u16, u17, u18, u19, u20, u21, u22, u23, u24, u25, u26, u27, u28, u29, u30, u31, u32⟩ := u
  obtain ⟨hP, -, hD9⟩ := hB
  rw [ht] at hP
  have hD := hD9.weaken (B := lA s) (fun _ q _ hq => hFc q.1 hq)
  have hP : va_P D zcl [(q0, .inr (10, [.ref u0, .ref u8, .ref u11, .ref u18, .ref u24, .ref u27, .ref u29])), (u0, .inr (1, [.int 0, .int 0, .ref u1, .ref u2, .ref u3, .ref u4, .ref u5, .ref u6, .ref u7])), (u1, .inl (cI, 5, .inl (fun _ => 0))), (u2, .inl (cI, 5, .inl (fun _ => 0))), (u3, .inl (cI, 5, .inl (fun _ => 0))), (u4, .inl (cI, 10, .inl (fun _ => 0))), (u5, .inl (cI, 10, .inl (fun _ => 0))), (u6, .inl (cI, 10, .inl (fun _ => 0))), (u7, .inl (cI, 10, .inl (fun _ => 0))), (u8, .inr (0, [.ref u0, .int 0, .ref u9, .ref u10])), (u9, .inl (cE, 40, .inr (.inr (.inr (.inr (fun _ => none)))))), (u10, .inl (cI, 40, .inl (fun _ => 0))), (u11, .inr (6, [.ref u0, .ref u14, .ref u12, .int 0, .int 0, .int 0, .int 0, .int 0, .ref u13])), (u12, .inl (cI, 10, .inl (fun _ => 0))), (u13, .inl (cI, 20, .inl (fun _ => 0))), (u14, .inr (4, [.ref u0, .int 0, .ref u15, .ref u16, .ref u17])), (u15, .inl (cI, 10, .inl (fun _ => 0))), (u16, .inl (cI, 10, .inl (fun _ => 0))), (u17, .inl (cI, 10, .inl (fun _ => 0))), (u18, .inr (3, [.ref u0, .ref u8, .ref u11, .ref u19, .ref u21, .int 3, .int x0, .ref u22, .ref u23])), (u19, .inr (7, [.int 0, .ref u20])), (u20, .inl (cI, 50, .inl (fun _ => 0))), (u21, .inl (cI, 8, .inl (upd (upd (upd (fun _ => 0) (Int32.toNatClampNeg 0) 0) (Int32.toNatClampNeg 1) 1) (Int32.toNatClampNeg 2) (-1)))), (u22, .inl (cI, 2, .inl (fun _ => 0))), (u23, .inl (cI, 2, .inl (fun _ => 0))), (u24, .inr (8, [.ref u0, .ref u11, .ref u25])), (u25, .inr (7, [.int 0, .ref u26])), (u26, .inl (cI, 50, .inl (fun _ => 0))), (u27, .inr (9, [.ref u28, .int 0])), (u28, .inl (cC, 200, .inl (fun _ => 0))), (u29, .inr (5, [.ref u0, .ref u30, .int 0, .ref u31, .int 0, .int 0, .int 0, .int 0, .int 0, .int 0])), (u30, .inl (cC, 200, .inl (fun _ => 0))), (u31, .inr (7, [.int 0, .ref u32])), (u32, .inl (cI, 50, .inl (fun _ => 0)))] H1 := hP
  have hD : va_D (lA s) [(q0, .inr (10, [.ref u0, .ref u8, .ref u11, .ref u18, .ref u24, .ref u27, .ref u29])), (u0, .inr (1, [.int 0, .int 0, .ref u1, .ref u2, .ref u3, .ref u4, .ref u5, .ref u6, .ref u7])), (u1, .inl (cI, 5, .inl (fun _ => 0))), (u2, .inl (cI, 5, .inl (fun _ => 0))), (u3, .inl (cI, 5, .inl (fun _ => 0))), (u4, .inl (cI, 10, .inl (fun _ => 0))), (u5, .inl (cI, 10, .inl (fun _ => 0))), (u6, .inl (cI, 10, .inl (fun _ => 0))), (u7, .inl (cI, 10, .inl (fun _ => 0))), (u8, .inr (0, [.ref u0, .int 0, .ref u9, .ref u10])), (u9, .inl (cE, 40, .inr (.inr (.inr (.inr (fun _ => none)))))), (u10, .inl (cI, 40, .inl (fun _ => 0))), (u11, .inr (6, [.ref u0, .ref u14, .ref u12, .int 0, .int 0, .int 0, .int 0, .int 0, .ref u13])), (u12, .inl (cI, 10, .inl (fun _ => 0))), (u13, .inl (cI, 20, .inl (fun _ => 0))), (u14, .inr (4, [.ref u0, .int 0, .ref u15, .ref u16, .ref u17])), (u15, .inl (cI, 10, .inl (fun _ => 0))), (u16, .inl (cI, 10, .inl (fun _ => 0))), (u17, .inl (cI, 10, .inl (fun _ => 0))), (u18, .inr (3, [.ref u0, .ref u8, .ref u11, .ref u19, .ref u21, .int 3, .int x0, .ref u22, .ref u23])), (u19, .inr (7, [.int 0, .ref u20])), (u20, .inl (cI, 50, .inl (fun _ => 0))), (u21, .inl (cI, 8, .inl (upd (upd (upd (fun _ => 0) (Int32.toNatClampNeg 0) 0) (Int32.toNatClampNeg 1) 1) (Int32.toNatClampNeg 2) (-1)))), (u22, .inl (cI, 2, .inl (fun _ => 0))), (u23, .inl (cI, 2, .inl (fun _ => 0))), (u24, .inr (8, [.ref u0, .ref u11, .ref u25])), (u25, .inr (7, [.int 0, .ref u26])), (u26, .inl (cI, 50, .inl (fun _ => 0))), (u27, .inr (9, [.ref u28, .int 0])), (u28, .inl (cC, 200, .inl (fun _ => 0))), (u29, .inr (5, [.ref u0, .ref u30, .int 0, .ref u31, .int 0, .int 0, .int 0, .int 0, .int 0, .int 0])), (u30, .inl (cC, 200, .inl (fun _ => 0))), (u31, .inr (7, [.int 0, .ref u32])), (u32, .inl (cI, 50, .inl (fun _ => 0)))] := hD
  refine W.widen (k := 34) (n := 821) (Nat.le_of_ble_eq_true rfl) (Nat.le_of_ble_eq_true rfl) ?_
  refine lv_astore_n (lv' := [(1, .ref q0), (0, .ref b)]) S.1 S.2.1 dLaw_12 rfl hl (by decide) rfl (fun ls hl => ?_)
  refine zn_new (ci := 11) (fs := [.int 0, .int 0, .null, .null, .null, .int 0, .null, .null, .null, .int 0, .null, .int 0, .null, .null, .null, .null, .null, .int 0, .null, .null, .null, .null, .null, .null, .null, .int 0, .null, .null, .null, .null, .int 0, .int 0, .int 0, .int 0, .null, .int 0, .null, .int 0, .null, .int 0, .null, .int 0, .int 0]) S rfl inMod tyMod tyMod_ok q822 q823 q11 hK hP hD hS hA (fun j hj => by rcases (show j = 0 ∨ j = 1 ∨ j = 2 ∨ j = 3 ∨ j = 4 ∨ j = 5 ∨ j = 6 ∨ j = 7 ∨ j = 8 ∨ j = 9 ∨ j = 10 ∨ j = 11 ∨ j = 12 ∨ j = 13 ∨ j = 14 ∨ j = 15 ∨ j = 16 ∨ j = 17 ∨ j = 18 ∨ j = 19 ∨ j = 20 ∨ j = 21 ∨ j = 22 ∨ j = 23 ∨ j = 24 ∨ j = 25 ∨ j = 26 ∨ j = 27 ∨ j = 28 ∨ j = 29 ∨ j = 30 ∨ j = 31 ∨ j = 32 ∨ j = 33 ∨ j = 34 ∨ j = 35 ∨ j = 36 ∨ j = 37 ∨ j = 38 ∨ j = 39 ∨ j = 40 ∨ j = 41 ∨ j = 42 by omega) with rfl | rfl | rfl | rfl | rfl | rfl | rfl | rfl | rfl | rfl | rfl | rfl | rfl | rfl | rfl | rfl | rfl | rfl | rfl | rfl | rfl | rfl | rfl | rfl | rfl | rfl | rfl | rfl | rfl | rfl | rfl | rfl | rfl | rfl | rfl | rfl | rfl | rfl | rfl | rfl | rfl | rfl | rfl <;> rfl) (Nat.le_of_ble_eq_true rfl) (Nat.le_of_ble_eq_true rfl) dLaw_13 (fun q1 H hP hD hS => ?_)
  have hP : va_P D zcl ([(q0, .inr (10, [.ref u0, .ref u8, .ref u11, .ref u18, .ref u24, .ref u27, .ref u29])), (u0, .inr (1, [.int 0, .int 0, .ref u1, .ref u2, .ref u3, .ref u4, .ref u5, .ref u6, .ref u7])), (u1, .inl (cI, 5, .inl (fun _ => 0))), (u2, .inl (cI, 5, .inl (fun _ => 0))), (u3, .inl (cI, 5, .inl (fun _ => 0))), (u4, .inl (cI, 10, .inl (fun _ => 0))), (u5, .inl (cI, 10, .inl (fun _ => 0))), (u6, .inl (cI, 10, .inl (fun _ => 0))), (u7, .inl (cI, 10, .inl (fun _ => 0))), (u8, .inr (0, [.ref u0, .int 0, .ref u9, .ref u10])), (u9, .inl (cE, 40, .inr (.inr (.inr (.inr (fun _ => none)))))), (u10, .inl (cI, 40, .inl (fun _ => 0))), (u11, .inr (6, [.ref u0, .ref u14, .ref u12, .int 0, .int 0, .int 0, .int 0, .int 0, .ref u13])), (u12, .inl (cI, 10, .inl (fun _ => 0))), (u13, .inl (cI, 20, .inl (fun _ => 0))), (u14, .inr (4, [.ref u0, .int 0, .ref u15, .ref u16, .ref u17])), (u15, .inl (cI, 10, .inl (fun _ => 0))), (u16, .inl (cI, 10, .inl (fun _ => 0))), (u17, .inl (cI, 10, .inl (fun _ => 0))), (u18, .inr (3, [.ref u0, .ref u8, .ref u11, .ref u19, .ref u21, .int 3, .int x0, .ref u22, .ref u23])), (u19, .inr (7, [.int 0, .ref u20])), (u20, .inl (cI, 50, .inl (fun _ => 0))), (u21, .inl (cI, 8, .inl (upd (upd (upd (fun _ => 0) (Int32.toNatClampNeg 0) 0) (Int32.toNatClampNeg 1) 1) (Int32.toNatClampNeg 2) (-1)))), (u22, .inl (cI, 2, .inl (fun _ => 0))), (u23, .inl (cI, 2, .inl (fun _ => 0))), (u24, .inr (8, [.ref u0, .ref u11, .ref u25])), (u25, .inr (7, [.int 0, .ref u26])), (u26, .inl (cI, 50, .inl (fun _ => 0))), (u27, .inr (9, [.ref u28, .int 0])), (u28, .inl (cC, 200, .inl (fun _ => 0))), (u29, .inr (5, [.ref u0, .ref u30, .int 0, .ref u31, .int 0, .int 0, .int 0, .int 0, .int 0, .int 0])), (u30, .inl (cC, 200, .inl (fun _ => 0))), (u31, .inr (7, [.int 0, .ref u32])), (u32, .inl (cI, 50, .inl (fun _ => 0)))] ++ [(q1, .inr (11, [.int 0, .int 0, .null, .null, .null, .int 0, .null, .null, .null, .int 0, .null, .int 0, .null, .null, .null, .null, .null, .int 0, .null, .null, .null, .null, .null, .null, .null, .int 0, .null, .null, .null, .null, .int 0, .int 0, .int 0, .int 0, .null, .int 0, .null, .int 0, .null, .int 0, .null, .int 0, .int 0]))]) H := hP
  have hD : va_D (lA s) ([(q0, .inr (10, [.ref u0, .ref u8, .ref u11, .ref u18, .ref u24, .ref u27, .ref u29])), (u0, .inr (1, [.int 0, .int 0, .ref u1, .ref u2, .ref u3, .ref u4, .ref u5, .ref u6, .ref u7])), (u1, .inl (cI, 5, .inl (fun _ => 0))), (u2, .inl (cI, 5, .inl (fun _ => 0))), (u3, .inl (cI, 5, .inl (fun _ => 0))), (u4, .inl (cI, 10, .inl (fun _ => 0))), (u5, .inl (cI, 10, .inl (fun _ => 0))), (u6, .inl (cI, 10, .inl (fun _ => 0))), (u7, .inl (cI, 10, .inl (fun _ => 0))), (u8, .inr (0, [.ref u0, .int 0, .ref u9, .ref u10])), (u9, .inl (cE, 40, .inr (.inr (.inr (.inr (fun _ => none)))))), (u10, .inl (cI, 40, .inl (fun _ => 0))), (u11, .inr (6, [.ref u0, .ref u14, .ref u12, .int 0, .int 0, .int 0, .int 0, .int 0, .ref u13])), (u12, .inl (cI, 10, .inl (fun _ => 0))), (u13, .inl (cI, 20, .inl (fun _ => 0))), (u14, .inr (4, [.ref u0, .int 0, .ref u15, .ref u16, .ref u17])), (u15, .inl (cI, 10, .inl (fun _ => 0))), (u16, .inl (cI, 10, .inl (fun _ => 0))), (u17, .inl (cI, 10, .inl (fun _ => 0))), (u18, .inr (3, [.ref u0, .ref u8, .ref u11, .ref u19, .ref u21, .int 3, .int x0, .ref u22, .ref u23])), (u19, .inr (7, [.int 0, .ref u20])), (u20, .inl (cI, 50, .inl (fun _ => 0))), (u21, .inl (cI, 8, .inl (upd (upd (upd (fun _ => 0) (Int32.toNatClampNeg 0) 0) (Int32.toNatClampNeg 1) 1) (Int32.toNatClampNeg 2) (-1)))), (u22, .inl (cI, 2, .inl (fun _ => 0))), (u23, .inl (cI, 2, .inl (fun _ => 0))), (u24, .inr (8, [.ref u0, .ref u11, .ref u25])), (u25, .inr (7, [.int 0, .ref u26])), (u26, .inl (cI, 50, .inl (fun _ => 0))), (u27, .inr (9, [.ref u28, .int 0])), (u28, .inl (cC, 200, .inl (fun _ => 0))), (u29, .inr (5, [.ref u0, .ref u30, .int 0, .ref u31, .int 0, .int 0, .int 0, .int 0, .int 0, .int 0])), (u30, .inl (cC, 200, .inl (fun _ => 0))), (u31, .inr (7, [.int 0, .ref u32])), (u32, .inl (cI, 50, .inl (fun _ => 0)))] ++ [(q1, .inr (11, [.int 0, .int 0, .null, .null, .null, .int 0, .null, .null, .null, .int 0, .null, .int 0, .null, .null, .null, .null, .null, .int 0, .null, .null, .null, .null, .null, .null, .null, .int 0, .null, .null, .null, .null, .int 0, .int 0, .int 0, .int 0, .null, .int 0, .null, .int 0, .null, .int 0, .null, .int 0, .int 0]))]) := hD
  refine W.widen (k := 35) (n := 864) (Nat.le_of_ble_eq_true rfl) (Nat.le_of_ble_eq_true rfl) ?_
  refine lv_dup S.1 S.2.1 dLaw_16 rfl ?_
  refine lv_aload_n S.1 S.2.1 dLaw_17 rfl (lv_at hl 1 rfl) ?_
  refine lv_iconst (v := 0) S.1 S.2.1 dLaw_18 (by decide) ?_
  refine hcell H _ _ _ 19 ls _ hS hl.1 (Nat.le_of_ble_eq_true rfl) dLaw_19 ⟨Nat.le_of_ble_eq_true rfl, Nat.le_of_ble_eq_true rfl⟩ ?_
  have hPc := hP.sub (ws' := [(q1, .inr (11, [.int 0, .int 0, .null, .null, .null, .int 0, .null, .null, .null, .int 0, .null, .int 0, .null, .null, .null, .null, .null, .int 0, .null, .null, .null, .null, .null, .null, .null, .int 0, .null, .null, .null, .null, .int 0, .int 0, .int 0, .int 0, .null, .int 0, .null, .int 0, .null, .int 0, .null, .int 0, .int 0]))]) [34] rfl
  have hDc := hD.sub (ws' := [(q1, .inr (11, [.int 0, .int 0, .null, .null, .null, .int 0, .null, .null, .null, .int 0, .null, .int 0, .null, .null, .null, .null, .null, .int 0, .null, .null, .null, .null, .null, .null, .null, .int 0, .null, .null, .null, .null, .int 0, .int 0, .int 0, .int 0, .null, .int 0, .null, .int 0, .null, .int 0, .null, .int 0, .int 0]))]) [34] (by decide) rfl
  have hFc := va_free (wc := [(q1, .inr (11, [.int 0, .int 0, .null, .null, .null, .int 0, .null, .null, .null, .int 0, .null, .int 0, .null, .null, .null, .null, .null, .int 0, .null, .null, .null, .null, .null, .null, .null, .int 0, .null, .null, .null, .null, .int 0, .int 0, .int 0, .int 0, .null, .int 0, .null, .int 0, .null, .int 0, .null, .int 0, .int 0]))]) hD hS hA [34] rfl
  refine va_callv (zn_I (n := 1) (As := [.int x0]) (rest := [.ref q1]) S hK hN hPc hDc (kMod_init l D cI cC cE q1 H.size x0) q826 q824 q825 q11 rfl ⟨by decide, by decide, by decide +kernel⟩ ⟨Nat.le_of_ble_eq_true rfl, Nat.le_of_ble_eq_true rfl⟩ ⟨rfl, rfl⟩ rfl hl.1 rfl (Nat.le_of_ble_eq_true rfl) dLaw_22 ⟨Nat.le_of_ble_eq_true rfl, Nat.le_of_ble_eq_true rfl⟩) hS (fun q _ h => hFc q h) hFc (fun u t H1 locs ht hvm _ hB hz1 hk1 hS => ?_)
  obtain ⟨v0, v1, v2, v3, v4, v5, v6, v7, v8, v9, v10, v11, v12, v13, v14, v15, v16, v17, v18, v19, v20, v21, v22, v23, v24, v25, v26⟩ := u
  obtain ⟨hP1, -, hD1⟩ := hB
  rw [ht] at hP1
  obtain ⟨hP, hD⟩ := va_join (wr := [(q0, .inr (10, [.ref u0, .ref u8, .ref u11, .ref u18, .ref u24, .ref u27, .ref u29])), (u0, .inr (1, [.int 0, .int 0, .ref u1, .ref u2, .ref u3, .ref u4, .ref u5, .ref u6, .ref u7])), (u1, .inl (cI, 5, .inl (fun _ => 0))), (u2, .inl (cI, 5, .inl (fun _ => 0))), (u3, .inl (cI, 5, .inl (fun _ => 0))), (u4, .inl (cI, 10, .inl (fun _ => 0))), (u5, .inl (cI, 10, .inl (fun _ => 0))), (u6, .inl (cI, 10, .inl (fun _ => 0))), (u7, .inl (cI, 10, .inl (fun _ => 0))), (u8, .inr (0, [.ref u0, .int 0, .ref u9, .ref u10])), (u9, .inl (cE, 40, .inr (.inr (.inr (.inr (fun _ => none)))))), (u10, .inl (cI, 40, .inl (fun _ => 0))), (u11, .inr (6, [.ref u0, .ref u14, .ref u12, .int 0, .int 0, .int 0, .int 0, .int 0, .ref u13])), (u12, .inl (cI, 10, .inl (fun _ => 0))), (u13, .inl (cI, 20, .inl (fun _ => 0))), (u14, .inr (4, [.ref u0, .int 0, .ref u15, .ref u16, .ref u17])), (u15, .inl (cI, 10, .inl (fun _ => 0))), (u16, .inl (cI, 10, .inl (fun _ => 0))), (u17, .inl (cI, 10, .inl (fun _ => 0))), (u18, .inr (3, [.ref u0, .ref u8, .ref u11, .ref u19, .ref u21, .int 3, .int x0, .ref u22, .ref u23])), (u19, .inr (7, [.int 0, .ref u20])), (u20, .inl (cI, 50, .inl (fun _ => 0))), (u21, .inl (cI, 8, .inl (upd (upd (upd (fun _ => 0) (Int32.toNatClampNeg 0) 0) (Int32.toNatClampNeg 1) 1) (Int32.toNatClampNeg 2) (-1)))), (u22, .inl (cI, 2, .inl (fun _ => 0))), (u23, .inl (cI, 2, .inl (fun _ => 0))), (u24, .inr (8, [.ref u0, .ref u11, .ref u25])), (u25, .inr (7, [.int 0, .ref u26])), (u26, .inl (cI, 50, .inl (fun _ => 0))), (u27, .inr (9, [.ref u28, .int 0])), (u28, .inl (cC, 200, .inl (fun _ => 0))), (u29, .inr (5, [.ref u0, .ref u30, .int 0, .ref u31, .int 0, .int 0, .int 0, .int 0, .int 0, .int 0])), (u30, .inl (cC, 200, .inl (fun _ => 0))), (u31, .inr (7, [.int 0, .ref u32])), (u32, .inl (cI, 50, .inl (fun _ => 0)))]) (w1 := [(q1, .inr (11, [.int x0, .int 0, .ref v0, .ref v1, .ref v2, .int 0, .ref v3, .ref v4, .ref v5, .int 3, .ref v6, .int 0, .ref v7, .ref v8, .ref v9, .ref v10, .ref v11, .int 0, .ref v12, .ref v13, .ref v14, .ref v15, .ref v16, .ref v17, .ref v18, .int 0, .ref v19, .ref v20, .ref v21, .ref v22, .int 0, .int 0, .int 0, .int 0, .ref v23, .int 0, .ref v24, .int 0, .ref v25, .int 0, .ref v26, .int 0, .int 0])), (v0, .inl (cI, 5, .inl (fun _ => 0))), (v1, .inl (cI, 5, .inl (fun _ => 0))), (v2, .inl (cI, 5, .inl (fun _ => 0))), (v3, .inl (cI, 10, .inl (fun _ => 0))), (v4, .inl (cI, 10, .inl (fun _ => 0))), (v5, .inl (cI, 10, .inl (fun _ => 0))), (v6, .inl (cI, 8, .inl (upd (upd (upd (upd (upd (upd (upd (upd (fun _ => 0) (Int32.toNatClampNeg 0) 0) (Int32.toNatClampNeg 1) 1) (Int32.toNatClampNeg 2) (-1)) (Int32.toNatClampNeg 3) 0) (Int32.toNatClampNeg 4) 0) (Int32.toNatClampNeg 5) 0) (Int32.toNatClampNeg 6) 0) (Int32.toNatClampNeg 7) 0))), (v7, .inl (cI, 20, .inl (fun _ => 0))), (v8, .inl (cI, 40, .inl (fun _ => 0))), (v9, .inl (cI, 40, .inl (fun _ => 0))), (v10, .inl (cI, 2, .inl (fun _ => 0))), (v11, .inl (cI, 2, .inl (fun _ => 0))), (v12, .inl (cI, 41, .inl (fun _ => 0))), (v13, .inl (cI, 410, .inl (fun _ => 0))), (v14, .inl (cI, 820, .inl (fun _ => 0))), (v15, .inl (cI, 820, .inl (fun _ => 0))), (v16, .inl (cI, 41, .inl (fun _ => 0))), (v17, .inl (cI, 41, .inl (fun _ => 0))), (v18, .inl (cI, 41, .inl (fun _ => 0))), (v19, .inl (cI, 10, .inl (fun _ => 0))), (v20, .inl (cI, 10, .inl (fun _ => 0))), (v21, .inl (cI, 10, .inl (fun _ => 0))), (v22, .inl (cI, 10, .inl (fun _ => 0))), (v23, .inl (cI, 21, .inl (fun _ => 0))), (v24, .inl (cI, 21, .inl (fun _ => 0))), (v25, .inl (cI, 200, .inl (fun _ => 0))), (v26, .inl (cI, 300, .inl (fun _ => 0)))]) hP hD [34] [0, 1, 2, 3, 4, 5, 6, 7, 8, 9, 10, 11, 12, 13, 14, 15, 16, 17, 18, 19, 20, 21, 22, 23, 24, 25, 26, 27, 28, 29, 30, 31, 32, 33] rfl rfl (by decide) (by decide) hk1 hFc hP1 hD1
  refine W.widen (k := 62) (n := 3817) (Nat.le_of_ble_eq_true rfl) (Nat.le_of_ble_eq_true rfl) ?_
  refine lv_astore_n (lv' := [(2, .ref q1), (1, .ref q0), (0, .ref b)]) S.1 S.2.1 dLaw_25 rfl hl (by decide) rfl (fun ls hl => ?_)
  refine lv_iconst (v := 1) S.1 S.2.1 dLaw_26 (by decide) ?_
  refine lv_istore_n (lv' := [(3, .int 1), (2, .ref q1), (1, .ref q0), (0, .ref b)]) S.1 S.2.1 dLaw_27 rfl hl (by decide) rfl (fun ls hl => ?_)
  obtain ⟨ad, ead⟩ : ∃ f : Nat → Nat, f = fun k => ([q0, u0, u1, u2, u3, u4, u5, u6, u7, u8, u9, u10, u11, u12, u13, u14, u15, u16, u17, u18, u19, u20, u21, u22, u23, u24, u25, u26, u27, u28, u29, u30, u31, u32] : List Nat).getD k 0 := ⟨_, rfl⟩
  obtain ⟨adm, eadm⟩ : ∃ f : Nat → Nat, f = fun k => ([q1, v0, v1, v2, v3, v4, v5, v6, v7, v8, v9, v10, v11, v12, v13, v14, v15, v16, v17, v18, v19, v20, v21, v22, v23, v24, v25, v26] : List Nat).getD k 0 := ⟨_, rfl⟩
  have e1 : zW (34 + 4 * 0) ad (zF ad cI cC cE 0 (fun _ => 0)) (zh0 x0) = [(q0, .inr (10, [.ref u0, .ref u8, .ref u11, .ref u18, .ref u24, .ref u27, .ref u29])), (u0, .inr (1, [.int 0, .int 0, .ref u1, .ref u2, .ref u3, .ref u4, .ref u5, .ref u6, .ref u7])), (u1, .inl (cI, 5, .inl (fun _ => 0))), (u2, .inl (cI, 5, .inl (fun _ => 0))), (u3, .inl (cI, 5, .inl (fun _ => 0))), (u4, .inl (cI, 10, .inl (fun _ => 0))), (u5, .inl (cI, 10, .inl (fun _ => 0))), (u6, .inl (cI, 10, .inl (fun _ => 0))), (u7, .inl (cI, 10, .inl (fun _ => 0))), (u8, .inr (0, [.ref u0, .int 0, .ref u9, .ref u10])), (u9, .inl (cE, 40, .inr (.inr (.inr (.inr (fun _ => none)))))), (u10, .inl (cI, 40, .inl (fun _ => 0))), (u11, .inr (6, [.ref u0, .ref u14, .ref u12, .int 0, .int 0, .int 0, .int 0, .int 0, .ref u13])), (u12, .inl (cI, 10, .inl (fun _ => 0))), (u13, .inl (cI, 20, .inl (fun _ => 0))), (u14, .inr (4, [.ref u0, .int 0, .ref u15, .ref u16, .ref u17])), (u15, .inl (cI, 10, .inl (fun _ => 0))), (u16, .inl (cI, 10, .inl (fun _ => 0))), (u17, .inl (cI, 10, .inl (fun _ => 0))), (u18, .inr (3, [.ref u0, .ref u8, .ref u11, .ref u19, .ref u21, .int 3, .int x0, .ref u22, .ref u23])), (u19, .inr (7, [.int 0, .ref u20])), (u20, .inl (cI, 50, .inl (fun _ => 0))), (u21, .inl (cI, 8, .inl (upd (upd (upd (fun _ => 0) (Int32.toNatClampNeg 0) 0) (Int32.toNatClampNeg 1) 1) (Int32.toNatClampNeg 2) (-1)))), (u22, .inl (cI, 2, .inl (fun _ => 0))), (u23, .inl (cI, 2, .inl (fun _ => 0))), (u24, .inr (8, [.ref u0, .ref u11, .ref u25])), (u25, .inr (7, [.int 0, .ref u26])), (u26, .inl (cI, 50, .inl (fun _ => 0))), (u27, .inr (9, [.ref u28, .int 0])), (u28, .inl (cC, 200, .inl (fun _ => 0))), (u29, .inr (5, [.ref u0, .ref u30, .int 0, .ref u31, .int 0, .int 0, .int 0, .int 0, .int 0, .int 0])), (u30, .inl (cC, 200, .inl (fun _ => 0))), (u31, .inr (7, [.int 0, .ref u32])), (u32, .inl (cI, 50, .inl (fun _ => 0)))] := by subst ead; rfl
  have e2 : zW 28 adm (mF adm cI) (mg0 x0) = [(q1, .inr (11, [.int x0, .int 0, .ref v0, .ref v1, .ref v2, .int 0, .ref v3, .ref v4, .ref v5, .int 3, .ref v6, .int 0, .ref v7, .ref v8, .ref v9, .ref v10, .ref v11, .int 0, .ref v12, .ref v13, .ref v14, .ref v15, .ref v16, .ref v17, .ref v18, .int 0, .ref v19, .ref v20, .ref v21, .ref v22, .int 0, .int 0, .int 0, .int 0, .ref v23, .int 0, .ref v24, .int 0, .ref v25, .int 0, .ref v26, .int 0, .int 0])), (v0, .inl (cI, 5, .inl (fun _ => 0))), (v1, .inl (cI, 5, .inl (fun _ => 0))), (v2, .inl (cI, 5, .inl (fun _ => 0))), (v3, .inl (cI, 10, .inl (fun _ => 0))), (v4, .inl (cI, 10, .inl (fun _ => 0))), (v5, .inl (cI, 10, .inl (fun _ => 0))), (v6, .inl (cI, 8, .inl (upd (upd (upd (upd (upd (upd (upd (upd (fun _ => 0) (Int32.toNatClampNeg 0) 0) (Int32.toNatClampNeg 1) 1) (Int32.toNatClampNeg 2) (-1)) (Int32.toNatClampNeg 3) 0) (Int32.toNatClampNeg 4) 0) (Int32.toNatClampNeg 5) 0) (Int32.toNatClampNeg 6) 0) (Int32.toNatClampNeg 7) 0))), (v7, .inl (cI, 20, .inl (fun _ => 0))), (v8, .inl (cI, 40, .inl (fun _ => 0))), (v9, .inl (cI, 40, .inl (fun _ => 0))), (v10, .inl (cI, 2, .inl (fun _ => 0))), (v11, .inl (cI, 2, .inl (fun _ => 0))), (v12, .inl (cI, 41, .inl (fun _ => 0))), (v13, .inl (cI, 410, .inl (fun _ => 0))), (v14, .inl (cI, 820, .inl (fun _ => 0))), (v15, .inl (cI, 820, .inl (fun _ => 0))), (v16, .inl (cI, 41, .inl (fun _ => 0))), (v17, .inl (cI, 41, .inl (fun _ => 0))), (v18, .inl (cI, 41, .inl (fun _ => 0))), (v19, .inl (cI, 10, .inl (fun _ => 0))), (v20, .inl (cI, 10, .inl (fun _ => 0))), (v21, .inl (cI, 10, .inl (fun _ => 0))), (v22, .inl (cI, 10, .inl (fun _ => 0))), (v23, .inl (cI, 21, .inl (fun _ => 0))), (v24, .inl (cI, 21, .inl (fun _ => 0))), (v25, .inl (cI, 200, .inl (fun _ => 0))), (v26, .inl (cI, 300, .inl (fun _ => 0)))] := by subst eadm; rfl
  rw [← e1, ← e2] at hP hD
  have hPT : va_P D zcl (zW (34 + 4 * 0) ad (zF ad cI cC cE 0 (fun _ => 0)) (zh0 x0)) H1 := fun k q hq => hP k q (by rw [List.getElem?_append_left (by rw [zW_len]; exact (zW_in hq).1)]; exact hq)
  have hPM : va_P D zcl (zW 28 adm (mF adm cI) (mg0 x0)) H1 := fun k q hq => hP (34 + k) q (by rw [List.getElem?_append_right (by rw [zW_len]; omega), zW_len]; simpa using hq)
  have hJT : zJ (lA s) (34 + 4 * 0) ad := zJ_of (F := zF ad cI cC cE 0 (fun _ => 0)) (h := zh0 x0) ⟨fun i j x y hi hj hxy => hD.1 i j x y (by rw [List.getElem?_append_left (by rw [zW_len]; exact (zW_in hi).1)]; exact hi) (by rw [List.getElem?_append_left (by rw [zW_len]; exact (zW_in hj).1)]; exact hj) hxy, fun k q hq => hD.2 k q (by rw [List.getElem?_append_left (by rw [zW_len]; exact (zW_in hq).1)]; exact hq)⟩
  have hR34 : ∀ (k : Nat) (q : Nat × va_E), (zW 28 adm (mF adm cI) (mg0 x0))[k]? = some q → (zW (34 + 4 * 0) ad (zF ad cI cC cE 0 (fun _ => 0)) (zh0 x0) ++ zW 28 adm (mF adm cI) (mg0 x0))[34 + k]? = some q := fun k q hq => by rw [List.getElem?_append_right (by rw [zW_len]; omega), zW_len]; simpa using hq
  have hJM : zJ (lA s) 28 adm := zJ_of (F := mF adm cI) (h := mg0 x0) ⟨fun i j x y hi hj hxy => by have := hD.1 (34 + i) (34 + j) x y (hR34 i x hi) (hR34 j y hj) hxy; omega, fun k q hq => hD.2 (34 + k) q (hR34 k q hq)⟩
  have hdis : ∀ o o', o < 34 + 4 * 0 → o' < 28 → ad o ≠ adm o' := fun o o' ho ho' he => by
    have := hD.1 o (34 + o') (ad o, _) (adm o', _) (by rw [List.getElem?_append_left (by rw [zW_len]; exact ho)]; exact zW_at ho) (hR34 o' _ (zW_at ho')) he
    omega
  have hl : lv_has ls 4 [(0, .ref b), (1, .ref (ad 0)), (2, .ref (adm 0)), (3, .int (nI (1 + 4 * 0)))] := by
    subst ead eadm
    exact lv_sub hl [3, 2, 1, 0] rfl
  exact J28 513 0 (by omega) (by omega) ad adm 0 (fun _ => 0) (zh0 x0) (mg0 x0) H1 _ ls (H_init x0) ⟨hPT, hPM, hJT, hJM, hdis, hS⟩ hl
