section
-- ===== PART A: goes FIRST, ahead of the names: the tables' words, and 'selects' of the private methods out of them =====
/-- a private method of a class that the tables say can be made, by its rows of tables_1 -/
def lw_okq (q : MethodName × Nat) : Prop := (q.1.cls ≠ "java/lang/invoke/MethodHandle" ∧ q.1.cls ≠ "java/lang/invoke/VarHandle") ∧ Cond.instantiable q.1.cls q.2 ∈ tables_1 ∧ Cond.privateMethod q.1 ∈ tables_1 ∧ Cond.instanceMethod q.1 ∈ tables_1
theorem lw_p0 : lw_okq (⟨"CallExplorer$Catalog", "isClass", "(I)Z"⟩, 9) := ⟨⟨by decide +kernel, by decide +kernel⟩, List.mem_of_getElem? (i := 25) (by decide +kernel), List.mem_of_getElem? (i := 326) (by decide +kernel), List.mem_of_getElem? (i := 327) (by decide +kernel)⟩
theorem lw_p1 : lw_okq (⟨"CallExplorer$Catalog", "hasPartner", "(I)Z"⟩, 9) := ⟨⟨by decide +kernel, by decide +kernel⟩, List.mem_of_getElem? (i := 25) (by decide +kernel), List.mem_of_getElem? (i := 338) (by decide +kernel), List.mem_of_getElem? (i := 339) (by decide +kernel)⟩
theorem lw_p2 : lw_okq (⟨"CallExplorer$Catalog", "typeOf", "(III)I"⟩, 9) := ⟨⟨by decide +kernel, by decide +kernel⟩, List.mem_of_getElem? (i := 25) (by decide +kernel), List.mem_of_getElem? (i := 348) (by decide +kernel), List.mem_of_getElem? (i := 349) (by decide +kernel)⟩
theorem lw_p3 : lw_okq (⟨"CallExplorer$Grower", "random", "(I)I"⟩, 9) := ⟨⟨by decide +kernel, by decide +kernel⟩, List.mem_of_getElem? (i := 166) (by decide +kernel), List.mem_of_getElem? (i := 372) (by decide +kernel), List.mem_of_getElem? (i := 373) (by decide +kernel)⟩
theorem lw_p4 : lw_okq (⟨"CallExplorer$Grower", "chooseArgument", "(II)I"⟩, 9) := ⟨⟨by decide +kernel, by decide +kernel⟩, List.mem_of_getElem? (i := 166) (by decide +kernel), List.mem_of_getElem? (i := 385) (by decide +kernel), List.mem_of_getElem? (i := 386) (by decide +kernel)⟩
theorem lw_p5 : lw_okq (⟨"CallExplorer$Grower", "choose", "(III)I"⟩, 9) := ⟨⟨by decide +kernel, by decide +kernel⟩, List.mem_of_getElem? (i := 166) (by decide +kernel), List.mem_of_getElem? (i := 389) (by decide +kernel), List.mem_of_getElem? (i := 390) (by decide +kernel)⟩
theorem lw_p6 : lw_okq (⟨"CallExplorer$Grower", "chooseNumber", "(I)I"⟩, 9) := ⟨⟨by decide +kernel, by decide +kernel⟩, List.mem_of_getElem? (i := 166) (by decide +kernel), List.mem_of_getElem? (i := 393) (by decide +kernel), List.mem_of_getElem? (i := 394) (by decide +kernel)⟩
theorem lw_p7 : lw_okq (⟨"CallExplorer$Grower", "take", "(II)I"⟩, 9) := ⟨⟨by decide +kernel, by decide +kernel⟩, List.mem_of_getElem? (i := 166) (by decide +kernel), List.mem_of_getElem? (i := 405) (by decide +kernel), List.mem_of_getElem? (i := 406) (by decide +kernel)⟩
theorem lw_p8 : lw_okq (⟨"CallExplorer$Sequence", "moveVariables", "(III)V"⟩, 2) := ⟨⟨by decide +kernel, by decide +kernel⟩, List.mem_of_getElem? (i := 172) (by decide +kernel), List.mem_of_getElem? (i := 420) (by decide +kernel), List.mem_of_getElem? (i := 421) (by decide +kernel)⟩
theorem lw_p9 : lw_okq (⟨"CallExplorer$Grower", "chooseObject", "(II)I"⟩, 9) := ⟨⟨by decide +kernel, by decide +kernel⟩, List.mem_of_getElem? (i := 166) (by decide +kernel), List.mem_of_getElem? (i := 436) (by decide +kernel), List.mem_of_getElem? (i := 437) (by decide +kernel)⟩
theorem lw_p10 : lw_okq (⟨"CallExplorer$Grower", "firstFits", "(I)Z"⟩, 9) := ⟨⟨by decide +kernel, by decide +kernel⟩, List.mem_of_getElem? (i := 166) (by decide +kernel), List.mem_of_getElem? (i := 440) (by decide +kernel), List.mem_of_getElem? (i := 441) (by decide +kernel)⟩
theorem lw_p11 : lw_okq (⟨"CallExplorer$Grower", "pushChosen", "(I)V"⟩, 9) := ⟨⟨by decide +kernel, by decide +kernel⟩, List.mem_of_getElem? (i := 166) (by decide +kernel), List.mem_of_getElem? (i := 449) (by decide +kernel), List.mem_of_getElem? (i := 450) (by decide +kernel)⟩
theorem lw_p12 : lw_okq (⟨"CallExplorer$Runner", "execute", "(LCallExplorer$Sequence;I)I"⟩, 9) := ⟨⟨by decide +kernel, by decide +kernel⟩, List.mem_of_getElem? (i := 93) (by decide +kernel), List.mem_of_getElem? (i := 470) (by decide +kernel), List.mem_of_getElem? (i := 471) (by decide +kernel)⟩
theorem lw_p13 : lw_okq (⟨"CallExplorer$Runner", "isNull", "(LCallExplorer$Sequence;II)Z"⟩, 9) := ⟨⟨by decide +kernel, by decide +kernel⟩, List.mem_of_getElem? (i := 93) (by decide +kernel), List.mem_of_getElem? (i := 474) (by decide +kernel), List.mem_of_getElem? (i := 475) (by decide +kernel)⟩
theorem lw_p14 : lw_okq (⟨"CallExplorer$Runner", "argumentValue", "(LCallExplorer$Sequence;II)I"⟩, 9) := ⟨⟨by decide +kernel, by decide +kernel⟩, List.mem_of_getElem? (i := 93) (by decide +kernel), List.mem_of_getElem? (i := 480) (by decide +kernel), List.mem_of_getElem? (i := 481) (by decide +kernel)⟩
theorem lw_p15 : lw_okq (⟨"CallExplorer$Runner", "make", "(III)I"⟩, 9) := ⟨⟨by decide +kernel, by decide +kernel⟩, List.mem_of_getElem? (i := 93) (by decide +kernel), List.mem_of_getElem? (i := 489) (by decide +kernel), List.mem_of_getElem? (i := 490) (by decide +kernel)⟩
def lw_privs_1 : List (MethodName × Nat) := [(⟨"CallExplorer$Catalog", "isClass", "(I)Z"⟩, 9), (⟨"CallExplorer$Catalog", "hasPartner", "(I)Z"⟩, 9), (⟨"CallExplorer$Catalog", "typeOf", "(III)I"⟩, 9), (⟨"CallExplorer$Grower", "random", "(I)I"⟩, 9), (⟨"CallExplorer$Grower", "chooseArgument", "(II)I"⟩, 9), (⟨"CallExplorer$Grower", "choose", "(III)I"⟩, 9), (⟨"CallExplorer$Grower", "chooseNumber", "(I)I"⟩, 9), (⟨"CallExplorer$Grower", "take", "(II)I"⟩, 9), (⟨"CallExplorer$Sequence", "moveVariables", "(III)V"⟩, 2), (⟨"CallExplorer$Grower", "chooseObject", "(II)I"⟩, 9), (⟨"CallExplorer$Grower", "firstFits", "(I)Z"⟩, 9), (⟨"CallExplorer$Grower", "pushChosen", "(I)V"⟩, 9), (⟨"CallExplorer$Runner", "execute", "(LCallExplorer$Sequence;I)I"⟩, 9), (⟨"CallExplorer$Runner", "isNull", "(LCallExplorer$Sequence;II)Z"⟩, 9), (⟨"CallExplorer$Runner", "argumentValue", "(LCallExplorer$Sequence;II)I"⟩, 9), (⟨"CallExplorer$Runner", "make", "(III)I"⟩, 9)]
theorem lw_r1 : ∀ q ∈ lw_privs_1, lw_okq q := List.forall_mem_cons.mpr ⟨lw_p0, List.forall_mem_cons.mpr ⟨lw_p1, List.forall_mem_cons.mpr ⟨lw_p2, List.forall_mem_cons.mpr ⟨lw_p3, List.forall_mem_cons.mpr ⟨lw_p4, List.forall_mem_cons.mpr ⟨lw_p5, List.forall_mem_cons.mpr ⟨lw_p6, List.forall_mem_cons.mpr ⟨lw_p7, List.forall_mem_cons.mpr ⟨lw_p8, List.forall_mem_cons.mpr ⟨lw_p9, List.forall_mem_cons.mpr ⟨lw_p10, List.forall_mem_cons.mpr ⟨lw_p11, List.forall_mem_cons.mpr ⟨lw_p12, List.forall_mem_cons.mpr ⟨lw_p13, List.forall_mem_cons.mpr ⟨lw_p14, List.forall_mem_cons.mpr ⟨lw_p15, fun _ h => absurd h List.not_mem_nil⟩⟩⟩⟩⟩⟩⟩⟩⟩⟩⟩⟩⟩⟩⟩⟩
theorem lw_p16 : lw_okq (⟨"CallExplorer$Runner", "canBeValue", "(J)Z"⟩, 9) := ⟨⟨by decide +kernel, by decide +kernel⟩, List.mem_of_getElem? (i := 93) (by decide +kernel), List.mem_of_getElem? (i := 493) (by decide +kernel), List.mem_of_getElem? (i := 494) (by decide +kernel)⟩
theorem lw_p17 : lw_okq (⟨"CallExplorer$Runner", "give", "(II)I"⟩, 9) := ⟨⟨by decide +kernel, by decide +kernel⟩, List.mem_of_getElem? (i := 93) (by decide +kernel), List.mem_of_getElem? (i := 503) (by decide +kernel), List.mem_of_getElem? (i := 504) (by decide +kernel)⟩
theorem lw_p18 : lw_okq (⟨"CallExplorer$Runner", "add", "(III)I"⟩, 9) := ⟨⟨by decide +kernel, by decide +kernel⟩, List.mem_of_getElem? (i := 93) (by decide +kernel), List.mem_of_getElem? (i := 507) (by decide +kernel), List.mem_of_getElem? (i := 508) (by decide +kernel)⟩
theorem lw_p19 : lw_okq (⟨"CallExplorer$Runner", "link", "(III)I"⟩, 9) := ⟨⟨by decide +kernel, by decide +kernel⟩, List.mem_of_getElem? (i := 93) (by decide +kernel), List.mem_of_getElem? (i := 511) (by decide +kernel), List.mem_of_getElem? (i := 512) (by decide +kernel)⟩
theorem lw_p20 : lw_okq (⟨"CallExplorer$Runner", "getNext", "(III)I"⟩, 9) := ⟨⟨by decide +kernel, by decide +kernel⟩, List.mem_of_getElem? (i := 93) (by decide +kernel), List.mem_of_getElem? (i := 519) (by decide +kernel), List.mem_of_getElem? (i := 520) (by decide +kernel)⟩
theorem lw_p21 : lw_okq (⟨"CallExplorer$Runner", "getNextValue", "(II)I"⟩, 9) := ⟨⟨by decide +kernel, by decide +kernel⟩, List.mem_of_getElem? (i := 93) (by decide +kernel), List.mem_of_getElem? (i := 524) (by decide +kernel), List.mem_of_getElem? (i := 525) (by decide +kernel)⟩
theorem lw_p22 : lw_okq (⟨"CallExplorer$Runner", "endWithTrouble", "(LCallExplorer$Sequence;II)V"⟩, 9) := ⟨⟨by decide +kernel, by decide +kernel⟩, List.mem_of_getElem? (i := 93) (by decide +kernel), List.mem_of_getElem? (i := 537) (by decide +kernel), List.mem_of_getElem? (i := 538) (by decide +kernel)⟩
theorem lw_p23 : lw_okq (⟨"CallExplorer$Runner", "keepResult", "(LCallExplorer$Sequence;)V"⟩, 9) := ⟨⟨by decide +kernel, by decide +kernel⟩, List.mem_of_getElem? (i := 93) (by decide +kernel), List.mem_of_getElem? (i := 541) (by decide +kernel), List.mem_of_getElem? (i := 542) (by decide +kernel)⟩
theorem lw_p24 : lw_okq (⟨"CallExplorer$Runner", "keepRow", "(I)V"⟩, 9) := ⟨⟨by decide +kernel, by decide +kernel⟩, List.mem_of_getElem? (i := 93) (by decide +kernel), List.mem_of_getElem? (i := 545) (by decide +kernel), List.mem_of_getElem? (i := 546) (by decide +kernel)⟩
theorem lw_p25 : lw_okq (⟨"CallExplorer$Heap", "faultOfPair", "(II)I"⟩, 5) := ⟨⟨by decide +kernel, by decide +kernel⟩, List.mem_of_getElem? (i := 99) (by decide +kernel), List.mem_of_getElem? (i := 554) (by decide +kernel), List.mem_of_getElem? (i := 555) (by decide +kernel)⟩
theorem lw_p26 : lw_okq (⟨"CallExplorer$Heap", "code", "(I)I"⟩, 5) := ⟨⟨by decide +kernel, by decide +kernel⟩, List.mem_of_getElem? (i := 99) (by decide +kernel), List.mem_of_getElem? (i := 558) (by decide +kernel), List.mem_of_getElem? (i := 559) (by decide +kernel)⟩
theorem lw_p27 : lw_okq (⟨"CallExplorer$Book", "knowsShape", "(LCallExplorer$Runner;)Z"⟩, 4) := ⟨⟨by decide +kernel, by decide +kernel⟩, List.mem_of_getElem? (i := 70) (by decide +kernel), List.mem_of_getElem? (i := 567) (by decide +kernel), List.mem_of_getElem? (i := 568) (by decide +kernel)⟩
theorem lw_p28 : lw_okq (⟨"CallExplorer$Shortener", "lowerInTrial", "(LCallExplorer$Sequence;II)Z"⟩, 3) := ⟨⟨by decide +kernel, by decide +kernel⟩, List.mem_of_getElem? (i := 222) (by decide +kernel), List.mem_of_getElem? (i := 653) (by decide +kernel), List.mem_of_getElem? (i := 654) (by decide +kernel)⟩
theorem lw_p29 : lw_okq (⟨"CallExplorer$Shortener", "keepIfSame", "(LCallExplorer$Entry;)V"⟩, 3) := ⟨⟨by decide +kernel, by decide +kernel⟩, List.mem_of_getElem? (i := 222) (by decide +kernel), List.mem_of_getElem? (i := 663) (by decide +kernel), List.mem_of_getElem? (i := 664) (by decide +kernel)⟩
theorem lw_p30 : lw_okq (⟨"CallExplorer$Writer", "writeCall", "(LCallExplorer$Sequence;I)V"⟩, 2) := ⟨⟨by decide +kernel, by decide +kernel⟩, List.mem_of_getElem? (i := 240) (by decide +kernel), List.mem_of_getElem? (i := 705) (by decide +kernel), List.mem_of_getElem? (i := 706) (by decide +kernel)⟩
theorem lw_p31 : lw_okq (⟨"CallExplorer$Writer", "put", "(C)V"⟩, 2) := ⟨⟨by decide +kernel, by decide +kernel⟩, List.mem_of_getElem? (i := 240) (by decide +kernel), List.mem_of_getElem? (i := 710) (by decide +kernel), List.mem_of_getElem? (i := 711) (by decide +kernel)⟩
def lw_privs_2 : List (MethodName × Nat) := [(⟨"CallExplorer$Runner", "canBeValue", "(J)Z"⟩, 9), (⟨"CallExplorer$Runner", "give", "(II)I"⟩, 9), (⟨"CallExplorer$Runner", "add", "(III)I"⟩, 9), (⟨"CallExplorer$Runner", "link", "(III)I"⟩, 9), (⟨"CallExplorer$Runner", "getNext", "(III)I"⟩, 9), (⟨"CallExplorer$Runner", "getNextValue", "(II)I"⟩, 9), (⟨"CallExplorer$Runner", "endWithTrouble", "(LCallExplorer$Sequence;II)V"⟩, 9), (⟨"CallExplorer$Runner", "keepResult", "(LCallExplorer$Sequence;)V"⟩, 9), (⟨"CallExplorer$Runner", "keepRow", "(I)V"⟩, 9), (⟨"CallExplorer$Heap", "faultOfPair", "(II)I"⟩, 5), (⟨"CallExplorer$Heap", "code", "(I)I"⟩, 5), (⟨"CallExplorer$Book", "knowsShape", "(LCallExplorer$Runner;)Z"⟩, 4), (⟨"CallExplorer$Shortener", "lowerInTrial", "(LCallExplorer$Sequence;II)Z"⟩, 3), (⟨"CallExplorer$Shortener", "keepIfSame", "(LCallExplorer$Entry;)V"⟩, 3), (⟨"CallExplorer$Writer", "writeCall", "(LCallExplorer$Sequence;I)V"⟩, 2), (⟨"CallExplorer$Writer", "put", "(C)V"⟩, 2)]
theorem lw_r2 : ∀ q ∈ lw_privs_2, lw_okq q := List.forall_mem_cons.mpr ⟨lw_p16, List.forall_mem_cons.mpr ⟨lw_p17, List.forall_mem_cons.mpr ⟨lw_p18, List.forall_mem_cons.mpr ⟨lw_p19, List.forall_mem_cons.mpr ⟨lw_p20, List.forall_mem_cons.mpr ⟨lw_p21, List.forall_mem_cons.mpr ⟨lw_p22, List.forall_mem_cons.mpr ⟨lw_p23, List.forall_mem_cons.mpr ⟨lw_p24, List.forall_mem_cons.mpr ⟨lw_p25, List.forall_mem_cons.mpr ⟨lw_p26, List.forall_mem_cons.mpr ⟨lw_p27, List.forall_mem_cons.mpr ⟨lw_p28, List.forall_mem_cons.mpr ⟨lw_p29, List.forall_mem_cons.mpr ⟨lw_p30, List.forall_mem_cons.mpr ⟨lw_p31, fun _ h => absurd h List.not_mem_nil⟩⟩⟩⟩⟩⟩⟩⟩⟩⟩⟩⟩⟩⟩⟩⟩
theorem lw_p32 : lw_okq (⟨"CallExplorer$Writer", "writeArgument", "(II)V"⟩, 2) := ⟨⟨by decide +kernel, by decide +kernel⟩, List.mem_of_getElem? (i := 240) (by decide +kernel), List.mem_of_getElem? (i := 716) (by decide +kernel), List.mem_of_getElem? (i := 717) (by decide +kernel)⟩
theorem lw_p33 : lw_okq (⟨"CallExplorer$Writer", "writeNumber", "(I)V"⟩, 2) := ⟨⟨by decide +kernel, by decide +kernel⟩, List.mem_of_getElem? (i := 240) (by decide +kernel), List.mem_of_getElem? (i := 720) (by decide +kernel), List.mem_of_getElem? (i := 721) (by decide +kernel)⟩
theorem lw_p34 : lw_okq (⟨"CallExplorer$Writer", "writeEnd", "(LCallExplorer$Entry;)V"⟩, 2) := ⟨⟨by decide +kernel, by decide +kernel⟩, List.mem_of_getElem? (i := 240) (by decide +kernel), List.mem_of_getElem? (i := 727) (by decide +kernel), List.mem_of_getElem? (i := 728) (by decide +kernel)⟩
theorem lw_p35 : lw_okq (⟨"CallExplorer$Writer", "writeResult", "(LCallExplorer$Entry;)V"⟩, 2) := ⟨⟨by decide +kernel, by decide +kernel⟩, List.mem_of_getElem? (i := 240) (by decide +kernel), List.mem_of_getElem? (i := 731) (by decide +kernel), List.mem_of_getElem? (i := 732) (by decide +kernel)⟩
theorem lw_p36 : lw_okq (⟨"CallExplorer$Reader", "countBytes", "(J)I"⟩, 10) := ⟨⟨by decide +kernel, by decide +kernel⟩, List.mem_of_getElem? (i := 256) (by decide +kernel), List.mem_of_getElem? (i := 743) (by decide +kernel), List.mem_of_getElem? (i := 744) (by decide +kernel)⟩
theorem lw_p37 : lw_okq (⟨"CallExplorer$Reader", "byteOf", "(JI)I"⟩, 10) := ⟨⟨by decide +kernel, by decide +kernel⟩, List.mem_of_getElem? (i := 256) (by decide +kernel), List.mem_of_getElem? (i := 747) (by decide +kernel), List.mem_of_getElem? (i := 748) (by decide +kernel)⟩
theorem lw_p38 : lw_okq (⟨"CallExplorer$Reader", "isAtEnd", "()Z"⟩, 10) := ⟨⟨by decide +kernel, by decide +kernel⟩, List.mem_of_getElem? (i := 256) (by decide +kernel), List.mem_of_getElem? (i := 761) (by decide +kernel), List.mem_of_getElem? (i := 762) (by decide +kernel)⟩
theorem lw_p39 : lw_okq (⟨"CallExplorer$Reader", "peek", "()C"⟩, 10) := ⟨⟨by decide +kernel, by decide +kernel⟩, List.mem_of_getElem? (i := 256) (by decide +kernel), List.mem_of_getElem? (i := 765) (by decide +kernel), List.mem_of_getElem? (i := 766) (by decide +kernel)⟩
theorem lw_p40 : lw_okq (⟨"CallExplorer$Reader", "readCall", "()Z"⟩, 10) := ⟨⟨by decide +kernel, by decide +kernel⟩, List.mem_of_getElem? (i := 256) (by decide +kernel), List.mem_of_getElem? (i := 769) (by decide +kernel), List.mem_of_getElem? (i := 770) (by decide +kernel)⟩
theorem lw_p41 : lw_okq (⟨"CallExplorer$Reader", "accept", "(C)Z"⟩, 10) := ⟨⟨by decide +kernel, by decide +kernel⟩, List.mem_of_getElem? (i := 256) (by decide +kernel), List.mem_of_getElem? (i := 774) (by decide +kernel), List.mem_of_getElem? (i := 775) (by decide +kernel)⟩
theorem lw_p42 : lw_okq (⟨"CallExplorer$Reader", "readArgument", "(II)Z"⟩, 10) := ⟨⟨by decide +kernel, by decide +kernel⟩, List.mem_of_getElem? (i := 256) (by decide +kernel), List.mem_of_getElem? (i := 778) (by decide +kernel), List.mem_of_getElem? (i := 779) (by decide +kernel)⟩
theorem lw_p43 : lw_okq (⟨"CallExplorer$Reader", "readVariable", "(III)Z"⟩, 10) := ⟨⟨by decide +kernel, by decide +kernel⟩, List.mem_of_getElem? (i := 256) (by decide +kernel), List.mem_of_getElem? (i := 784) (by decide +kernel), List.mem_of_getElem? (i := 785) (by decide +kernel)⟩
theorem lw_p44 : lw_okq (⟨"CallExplorer$Reader", "isAtDigit", "()Z"⟩, 10) := ⟨⟨by decide +kernel, by decide +kernel⟩, List.mem_of_getElem? (i := 256) (by decide +kernel), List.mem_of_getElem? (i := 788) (by decide +kernel), List.mem_of_getElem? (i := 789) (by decide +kernel)⟩
theorem lw_p45 : lw_okq (⟨"CallExplorer$Reader", "readNumber", "()Z"⟩, 10) := ⟨⟨by decide +kernel, by decide +kernel⟩, List.mem_of_getElem? (i := 256) (by decide +kernel), List.mem_of_getElem? (i := 792) (by decide +kernel), List.mem_of_getElem? (i := 793) (by decide +kernel)⟩
theorem lw_p46 : lw_okq (⟨"CallExplorer$Reader", "readEnd", "()Z"⟩, 10) := ⟨⟨by decide +kernel, by decide +kernel⟩, List.mem_of_getElem? (i := 256) (by decide +kernel), List.mem_of_getElem? (i := 799) (by decide +kernel), List.mem_of_getElem? (i := 800) (by decide +kernel)⟩
theorem lw_p47 : lw_okq (⟨"CallExplorer$Reader", "readDetail", "(I)Z"⟩, 10) := ⟨⟨by decide +kernel, by decide +kernel⟩, List.mem_of_getElem? (i := 256) (by decide +kernel), List.mem_of_getElem? (i := 803) (by decide +kernel), List.mem_of_getElem? (i := 804) (by decide +kernel)⟩
def lw_privs_3 : List (MethodName × Nat) := [(⟨"CallExplorer$Writer", "writeArgument", "(II)V"⟩, 2), (⟨"CallExplorer$Writer", "writeNumber", "(I)V"⟩, 2), (⟨"CallExplorer$Writer", "writeEnd", "(LCallExplorer$Entry;)V"⟩, 2), (⟨"CallExplorer$Writer", "writeResult", "(LCallExplorer$Entry;)V"⟩, 2), (⟨"CallExplorer$Reader", "countBytes", "(J)I"⟩, 10), (⟨"CallExplorer$Reader", "byteOf", "(JI)I"⟩, 10), (⟨"CallExplorer$Reader", "isAtEnd", "()Z"⟩, 10), (⟨"CallExplorer$Reader", "peek", "()C"⟩, 10), (⟨"CallExplorer$Reader", "readCall", "()Z"⟩, 10), (⟨"CallExplorer$Reader", "accept", "(C)Z"⟩, 10), (⟨"CallExplorer$Reader", "readArgument", "(II)Z"⟩, 10), (⟨"CallExplorer$Reader", "readVariable", "(III)Z"⟩, 10), (⟨"CallExplorer$Reader", "isAtDigit", "()Z"⟩, 10), (⟨"CallExplorer$Reader", "readNumber", "()Z"⟩, 10), (⟨"CallExplorer$Reader", "readEnd", "()Z"⟩, 10), (⟨"CallExplorer$Reader", "readDetail", "(I)Z"⟩, 10)]
theorem lw_r3 : ∀ q ∈ lw_privs_3, lw_okq q := List.forall_mem_cons.mpr ⟨lw_p32, List.forall_mem_cons.mpr ⟨lw_p33, List.forall_mem_cons.mpr ⟨lw_p34, List.forall_mem_cons.mpr ⟨lw_p35, List.forall_mem_cons.mpr ⟨lw_p36, List.forall_mem_cons.mpr ⟨lw_p37, List.forall_mem_cons.mpr ⟨lw_p38, List.forall_mem_cons.mpr ⟨lw_p39, List.forall_mem_cons.mpr ⟨lw_p40, List.forall_mem_cons.mpr ⟨lw_p41, List.forall_mem_cons.mpr ⟨lw_p42, List.forall_mem_cons.mpr ⟨lw_p43, List.forall_mem_cons.mpr ⟨lw_p44, List.forall_mem_cons.mpr ⟨lw_p45, List.forall_mem_cons.mpr ⟨lw_p46, List.forall_mem_cons.mpr ⟨lw_p47, fun _ h => absurd h List.not_mem_nil⟩⟩⟩⟩⟩⟩⟩⟩⟩⟩⟩⟩⟩⟩⟩⟩
theorem lw_p48 : lw_okq (⟨"CallExplorer$Reader", "readResult", "()Z"⟩, 10) := ⟨⟨by decide +kernel, by decide +kernel⟩, List.mem_of_getElem? (i := 256) (by decide +kernel), List.mem_of_getElem? (i := 807) (by decide +kernel), List.mem_of_getElem? (i := 808) (by decide +kernel)⟩
theorem lw_p49 : lw_okq (⟨"CallExplorerModel", "isClass", "(I)Z"⟩, 43) := ⟨⟨by decide +kernel, by decide +kernel⟩, List.mem_of_getElem? (i := 823) (by decide +kernel), List.mem_of_getElem? (i := 967) (by decide +kernel), List.mem_of_getElem? (i := 968) (by decide +kernel)⟩
theorem lw_p50 : lw_okq (⟨"CallExplorerModel", "random", "(I)I"⟩, 43) := ⟨⟨by decide +kernel, by decide +kernel⟩, List.mem_of_getElem? (i := 823) (by decide +kernel), List.mem_of_getElem? (i := 982) (by decide +kernel), List.mem_of_getElem? (i := 983) (by decide +kernel)⟩
theorem lw_p51 : lw_okq (⟨"CallExplorerModel", "wants", "(II)I"⟩, 43) := ⟨⟨by decide +kernel, by decide +kernel⟩, List.mem_of_getElem? (i := 823) (by decide +kernel), List.mem_of_getElem? (i := 990) (by decide +kernel), List.mem_of_getElem? (i := 991) (by decide +kernel)⟩
theorem lw_p52 : lw_okq (⟨"CallExplorerModel", "chosen", "(II)I"⟩, 43) := ⟨⟨by decide +kernel, by decide +kernel⟩, List.mem_of_getElem? (i := 823) (by decide +kernel), List.mem_of_getElem? (i := 994) (by decide +kernel), List.mem_of_getElem? (i := 995) (by decide +kernel)⟩
theorem lw_p53 : lw_okq (⟨"CallExplorerModel", "offered", "(I)I"⟩, 43) := ⟨⟨by decide +kernel, by decide +kernel⟩, List.mem_of_getElem? (i := 823) (by decide +kernel), List.mem_of_getElem? (i := 998) (by decide +kernel), List.mem_of_getElem? (i := 999) (by decide +kernel)⟩
theorem lw_p54 : lw_okq (⟨"CallExplorerModel", "offers", "(II)Z"⟩, 43) := ⟨⟨by decide +kernel, by decide +kernel⟩, List.mem_of_getElem? (i := 823) (by decide +kernel), List.mem_of_getElem? (i := 1002) (by decide +kernel), List.mem_of_getElem? (i := 1003) (by decide +kernel)⟩
theorem lw_p55 : lw_okq (⟨"CallExplorerModel", "typeOf", "(I)I"⟩, 43) := ⟨⟨by decide +kernel, by decide +kernel⟩, List.mem_of_getElem? (i := 823) (by decide +kernel), List.mem_of_getElem? (i := 1006) (by decide +kernel), List.mem_of_getElem? (i := 1007) (by decide +kernel)⟩
theorem lw_p56 : lw_okq (⟨"CallExplorerModel", "gives", "(I)I"⟩, 43) := ⟨⟨by decide +kernel, by decide +kernel⟩, List.mem_of_getElem? (i := 823) (by decide +kernel), List.mem_of_getElem? (i := 1010) (by decide +kernel), List.mem_of_getElem? (i := 1011) (by decide +kernel)⟩
theorem lw_p57 : lw_okq (⟨"CallExplorerModel", "is", "(II)Z"⟩, 43) := ⟨⟨by decide +kernel, by decide +kernel⟩, List.mem_of_getElem? (i := 823) (by decide +kernel), List.mem_of_getElem? (i := 1014) (by decide +kernel), List.mem_of_getElem? (i := 1015) (by decide +kernel)⟩
theorem lw_p58 : lw_okq (⟨"CallExplorerModel", "take", "(III)V"⟩, 43) := ⟨⟨by decide +kernel, by decide +kernel⟩, List.mem_of_getElem? (i := 823) (by decide +kernel), List.mem_of_getElem? (i := 1018) (by decide +kernel), List.mem_of_getElem? (i := 1019) (by decide +kernel)⟩
theorem lw_p59 : lw_okq (⟨"CallExplorerModel", "copyFrom", "(II)V"⟩, 43) := ⟨⟨by decide +kernel, by decide +kernel⟩, List.mem_of_getElem? (i := 823) (by decide +kernel), List.mem_of_getElem? (i := 1022) (by decide +kernel), List.mem_of_getElem? (i := 1023) (by decide +kernel)⟩
theorem lw_p60 : lw_okq (⟨"CallExplorerModel", "choose", "(III)V"⟩, 43) := ⟨⟨by decide +kernel, by decide +kernel⟩, List.mem_of_getElem? (i := 823) (by decide +kernel), List.mem_of_getElem? (i := 1026) (by decide +kernel), List.mem_of_getElem? (i := 1027) (by decide +kernel)⟩
theorem lw_p61 : lw_okq (⟨"CallExplorerModel", "put", "(I)V"⟩, 43) := ⟨⟨by decide +kernel, by decide +kernel⟩, List.mem_of_getElem? (i := 823) (by decide +kernel), List.mem_of_getElem? (i := 1030) (by decide +kernel), List.mem_of_getElem? (i := 1031) (by decide +kernel)⟩
theorem lw_p62 : lw_okq (⟨"CallExplorerModel", "known", "()Z"⟩, 43) := ⟨⟨by decide +kernel, by decide +kernel⟩, List.mem_of_getElem? (i := 823) (by decide +kernel), List.mem_of_getElem? (i := 1034) (by decide +kernel), List.mem_of_getElem? (i := 1035) (by decide +kernel)⟩
theorem lw_p63 : lw_okq (⟨"CallExplorerModel", "alike", "(II)Z"⟩, 43) := ⟨⟨by decide +kernel, by decide +kernel⟩, List.mem_of_getElem? (i := 823) (by decide +kernel), List.mem_of_getElem? (i := 1038) (by decide +kernel), List.mem_of_getElem? (i := 1039) (by decide +kernel)⟩
def lw_privs_4 : List (MethodName × Nat) := [(⟨"CallExplorer$Reader", "readResult", "()Z"⟩, 10), (⟨"CallExplorerModel", "isClass", "(I)Z"⟩, 43), (⟨"CallExplorerModel", "random", "(I)I"⟩, 43), (⟨"CallExplorerModel", "wants", "(II)I"⟩, 43), (⟨"CallExplorerModel", "chosen", "(II)I"⟩, 43), (⟨"CallExplorerModel", "offered", "(I)I"⟩, 43), (⟨"CallExplorerModel", "offers", "(II)Z"⟩, 43), (⟨"CallExplorerModel", "typeOf", "(I)I"⟩, 43), (⟨"CallExplorerModel", "gives", "(I)I"⟩, 43), (⟨"CallExplorerModel", "is", "(II)Z"⟩, 43), (⟨"CallExplorerModel", "take", "(III)V"⟩, 43), (⟨"CallExplorerModel", "copyFrom", "(II)V"⟩, 43), (⟨"CallExplorerModel", "choose", "(III)V"⟩, 43), (⟨"CallExplorerModel", "put", "(I)V"⟩, 43), (⟨"CallExplorerModel", "known", "()Z"⟩, 43), (⟨"CallExplorerModel", "alike", "(II)Z"⟩, 43)]
theorem lw_r4 : ∀ q ∈ lw_privs_4, lw_okq q := List.forall_mem_cons.mpr ⟨lw_p48, List.forall_mem_cons.mpr ⟨lw_p49, List.forall_mem_cons.mpr ⟨lw_p50, List.forall_mem_cons.mpr ⟨lw_p51, List.forall_mem_cons.mpr ⟨lw_p52, List.forall_mem_cons.mpr ⟨lw_p53, List.forall_mem_cons.mpr ⟨lw_p54, List.forall_mem_cons.mpr ⟨lw_p55, List.forall_mem_cons.mpr ⟨lw_p56, List.forall_mem_cons.mpr ⟨lw_p57, List.forall_mem_cons.mpr ⟨lw_p58, List.forall_mem_cons.mpr ⟨lw_p59, List.forall_mem_cons.mpr ⟨lw_p60, List.forall_mem_cons.mpr ⟨lw_p61, List.forall_mem_cons.mpr ⟨lw_p62, List.forall_mem_cons.mpr ⟨lw_p63, fun _ h => absurd h List.not_mem_nil⟩⟩⟩⟩⟩⟩⟩⟩⟩⟩⟩⟩⟩⟩⟩⟩
theorem lw_p64 : lw_okq (⟨"CallExplorerModel", "entered", "()I"⟩, 43) := ⟨⟨by decide +kernel, by decide +kernel⟩, List.mem_of_getElem? (i := 823) (by decide +kernel), List.mem_of_getElem? (i := 1042) (by decide +kernel), List.mem_of_getElem? (i := 1043) (by decide +kernel)⟩
theorem lw_p65 : lw_okq (⟨"CallExplorerModel", "store", "(I)V"⟩, 43) := ⟨⟨by decide +kernel, by decide +kernel⟩, List.mem_of_getElem? (i := 823) (by decide +kernel), List.mem_of_getElem? (i := 1046) (by decide +kernel), List.mem_of_getElem? (i := 1047) (by decide +kernel)⟩
theorem lw_p66 : lw_okq (⟨"CallExplorerModel", "run", "()V"⟩, 43) := ⟨⟨by decide +kernel, by decide +kernel⟩, List.mem_of_getElem? (i := 823) (by decide +kernel), List.mem_of_getElem? (i := 1050) (by decide +kernel), List.mem_of_getElem? (i := 1051) (by decide +kernel)⟩
theorem lw_p67 : lw_okq (⟨"CallExplorerModel", "perform", "(I)I"⟩, 43) := ⟨⟨by decide +kernel, by decide +kernel⟩, List.mem_of_getElem? (i := 823) (by decide +kernel), List.mem_of_getElem? (i := 1054) (by decide +kernel), List.mem_of_getElem? (i := 1055) (by decide +kernel)⟩
theorem lw_p68 : lw_okq (⟨"CallExplorerModel", "valueOf", "(II)I"⟩, 43) := ⟨⟨by decide +kernel, by decide +kernel⟩, List.mem_of_getElem? (i := 823) (by decide +kernel), List.mem_of_getElem? (i := 1058) (by decide +kernel), List.mem_of_getElem? (i := 1059) (by decide +kernel)⟩
theorem lw_p69 : lw_okq (⟨"CallExplorerModel", "made", "(III)I"⟩, 43) := ⟨⟨by decide +kernel, by decide +kernel⟩, List.mem_of_getElem? (i := 823) (by decide +kernel), List.mem_of_getElem? (i := 1067) (by decide +kernel), List.mem_of_getElem? (i := 1068) (by decide +kernel)⟩
theorem lw_p70 : lw_okq (⟨"CallExplorerModel", "reaches", "(II)Z"⟩, 43) := ⟨⟨by decide +kernel, by decide +kernel⟩, List.mem_of_getElem? (i := 823) (by decide +kernel), List.mem_of_getElem? (i := 1071) (by decide +kernel), List.mem_of_getElem? (i := 1072) (by decide +kernel)⟩
theorem lw_p71 : lw_okq (⟨"CallExplorerModel", "count", "(I)I"⟩, 43) := ⟨⟨by decide +kernel, by decide +kernel⟩, List.mem_of_getElem? (i := 823) (by decide +kernel), List.mem_of_getElem? (i := 1075) (by decide +kernel), List.mem_of_getElem? (i := 1076) (by decide +kernel)⟩
theorem lw_p72 : lw_okq (⟨"CallExplorerModel", "equal", "(II)Z"⟩, 43) := ⟨⟨by decide +kernel, by decide +kernel⟩, List.mem_of_getElem? (i := 823) (by decide +kernel), List.mem_of_getElem? (i := 1079) (by decide +kernel), List.mem_of_getElem? (i := 1080) (by decide +kernel)⟩
theorem lw_p73 : lw_okq (⟨"CallExplorerModel", "hadNull", "(I)Z"⟩, 43) := ⟨⟨by decide +kernel, by decide +kernel⟩, List.mem_of_getElem? (i := 823) (by decide +kernel), List.mem_of_getElem? (i := 1083) (by decide +kernel), List.mem_of_getElem? (i := 1084) (by decide +kernel)⟩
theorem lw_p74 : lw_okq (⟨"CallExplorerModel", "unsound", "()I"⟩, 43) := ⟨⟨by decide +kernel, by decide +kernel⟩, List.mem_of_getElem? (i := 823) (by decide +kernel), List.mem_of_getElem? (i := 1087) (by decide +kernel), List.mem_of_getElem? (i := 1088) (by decide +kernel)⟩
theorem lw_p75 : lw_okq (⟨"CallExplorerModel", "codeOf", "(I)I"⟩, 43) := ⟨⟨by decide +kernel, by decide +kernel⟩, List.mem_of_getElem? (i := 823) (by decide +kernel), List.mem_of_getElem? (i := 1091) (by decide +kernel), List.mem_of_getElem? (i := 1092) (by decide +kernel)⟩
theorem lw_p76 : lw_okq (⟨"CallExplorerModel", "form", "()V"⟩, 43) := ⟨⟨by decide +kernel, by decide +kernel⟩, List.mem_of_getElem? (i := 823) (by decide +kernel), List.mem_of_getElem? (i := 1095) (by decide +kernel), List.mem_of_getElem? (i := 1096) (by decide +kernel)⟩
theorem lw_p77 : lw_okq (⟨"CallExplorerModel", "seen", "()Z"⟩, 43) := ⟨⟨by decide +kernel, by decide +kernel⟩, List.mem_of_getElem? (i := 823) (by decide +kernel), List.mem_of_getElem? (i := 1099) (by decide +kernel), List.mem_of_getElem? (i := 1100) (by decide +kernel)⟩
theorem lw_p78 : lw_okq (⟨"CallExplorerModel", "load", "(I)V"⟩, 43) := ⟨⟨by decide +kernel, by decide +kernel⟩, List.mem_of_getElem? (i := 823) (by decide +kernel), List.mem_of_getElem? (i := 1103) (by decide +kernel), List.mem_of_getElem? (i := 1104) (by decide +kernel)⟩
theorem lw_p79 : lw_okq (⟨"CallExplorerModel", "simpler", "(II)V"⟩, 43) := ⟨⟨by decide +kernel, by decide +kernel⟩, List.mem_of_getElem? (i := 823) (by decide +kernel), List.mem_of_getElem? (i := 1116) (by decide +kernel), List.mem_of_getElem? (i := 1117) (by decide +kernel)⟩
def lw_privs_5 : List (MethodName × Nat) := [(⟨"CallExplorerModel", "entered", "()I"⟩, 43), (⟨"CallExplorerModel", "store", "(I)V"⟩, 43), (⟨"CallExplorerModel", "run", "()V"⟩, 43), (⟨"CallExplorerModel", "perform", "(I)I"⟩, 43), (⟨"CallExplorerModel", "valueOf", "(II)I"⟩, 43), (⟨"CallExplorerModel", "made", "(III)I"⟩, 43), (⟨"CallExplorerModel", "reaches", "(II)Z"⟩, 43), (⟨"CallExplorerModel", "count", "(I)I"⟩, 43), (⟨"CallExplorerModel", "equal", "(II)Z"⟩, 43), (⟨"CallExplorerModel", "hadNull", "(I)Z"⟩, 43), (⟨"CallExplorerModel", "unsound", "()I"⟩, 43), (⟨"CallExplorerModel", "codeOf", "(I)I"⟩, 43), (⟨"CallExplorerModel", "form", "()V"⟩, 43), (⟨"CallExplorerModel", "seen", "()Z"⟩, 43), (⟨"CallExplorerModel", "load", "(I)V"⟩, 43), (⟨"CallExplorerModel", "simpler", "(II)V"⟩, 43)]
theorem lw_r5 : ∀ q ∈ lw_privs_5, lw_okq q := List.forall_mem_cons.mpr ⟨lw_p64, List.forall_mem_cons.mpr ⟨lw_p65, List.forall_mem_cons.mpr ⟨lw_p66, List.forall_mem_cons.mpr ⟨lw_p67, List.forall_mem_cons.mpr ⟨lw_p68, List.forall_mem_cons.mpr ⟨lw_p69, List.forall_mem_cons.mpr ⟨lw_p70, List.forall_mem_cons.mpr ⟨lw_p71, List.forall_mem_cons.mpr ⟨lw_p72, List.forall_mem_cons.mpr ⟨lw_p73, List.forall_mem_cons.mpr ⟨lw_p74, List.forall_mem_cons.mpr ⟨lw_p75, List.forall_mem_cons.mpr ⟨lw_p76, List.forall_mem_cons.mpr ⟨lw_p77, List.forall_mem_cons.mpr ⟨lw_p78, List.forall_mem_cons.mpr ⟨lw_p79, fun _ h => absurd h List.not_mem_nil⟩⟩⟩⟩⟩⟩⟩⟩⟩⟩⟩⟩⟩⟩⟩⟩
theorem lw_p80 : lw_okq (⟨"CallExplorerModel", "settle", "(I)V"⟩, 43) := ⟨⟨by decide +kernel, by decide +kernel⟩, List.mem_of_getElem? (i := 823) (by decide +kernel), List.mem_of_getElem? (i := 1120) (by decide +kernel), List.mem_of_getElem? (i := 1121) (by decide +kernel)⟩
theorem lw_p81 : lw_okq (⟨"CallExplorerModel", "used", "(I)Z"⟩, 43) := ⟨⟨by decide +kernel, by decide +kernel⟩, List.mem_of_getElem? (i := 823) (by decide +kernel), List.mem_of_getElem? (i := 1124) (by decide +kernel), List.mem_of_getElem? (i := 1125) (by decide +kernel)⟩
theorem lw_p82 : lw_okq (⟨"CallExplorerModel", "without", "(I)V"⟩, 43) := ⟨⟨by decide +kernel, by decide +kernel⟩, List.mem_of_getElem? (i := 823) (by decide +kernel), List.mem_of_getElem? (i := 1128) (by decide +kernel), List.mem_of_getElem? (i := 1129) (by decide +kernel)⟩
theorem lw_p83 : lw_okq (⟨"CallExplorerModel", "writeAll", "(I)V"⟩, 43) := ⟨⟨by decide +kernel, by decide +kernel⟩, List.mem_of_getElem? (i := 823) (by decide +kernel), List.mem_of_getElem? (i := 1148) (by decide +kernel), List.mem_of_getElem? (i := 1149) (by decide +kernel)⟩
theorem lw_p84 : lw_okq (⟨"CallExplorerModel", "write", "(I)V"⟩, 43) := ⟨⟨by decide +kernel, by decide +kernel⟩, List.mem_of_getElem? (i := 823) (by decide +kernel), List.mem_of_getElem? (i := 1152) (by decide +kernel), List.mem_of_getElem? (i := 1153) (by decide +kernel)⟩
theorem lw_p85 : lw_okq (⟨"CallExplorerModel", "writeNumber", "(I)V"⟩, 43) := ⟨⟨by decide +kernel, by decide +kernel⟩, List.mem_of_getElem? (i := 823) (by decide +kernel), List.mem_of_getElem? (i := 1156) (by decide +kernel), List.mem_of_getElem? (i := 1157) (by decide +kernel)⟩
theorem lw_p86 : lw_okq (⟨"CallExplorerModel", "peek", "()I"⟩, 43) := ⟨⟨by decide +kernel, by decide +kernel⟩, List.mem_of_getElem? (i := 823) (by decide +kernel), List.mem_of_getElem? (i := 1172) (by decide +kernel), List.mem_of_getElem? (i := 1173) (by decide +kernel)⟩
theorem lw_p87 : lw_okq (⟨"CallExplorerModel", "readStatement", "()V"⟩, 43) := ⟨⟨by decide +kernel, by decide +kernel⟩, List.mem_of_getElem? (i := 823) (by decide +kernel), List.mem_of_getElem? (i := 1176) (by decide +kernel), List.mem_of_getElem? (i := 1177) (by decide +kernel)⟩
theorem lw_p88 : lw_okq (⟨"CallExplorerModel", "expect", "(I)V"⟩, 43) := ⟨⟨by decide +kernel, by decide +kernel⟩, List.mem_of_getElem? (i := 823) (by decide +kernel), List.mem_of_getElem? (i := 1180) (by decide +kernel), List.mem_of_getElem? (i := 1181) (by decide +kernel)⟩
theorem lw_p89 : lw_okq (⟨"CallExplorerModel", "readArgument", "(II)V"⟩, 43) := ⟨⟨by decide +kernel, by decide +kernel⟩, List.mem_of_getElem? (i := 823) (by decide +kernel), List.mem_of_getElem? (i := 1184) (by decide +kernel), List.mem_of_getElem? (i := 1185) (by decide +kernel)⟩
theorem lw_p90 : lw_okq (⟨"CallExplorerModel", "number", "(Z)I"⟩, 43) := ⟨⟨by decide +kernel, by decide +kernel⟩, List.mem_of_getElem? (i := 823) (by decide +kernel), List.mem_of_getElem? (i := 1188) (by decide +kernel), List.mem_of_getElem? (i := 1189) (by decide +kernel)⟩
theorem lw_p91 : lw_okq (⟨"CallExplorerModel", "rightEnd", "()Z"⟩, 43) := ⟨⟨by decide +kernel, by decide +kernel⟩, List.mem_of_getElem? (i := 823) (by decide +kernel), List.mem_of_getElem? (i := 1195) (by decide +kernel), List.mem_of_getElem? (i := 1196) (by decide +kernel)⟩
def lw_privs_6 : List (MethodName × Nat) := [(⟨"CallExplorerModel", "settle", "(I)V"⟩, 43), (⟨"CallExplorerModel", "used", "(I)Z"⟩, 43), (⟨"CallExplorerModel", "without", "(I)V"⟩, 43), (⟨"CallExplorerModel", "writeAll", "(I)V"⟩, 43), (⟨"CallExplorerModel", "write", "(I)V"⟩, 43), (⟨"CallExplorerModel", "writeNumber", "(I)V"⟩, 43), (⟨"CallExplorerModel", "peek", "()I"⟩, 43), (⟨"CallExplorerModel", "readStatement", "()V"⟩, 43), (⟨"CallExplorerModel", "expect", "(I)V"⟩, 43), (⟨"CallExplorerModel", "readArgument", "(II)V"⟩, 43), (⟨"CallExplorerModel", "number", "(Z)I"⟩, 43), (⟨"CallExplorerModel", "rightEnd", "()Z"⟩, 43)]
theorem lw_r6 : ∀ q ∈ lw_privs_6, lw_okq q := List.forall_mem_cons.mpr ⟨lw_p80, List.forall_mem_cons.mpr ⟨lw_p81, List.forall_mem_cons.mpr ⟨lw_p82, List.forall_mem_cons.mpr ⟨lw_p83, List.forall_mem_cons.mpr ⟨lw_p84, List.forall_mem_cons.mpr ⟨lw_p85, List.forall_mem_cons.mpr ⟨lw_p86, List.forall_mem_cons.mpr ⟨lw_p87, List.forall_mem_cons.mpr ⟨lw_p88, List.forall_mem_cons.mpr ⟨lw_p89, List.forall_mem_cons.mpr ⟨lw_p90, List.forall_mem_cons.mpr ⟨lw_p91, fun _ h => absurd h List.not_mem_nil⟩⟩⟩⟩⟩⟩⟩⟩⟩⟩⟩⟩
def lw_privs : List (MethodName × Nat) := lw_privs_1 ++ (lw_privs_2 ++ (lw_privs_3 ++ (lw_privs_4 ++ (lw_privs_5 ++ (lw_privs_6)))))
def lw_tbl : List Cond := k2_sels lw_privs ++ tables_1
theorem lw_privs_ok : ∀ q ∈ lw_privs, lw_okq q := by
  show ∀ q ∈ lw_privs_1 ++ (lw_privs_2 ++ (lw_privs_3 ++ (lw_privs_4 ++ (lw_privs_5 ++ (lw_privs_6))))), lw_okq q
  exact List.forall_mem_append.mpr ⟨lw_r1, List.forall_mem_append.mpr ⟨lw_r2, List.forall_mem_append.mpr ⟨lw_r3, List.forall_mem_append.mpr ⟨lw_r4, List.forall_mem_append.mpr ⟨lw_r5, lw_r6⟩⟩⟩⟩⟩
end
section
/-! names: classes with their fields, methods, and the words of the tables by their places; printed by wip/whole/gen/names.py -/
def zt : List Cond := lw_tbl.filter goodWord
theorem zgood : ∀ w ∈ zt, (w.onTables && w.keeps) = true ∨ ∃ ty, w = .arrayClass ty := fun w h => good_of_word (List.mem_filter.mp h).2
theorem zin {w : Cond} (h : w ∈ lw_tbl) (g : goodWord w = true) : w ∈ zt := List.mem_filter.mpr ⟨h, g⟩
def RBook : String := "CallExplorer$Book"
def TBook : u_T := fun k => match k with
  | 0 => ("CallExplorer$Book", "catalog", "LCallExplorer$Catalog;", true)
  | 1 => ("CallExplorer$Book", "size", "I", false)
  | 2 => ("CallExplorer$Book", "rows", "[LCallExplorer$Entry;", true)
  | _ => ("CallExplorer$Book", "listed", "[I", true)
def tyBook : Nat → FieldType := fun k => match k with
  | 0 => .object "CallExplorer$Catalog"
  | 1 => .int
  | 2 => .array (.object "CallExplorer$Entry")
  | _ => .array .int
theorem nmBook : ∀ a, a < 4 → ∀ b, b < 4 → a ≠ b → (TBook a).2.1 ≠ (TBook b).2.1 := by decide +kernel
theorem tyBook_ok : ∀ k, k < 4 → parseFieldDescriptor (TBook k).2.2.1 = some (tyBook k) := by decide +kernel
theorem inBook : ∀ w ∈ u_ws "CallExplorer$Book" TBook 4, w ∈ zt := fun w h => zin (List.mem_append_right _ (of_decide_eq_true (List.all_eq_true.mp (show (u_ws "CallExplorer$Book" TBook 4).all (fun w => decide (w ∈ tables_1)) = true by decide +kernel) w h))) (List.all_eq_true.mp (show (u_ws "CallExplorer$Book" TBook 4).all goodWord = true by decide +kernel) w h)
def RCatalog : String := "CallExplorer$Catalog"
def TCatalog : u_T := fun k => match k with
  | 0 => ("CallExplorer$Catalog", "classes", "I", false)
  | 1 => ("CallExplorer$Catalog", "operations", "I", false)
  | 2 => ("CallExplorer$Catalog", "parents", "[I", true)
  | 3 => ("CallExplorer$Catalog", "senses", "[I", true)
  | 4 => ("CallExplorer$Catalog", "marks", "[I", true)
  | 5 => ("CallExplorer$Catalog", "kinds", "[I", true)
  | 6 => ("CallExplorer$Catalog", "firstTypes", "[I", true)
  | 7 => ("CallExplorer$Catalog", "secondTypes", "[I", true)
  | _ => ("CallExplorer$Catalog", "resultTypes", "[I", true)
def tyCatalog : Nat → FieldType := fun k => match k with
  | 0 => .int
  | 1 => .int
  | 2 => .array .int
  | 3 => .array .int
  | 4 => .array .int
  | 5 => .array .int
  | 6 => .array .int
  | 7 => .array .int
  | _ => .array .int
theorem nmCatalog : ∀ a, a < 9 → ∀ b, b < 9 → a ≠ b → (TCatalog a).2.1 ≠ (TCatalog b).2.1 := by decide +kernel
theorem tyCatalog_ok : ∀ k, k < 9 → parseFieldDescriptor (TCatalog k).2.2.1 = some (tyCatalog k) := by decide +kernel
theorem inCatalog : ∀ w ∈ u_ws "CallExplorer$Catalog" TCatalog 9, w ∈ zt := fun w h => zin (List.mem_append_right _ (of_decide_eq_true (List.all_eq_true.mp (show (u_ws "CallExplorer$Catalog" TCatalog 9).all (fun w => decide (w ∈ tables_1)) = true by decide +kernel) w h))) (List.all_eq_true.mp (show (u_ws "CallExplorer$Catalog" TCatalog 9).all goodWord = true by decide +kernel) w h)
def REntry : String := "CallExplorer$Entry"
def TEntry : u_T := fun k => match k with
  | 0 => ("CallExplorer$Entry", "sequence", "LCallExplorer$Sequence;", true)
  | 1 => ("CallExplorer$Entry", "outcome", "I", true)
  | 2 => ("CallExplorer$Entry", "detail", "I", true)
  | 3 => ("CallExplorer$Entry", "type", "I", true)
  | 4 => ("CallExplorer$Entry", "gave", "I", true)
  | 5 => ("CallExplorer$Entry", "number", "I", true)
  | _ => ("CallExplorer$Entry", "row", "[I", true)
def tyEntry : Nat → FieldType := fun k => match k with
  | 0 => .object "CallExplorer$Sequence"
  | 1 => .int
  | 2 => .int
  | 3 => .int
  | 4 => .int
  | 5 => .int
  | _ => .array .int
theorem nmEntry : ∀ a, a < 7 → ∀ b, b < 7 → a ≠ b → (TEntry a).2.1 ≠ (TEntry b).2.1 := by decide +kernel
theorem tyEntry_ok : ∀ k, k < 7 → parseFieldDescriptor (TEntry k).2.2.1 = some (tyEntry k) := by decide +kernel
theorem inEntry : ∀ w ∈ u_ws "CallExplorer$Entry" TEntry 7, w ∈ zt := fun w h => zin (List.mem_append_right _ (of_decide_eq_true (List.all_eq_true.mp (show (u_ws "CallExplorer$Entry" TEntry 7).all (fun w => decide (w ∈ tables_1)) = true by decide +kernel) w h))) (List.all_eq_true.mp (show (u_ws "CallExplorer$Entry" TEntry 7).all goodWord = true by decide +kernel) w h)
def RGrower : String := "CallExplorer$Grower"
def TGrower : u_T := fun k => match k with
  | 0 => ("CallExplorer$Grower", "catalog", "LCallExplorer$Catalog;", true)
  | 1 => ("CallExplorer$Grower", "book", "LCallExplorer$Book;", true)
  | 2 => ("CallExplorer$Grower", "runner", "LCallExplorer$Runner;", true)
  | 3 => ("CallExplorer$Grower", "sequence", "LCallExplorer$Sequence;", true)
  | 4 => ("CallExplorer$Grower", "literals", "[I", true)
  | 5 => ("CallExplorer$Grower", "literalCount", "I", false)
  | 6 => ("CallExplorer$Grower", "seed", "I", false)
  | 7 => ("CallExplorer$Grower", "forms", "[I", true)
  | _ => ("CallExplorer$Grower", "contents", "[I", true)
def tyGrower : Nat → FieldType := fun k => match k with
  | 0 => .object "CallExplorer$Catalog"
  | 1 => .object "CallExplorer$Book"
  | 2 => .object "CallExplorer$Runner"
  | 3 => .object "CallExplorer$Sequence"
  | 4 => .array .int
  | 5 => .int
  | 6 => .int
  | 7 => .array .int
  | _ => .array .int
theorem nmGrower : ∀ a, a < 9 → ∀ b, b < 9 → a ≠ b → (TGrower a).2.1 ≠ (TGrower b).2.1 := by decide +kernel
theorem tyGrower_ok : ∀ k, k < 9 → parseFieldDescriptor (TGrower k).2.2.1 = some (tyGrower k) := by decide +kernel
theorem inGrower : ∀ w ∈ u_ws "CallExplorer$Grower" TGrower 9, w ∈ zt := fun w h => zin (List.mem_append_right _ (of_decide_eq_true (List.all_eq_true.mp (show (u_ws "CallExplorer$Grower" TGrower 9).all (fun w => decide (w ∈ tables_1)) = true by decide +kernel) w h))) (List.all_eq_true.mp (show (u_ws "CallExplorer$Grower" TGrower 9).all goodWord = true by decide +kernel) w h)
def RHeap : String := "CallExplorer$Heap"
def THeap : u_T := fun k => match k with
  | 0 => ("CallExplorer$Heap", "catalog", "LCallExplorer$Catalog;", true)
  | 1 => ("CallExplorer$Heap", "count", "I", false)
  | 2 => ("CallExplorer$Heap", "classes", "[I", true)
  | 3 => ("CallExplorer$Heap", "values", "[I", true)
  | _ => ("CallExplorer$Heap", "nexts", "[I", true)
def tyHeap : Nat → FieldType := fun k => match k with
  | 0 => .object "CallExplorer$Catalog"
  | 1 => .int
  | 2 => .array .int
  | 3 => .array .int
  | _ => .array .int
theorem nmHeap : ∀ a, a < 5 → ∀ b, b < 5 → a ≠ b → (THeap a).2.1 ≠ (THeap b).2.1 := by decide +kernel
theorem tyHeap_ok : ∀ k, k < 5 → parseFieldDescriptor (THeap k).2.2.1 = some (tyHeap k) := by decide +kernel
theorem inHeap : ∀ w ∈ u_ws "CallExplorer$Heap" THeap 5, w ∈ zt := fun w h => zin (List.mem_append_right _ (of_decide_eq_true (List.all_eq_true.mp (show (u_ws "CallExplorer$Heap" THeap 5).all (fun w => decide (w ∈ tables_1)) = true by decide +kernel) w h))) (List.all_eq_true.mp (show (u_ws "CallExplorer$Heap" THeap 5).all goodWord = true by decide +kernel) w h)
def RReader : String := "CallExplorer$Reader"
def TReader : u_T := fun k => match k with
  | 0 => ("CallExplorer$Reader", "catalog", "LCallExplorer$Catalog;", true)
  | 1 => ("CallExplorer$Reader", "letters", "[C", true)
  | 2 => ("CallExplorer$Reader", "length", "I", false)
  | 3 => ("CallExplorer$Reader", "sequence", "LCallExplorer$Sequence;", true)
  | 4 => ("CallExplorer$Reader", "at", "I", false)
  | 5 => ("CallExplorer$Reader", "numberRead", "I", false)
  | 6 => ("CallExplorer$Reader", "outcome", "I", false)
  | 7 => ("CallExplorer$Reader", "detail", "I", false)
  | 8 => ("CallExplorer$Reader", "gave", "I", false)
  | _ => ("CallExplorer$Reader", "number", "I", false)
def tyReader : Nat → FieldType := fun k => match k with
  | 0 => .object "CallExplorer$Catalog"
  | 1 => .array .char
  | 2 => .int
  | 3 => .object "CallExplorer$Sequence"
  | 4 => .int
  | 5 => .int
  | 6 => .int
  | 7 => .int
  | 8 => .int
  | _ => .int
theorem nmReader : ∀ a, a < 10 → ∀ b, b < 10 → a ≠ b → (TReader a).2.1 ≠ (TReader b).2.1 := by decide +kernel
theorem tyReader_ok : ∀ k, k < 10 → parseFieldDescriptor (TReader k).2.2.1 = some (tyReader k) := by decide +kernel
theorem inReader : ∀ w ∈ u_ws "CallExplorer$Reader" TReader 10, w ∈ zt := fun w h => zin (List.mem_append_right _ (of_decide_eq_true (List.all_eq_true.mp (show (u_ws "CallExplorer$Reader" TReader 10).all (fun w => decide (w ∈ tables_1)) = true by decide +kernel) w h))) (List.all_eq_true.mp (show (u_ws "CallExplorer$Reader" TReader 10).all goodWord = true by decide +kernel) w h)
def RRunner : String := "CallExplorer$Runner"
def TRunner : u_T := fun k => match k with
  | 0 => ("CallExplorer$Runner", "catalog", "LCallExplorer$Catalog;", true)
  | 1 => ("CallExplorer$Runner", "heap", "LCallExplorer$Heap;", true)
  | 2 => ("CallExplorer$Runner", "results", "[I", true)
  | 3 => ("CallExplorer$Runner", "outcome", "I", false)
  | 4 => ("CallExplorer$Runner", "detail", "I", false)
  | 5 => ("CallExplorer$Runner", "gave", "I", false)
  | 6 => ("CallExplorer$Runner", "number", "I", false)
  | 7 => ("CallExplorer$Runner", "rowLength", "I", false)
  | _ => ("CallExplorer$Runner", "row", "[I", true)
def tyRunner : Nat → FieldType := fun k => match k with
  | 0 => .object "CallExplorer$Catalog"
  | 1 => .object "CallExplorer$Heap"
  | 2 => .array .int
  | 3 => .int
  | 4 => .int
  | 5 => .int
  | 6 => .int
  | 7 => .int
  | _ => .array .int
theorem nmRunner : ∀ a, a < 9 → ∀ b, b < 9 → a ≠ b → (TRunner a).2.1 ≠ (TRunner b).2.1 := by decide +kernel
theorem tyRunner_ok : ∀ k, k < 9 → parseFieldDescriptor (TRunner k).2.2.1 = some (tyRunner k) := by decide +kernel
theorem inRunner : ∀ w ∈ u_ws "CallExplorer$Runner" TRunner 9, w ∈ zt := fun w h => zin (List.mem_append_right _ (of_decide_eq_true (List.all_eq_true.mp (show (u_ws "CallExplorer$Runner" TRunner 9).all (fun w => decide (w ∈ tables_1)) = true by decide +kernel) w h))) (List.all_eq_true.mp (show (u_ws "CallExplorer$Runner" TRunner 9).all goodWord = true by decide +kernel) w h)
def RSequence : String := "CallExplorer$Sequence"
def TSequence : u_T := fun k => match k with
  | 0 => ("CallExplorer$Sequence", "size", "I", false)
  | _ => ("CallExplorer$Sequence", "cells", "[I", true)
def tySequence : Nat → FieldType := fun k => match k with
  | 0 => .int
  | _ => .array .int
theorem nmSequence : ∀ a, a < 2 → ∀ b, b < 2 → a ≠ b → (TSequence a).2.1 ≠ (TSequence b).2.1 := by decide +kernel
theorem tySequence_ok : ∀ k, k < 2 → parseFieldDescriptor (TSequence k).2.2.1 = some (tySequence k) := by decide +kernel
theorem inSequence : ∀ w ∈ u_ws "CallExplorer$Sequence" TSequence 2, w ∈ zt := fun w h => zin (List.mem_append_right _ (of_decide_eq_true (List.all_eq_true.mp (show (u_ws "CallExplorer$Sequence" TSequence 2).all (fun w => decide (w ∈ tables_1)) = true by decide +kernel) w h))) (List.all_eq_true.mp (show (u_ws "CallExplorer$Sequence" TSequence 2).all goodWord = true by decide +kernel) w h)
def RShortener : String := "CallExplorer$Shortener"
def TShortener : u_T := fun k => match k with
  | 0 => ("CallExplorer$Shortener", "catalog", "LCallExplorer$Catalog;", true)
  | 1 => ("CallExplorer$Shortener", "runner", "LCallExplorer$Runner;", true)
  | _ => ("CallExplorer$Shortener", "trial", "LCallExplorer$Sequence;", true)
def tyShortener : Nat → FieldType := fun k => match k with
  | 0 => .object "CallExplorer$Catalog"
  | 1 => .object "CallExplorer$Runner"
  | _ => .object "CallExplorer$Sequence"
theorem nmShortener : ∀ a, a < 3 → ∀ b, b < 3 → a ≠ b → (TShortener a).2.1 ≠ (TShortener b).2.1 := by decide +kernel
theorem tyShortener_ok : ∀ k, k < 3 → parseFieldDescriptor (TShortener k).2.2.1 = some (tyShortener k) := by decide +kernel
theorem inShortener : ∀ w ∈ u_ws "CallExplorer$Shortener" TShortener 3, w ∈ zt := fun w h => zin (List.mem_append_right _ (of_decide_eq_true (List.all_eq_true.mp (show (u_ws "CallExplorer$Shortener" TShortener 3).all (fun w => decide (w ∈ tables_1)) = true by decide +kernel) w h))) (List.all_eq_true.mp (show (u_ws "CallExplorer$Shortener" TShortener 3).all goodWord = true by decide +kernel) w h)
def RWriter : String := "CallExplorer$Writer"
def TWriter : u_T := fun k => match k with
  | 0 => ("CallExplorer$Writer", "letters", "[C", true)
  | _ => ("CallExplorer$Writer", "length", "I", false)
def tyWriter : Nat → FieldType := fun k => match k with
  | 0 => .array .char
  | _ => .int
theorem nmWriter : ∀ a, a < 2 → ∀ b, b < 2 → a ≠ b → (TWriter a).2.1 ≠ (TWriter b).2.1 := by decide +kernel
theorem tyWriter_ok : ∀ k, k < 2 → parseFieldDescriptor (TWriter k).2.2.1 = some (tyWriter k) := by decide +kernel
theorem inWriter : ∀ w ∈ u_ws "CallExplorer$Writer" TWriter 2, w ∈ zt := fun w h => zin (List.mem_append_right _ (of_decide_eq_true (List.all_eq_true.mp (show (u_ws "CallExplorer$Writer" TWriter 2).all (fun w => decide (w ∈ tables_1)) = true by decide +kernel) w h))) (List.all_eq_true.mp (show (u_ws "CallExplorer$Writer" TWriter 2).all goodWord = true by decide +kernel) w h)
def RTop : String := "CallExplorer"
def TTop : u_T := fun k => match k with
  | 0 => ("CallExplorer", "catalog", "LCallExplorer$Catalog;", true)
  | 1 => ("CallExplorer", "book", "LCallExplorer$Book;", true)
  | 2 => ("CallExplorer", "runner", "LCallExplorer$Runner;", true)
  | 3 => ("CallExplorer", "grower", "LCallExplorer$Grower;", true)
  | 4 => ("CallExplorer", "shortener", "LCallExplorer$Shortener;", true)
  | 5 => ("CallExplorer", "writer", "LCallExplorer$Writer;", true)
  | _ => ("CallExplorer", "reader", "LCallExplorer$Reader;", true)
def tyTop : Nat → FieldType := fun k => match k with
  | 0 => .object "CallExplorer$Catalog"
  | 1 => .object "CallExplorer$Book"
  | 2 => .object "CallExplorer$Runner"
  | 3 => .object "CallExplorer$Grower"
  | 4 => .object "CallExplorer$Shortener"
  | 5 => .object "CallExplorer$Writer"
  | _ => .object "CallExplorer$Reader"
theorem nmTop : ∀ a, a < 7 → ∀ b, b < 7 → a ≠ b → (TTop a).2.1 ≠ (TTop b).2.1 := by decide +kernel
theorem tyTop_ok : ∀ k, k < 7 → parseFieldDescriptor (TTop k).2.2.1 = some (tyTop k) := by decide +kernel
theorem inTop : ∀ w ∈ u_ws "CallExplorer" TTop 7, w ∈ zt := fun w h => zin (List.mem_append_right _ (of_decide_eq_true (List.all_eq_true.mp (show (u_ws "CallExplorer" TTop 7).all (fun w => decide (w ∈ tables_1)) = true by decide +kernel) w h))) (List.all_eq_true.mp (show (u_ws "CallExplorer" TTop 7).all goodWord = true by decide +kernel) w h)
def RMod : String := "CallExplorerModel"
def TMod : u_T := fun k => match k with
  | 0 => ("CallExplorerModel", "state", "I", false)
  | 1 => ("CallExplorerModel", "classes", "I", false)
  | 2 => ("CallExplorerModel", "parent", "[I", true)
  | 3 => ("CallExplorerModel", "sense", "[I", true)
  | 4 => ("CallExplorerModel", "mark", "[I", true)
  | 5 => ("CallExplorerModel", "operations", "I", false)
  | 6 => ("CallExplorerModel", "kind", "[I", true)
  | 7 => ("CallExplorerModel", "first", "[I", true)
  | 8 => ("CallExplorerModel", "second", "[I", true)
  | 9 => ("CallExplorerModel", "literals", "I", false)
  | 10 => ("CallExplorerModel", "literal", "[I", true)
  | 11 => ("CallExplorerModel", "size", "I", false)
  | 12 => ("CallExplorerModel", "op", "[I", true)
  | 13 => ("CallExplorerModel", "how", "[I", true)
  | 14 => ("CallExplorerModel", "arg", "[I", true)
  | 15 => ("CallExplorerModel", "nowHow", "[I", true)
  | 16 => ("CallExplorerModel", "nowArg", "[I", true)
  | 17 => ("CallExplorerModel", "entries", "I", false)
  | 18 => ("CallExplorerModel", "sizes", "[I", true)
  | 19 => ("CallExplorerModel", "ops", "[I", true)
  | 20 => ("CallExplorerModel", "hows", "[I", true)
  | 21 => ("CallExplorerModel", "args", "[I", true)
  | 22 => ("CallExplorerModel", "outcome", "[I", true)
  | 23 => ("CallExplorerModel", "detail", "[I", true)
  | 24 => ("CallExplorerModel", "gave", "[I", true)
  | 25 => ("CallExplorerModel", "objects", "I", false)
  | 26 => ("CallExplorerModel", "of", "[I", true)
  | 27 => ("CallExplorerModel", "value", "[I", true)
  | 28 => ("CallExplorerModel", "next", "[I", true)
  | 29 => ("CallExplorerModel", "result", "[I", true)
  | 30 => ("CallExplorerModel", "trouble", "I", false)
  | 31 => ("CallExplorerModel", "came", "I", false)
  | 32 => ("CallExplorerModel", "cameBy", "I", false)
  | 33 => ("CallExplorerModel", "shapeN", "I", false)
  | 34 => ("CallExplorerModel", "shape", "[I", true)
  | 35 => ("CallExplorerModel", "wantedN", "I", false)
  | 36 => ("CallExplorerModel", "wanted", "[I", true)
  | 37 => ("CallExplorerModel", "drafted", "I", false)
  | 38 => ("CallExplorerModel", "draft", "[I", true)
  | 39 => ("CallExplorerModel", "written", "I", false)
  | 40 => ("CallExplorerModel", "text", "[I", true)
  | 41 => ("CallExplorerModel", "at", "I", false)
  | _ => ("CallExplorerModel", "bad", "Z", false)
def tyMod : Nat → FieldType := fun k => match k with
  | 0 => .int
  | 1 => .int
  | 2 => .array .int
  | 3 => .array .int
  | 4 => .array .int
  | 5 => .int
  | 6 => .array .int
  | 7 => .array .int
  | 8 => .array .int
  | 9 => .int
  | 10 => .array .int
  | 11 => .int
  | 12 => .array .int
  | 13 => .array .int
  | 14 => .array .int
  | 15 => .array .int
  | 16 => .array .int
  | 17 => .int
  | 18 => .array .int
  | 19 => .array .int
  | 20 => .array .int
  | 21 => .array .int
  | 22 => .array .int
  | 23 => .array .int
  | 24 => .array .int
  | 25 => .int
  | 26 => .array .int
  | 27 => .array .int
  | 28 => .array .int
  | 29 => .array .int
  | 30 => .int
  | 31 => .int
  | 32 => .int
  | 33 => .int
  | 34 => .array .int
  | 35 => .int
  | 36 => .array .int
  | 37 => .int
  | 38 => .array .int
  | 39 => .int
  | 40 => .array .int
  | 41 => .int
  | _ => .boolean
theorem nmMod : ∀ a, a < 43 → ∀ b, b < 43 → a ≠ b → (TMod a).2.1 ≠ (TMod b).2.1 := by decide +kernel
theorem tyMod_ok : ∀ k, k < 43 → parseFieldDescriptor (TMod k).2.2.1 = some (tyMod k) := by decide +kernel
theorem inMod : ∀ w ∈ u_ws "CallExplorerModel" TMod 43, w ∈ zt := fun w h => zin (List.mem_append_right _ (of_decide_eq_true (List.all_eq_true.mp (show (u_ws "CallExplorerModel" TMod 43).all (fun w => decide (w ∈ tables_1)) = true by decide +kernel) w h))) (List.all_eq_true.mp (show (u_ws "CallExplorerModel" TMod 43).all goodWord = true by decide +kernel) w h)
abbrev zcl : List vw_C := [("CallExplorer$Book", TBook, 4), ("CallExplorer$Catalog", TCatalog, 9), ("CallExplorer$Entry", TEntry, 7), ("CallExplorer$Grower", TGrower, 9), ("CallExplorer$Heap", THeap, 5), ("CallExplorer$Reader", TReader, 10), ("CallExplorer$Runner", TRunner, 9), ("CallExplorer$Sequence", TSequence, 2), ("CallExplorer$Shortener", TShortener, 3), ("CallExplorer$Writer", TWriter, 2), ("CallExplorer", TTop, 7), ("CallExplorerModel", TMod, 43)]
def zFld (ci k : Nat) (C nm ds : String) (fin : Bool) (ty : FieldType) : Prop := ∃ (T : u_T) (N0 : Nat) (ty0 : Nat → FieldType), zcl[ci]? = some (C, T, N0) ∧ (∀ w ∈ u_ws C T N0, w ∈ zt) ∧ (∀ j, j < N0 → parseFieldDescriptor (T j).2.2.1 = some (ty0 j)) ∧ (∀ a, a < N0 → ∀ b, b < N0 → a ≠ b → (T a).2.1 ≠ (T b).2.1) ∧ k < N0 ∧ T k = (C, nm, ds, fin) ∧ parseFieldDescriptor ds = some ty
theorem fBook_catalog : zFld 0 0 "CallExplorer$Book" "catalog" "LCallExplorer$Catalog;" true (.object "CallExplorer$Catalog") := ⟨TBook, 4, tyBook, rfl, inBook, tyBook_ok, nmBook, by decide, rfl, by decide +kernel⟩
theorem fBook_size : zFld 0 1 "CallExplorer$Book" "size" "I" false .int := ⟨TBook, 4, tyBook, rfl, inBook, tyBook_ok, nmBook, by decide, rfl, by decide +kernel⟩
theorem fBook_rows : zFld 0 2 "CallExplorer$Book" "rows" "[LCallExplorer$Entry;" true (.array (.object "CallExplorer$Entry")) := ⟨TBook, 4, tyBook, rfl, inBook, tyBook_ok, nmBook, by decide, rfl, by decide +kernel⟩
theorem fBook_listed : zFld 0 3 "CallExplorer$Book" "listed" "[I" true (.array .int) := ⟨TBook, 4, tyBook, rfl, inBook, tyBook_ok, nmBook, by decide, rfl, by decide +kernel⟩
theorem fCatalog_classes : zFld 1 0 "CallExplorer$Catalog" "classes" "I" false .int := ⟨TCatalog, 9, tyCatalog, rfl, inCatalog, tyCatalog_ok, nmCatalog, by decide, rfl, by decide +kernel⟩
theorem fCatalog_operations : zFld 1 1 "CallExplorer$Catalog" "operations" "I" false .int := ⟨TCatalog, 9, tyCatalog, rfl, inCatalog, tyCatalog_ok, nmCatalog, by decide, rfl, by decide +kernel⟩
theorem fCatalog_parents : zFld 1 2 "CallExplorer$Catalog" "parents" "[I" true (.array .int) := ⟨TCatalog, 9, tyCatalog, rfl, inCatalog, tyCatalog_ok, nmCatalog, by decide, rfl, by decide +kernel⟩
theorem fCatalog_senses : zFld 1 3 "CallExplorer$Catalog" "senses" "[I" true (.array .int) := ⟨TCatalog, 9, tyCatalog, rfl, inCatalog, tyCatalog_ok, nmCatalog, by decide, rfl, by decide +kernel⟩
theorem fCatalog_marks : zFld 1 4 "CallExplorer$Catalog" "marks" "[I" true (.array .int) := ⟨TCatalog, 9, tyCatalog, rfl, inCatalog, tyCatalog_ok, nmCatalog, by decide, rfl, by decide +kernel⟩
theorem fCatalog_kinds : zFld 1 5 "CallExplorer$Catalog" "kinds" "[I" true (.array .int) := ⟨TCatalog, 9, tyCatalog, rfl, inCatalog, tyCatalog_ok, nmCatalog, by decide, rfl, by decide +kernel⟩
theorem fCatalog_firstTypes : zFld 1 6 "CallExplorer$Catalog" "firstTypes" "[I" true (.array .int) := ⟨TCatalog, 9, tyCatalog, rfl, inCatalog, tyCatalog_ok, nmCatalog, by decide, rfl, by decide +kernel⟩
theorem fCatalog_secondTypes : zFld 1 7 "CallExplorer$Catalog" "secondTypes" "[I" true (.array .int) := ⟨TCatalog, 9, tyCatalog, rfl, inCatalog, tyCatalog_ok, nmCatalog, by decide, rfl, by decide +kernel⟩
theorem fCatalog_resultTypes : zFld 1 8 "CallExplorer$Catalog" "resultTypes" "[I" true (.array .int) := ⟨TCatalog, 9, tyCatalog, rfl, inCatalog, tyCatalog_ok, nmCatalog, by decide, rfl, by decide +kernel⟩
theorem fEntry_sequence : zFld 2 0 "CallExplorer$Entry" "sequence" "LCallExplorer$Sequence;" true (.object "CallExplorer$Sequence") := ⟨TEntry, 7, tyEntry, rfl, inEntry, tyEntry_ok, nmEntry, by decide, rfl, by decide +kernel⟩
theorem fEntry_outcome : zFld 2 1 "CallExplorer$Entry" "outcome" "I" true .int := ⟨TEntry, 7, tyEntry, rfl, inEntry, tyEntry_ok, nmEntry, by decide, rfl, by decide +kernel⟩
theorem fEntry_detail : zFld 2 2 "CallExplorer$Entry" "detail" "I" true .int := ⟨TEntry, 7, tyEntry, rfl, inEntry, tyEntry_ok, nmEntry, by decide, rfl, by decide +kernel⟩
theorem fEntry_type : zFld 2 3 "CallExplorer$Entry" "type" "I" true .int := ⟨TEntry, 7, tyEntry, rfl, inEntry, tyEntry_ok, nmEntry, by decide, rfl, by decide +kernel⟩
theorem fEntry_gave : zFld 2 4 "CallExplorer$Entry" "gave" "I" true .int := ⟨TEntry, 7, tyEntry, rfl, inEntry, tyEntry_ok, nmEntry, by decide, rfl, by decide +kernel⟩
theorem fEntry_number : zFld 2 5 "CallExplorer$Entry" "number" "I" true .int := ⟨TEntry, 7, tyEntry, rfl, inEntry, tyEntry_ok, nmEntry, by decide, rfl, by decide +kernel⟩
theorem fEntry_row : zFld 2 6 "CallExplorer$Entry" "row" "[I" true (.array .int) := ⟨TEntry, 7, tyEntry, rfl, inEntry, tyEntry_ok, nmEntry, by decide, rfl, by decide +kernel⟩
theorem fGrower_catalog : zFld 3 0 "CallExplorer$Grower" "catalog" "LCallExplorer$Catalog;" true (.object "CallExplorer$Catalog") := ⟨TGrower, 9, tyGrower, rfl, inGrower, tyGrower_ok, nmGrower, by decide, rfl, by decide +kernel⟩
theorem fGrower_book : zFld 3 1 "CallExplorer$Grower" "book" "LCallExplorer$Book;" true (.object "CallExplorer$Book") := ⟨TGrower, 9, tyGrower, rfl, inGrower, tyGrower_ok, nmGrower, by decide, rfl, by decide +kernel⟩
theorem fGrower_runner : zFld 3 2 "CallExplorer$Grower" "runner" "LCallExplorer$Runner;" true (.object "CallExplorer$Runner") := ⟨TGrower, 9, tyGrower, rfl, inGrower, tyGrower_ok, nmGrower, by decide, rfl, by decide +kernel⟩
theorem fGrower_sequence : zFld 3 3 "CallExplorer$Grower" "sequence" "LCallExplorer$Sequence;" true (.object "CallExplorer$Sequence") := ⟨TGrower, 9, tyGrower, rfl, inGrower, tyGrower_ok, nmGrower, by decide, rfl, by decide +kernel⟩
theorem fGrower_literals : zFld 3 4 "CallExplorer$Grower" "literals" "[I" true (.array .int) := ⟨TGrower, 9, tyGrower, rfl, inGrower, tyGrower_ok, nmGrower, by decide, rfl, by decide +kernel⟩
theorem fGrower_literalCount : zFld 3 5 "CallExplorer$Grower" "literalCount" "I" false .int := ⟨TGrower, 9, tyGrower, rfl, inGrower, tyGrower_ok, nmGrower, by decide, rfl, by decide +kernel⟩
theorem fGrower_seed : zFld 3 6 "CallExplorer$Grower" "seed" "I" false .int := ⟨TGrower, 9, tyGrower, rfl, inGrower, tyGrower_ok, nmGrower, by decide, rfl, by decide +kernel⟩
theorem fGrower_forms : zFld 3 7 "CallExplorer$Grower" "forms" "[I" true (.array .int) := ⟨TGrower, 9, tyGrower, rfl, inGrower, tyGrower_ok, nmGrower, by decide, rfl, by decide +kernel⟩
theorem fGrower_contents : zFld 3 8 "CallExplorer$Grower" "contents" "[I" true (.array .int) := ⟨TGrower, 9, tyGrower, rfl, inGrower, tyGrower_ok, nmGrower, by decide, rfl, by decide +kernel⟩
theorem fHeap_catalog : zFld 4 0 "CallExplorer$Heap" "catalog" "LCallExplorer$Catalog;" true (.object "CallExplorer$Catalog") := ⟨THeap, 5, tyHeap, rfl, inHeap, tyHeap_ok, nmHeap, by decide, rfl, by decide +kernel⟩
theorem fHeap_count : zFld 4 1 "CallExplorer$Heap" "count" "I" false .int := ⟨THeap, 5, tyHeap, rfl, inHeap, tyHeap_ok, nmHeap, by decide, rfl, by decide +kernel⟩
theorem fHeap_classes : zFld 4 2 "CallExplorer$Heap" "classes" "[I" true (.array .int) := ⟨THeap, 5, tyHeap, rfl, inHeap, tyHeap_ok, nmHeap, by decide, rfl, by decide +kernel⟩
theorem fHeap_values : zFld 4 3 "CallExplorer$Heap" "values" "[I" true (.array .int) := ⟨THeap, 5, tyHeap, rfl, inHeap, tyHeap_ok, nmHeap, by decide, rfl, by decide +kernel⟩
theorem fHeap_nexts : zFld 4 4 "CallExplorer$Heap" "nexts" "[I" true (.array .int) := ⟨THeap, 5, tyHeap, rfl, inHeap, tyHeap_ok, nmHeap, by decide, rfl, by decide +kernel⟩
theorem fReader_catalog : zFld 5 0 "CallExplorer$Reader" "catalog" "LCallExplorer$Catalog;" true (.object "CallExplorer$Catalog") := ⟨TReader, 10, tyReader, rfl, inReader, tyReader_ok, nmReader, by decide, rfl, by decide +kernel⟩
theorem fReader_letters : zFld 5 1 "CallExplorer$Reader" "letters" "[C" true (.array .char) := ⟨TReader, 10, tyReader, rfl, inReader, tyReader_ok, nmReader, by decide, rfl, by decide +kernel⟩
theorem fReader_length : zFld 5 2 "CallExplorer$Reader" "length" "I" false .int := ⟨TReader, 10, tyReader, rfl, inReader, tyReader_ok, nmReader, by decide, rfl, by decide +kernel⟩
theorem fReader_sequence : zFld 5 3 "CallExplorer$Reader" "sequence" "LCallExplorer$Sequence;" true (.object "CallExplorer$Sequence") := ⟨TReader, 10, tyReader, rfl, inReader, tyReader_ok, nmReader, by decide, rfl, by decide +kernel⟩
theorem fReader_at : zFld 5 4 "CallExplorer$Reader" "at" "I" false .int := ⟨TReader, 10, tyReader, rfl, inReader, tyReader_ok, nmReader, by decide, rfl, by decide +kernel⟩
theorem fReader_numberRead : zFld 5 5 "CallExplorer$Reader" "numberRead" "I" false .int := ⟨TReader, 10, tyReader, rfl, inReader, tyReader_ok, nmReader, by decide, rfl, by decide +kernel⟩
theorem fReader_outcome : zFld 5 6 "CallExplorer$Reader" "outcome" "I" false .int := ⟨TReader, 10, tyReader, rfl, inReader, tyReader_ok, nmReader, by decide, rfl, by decide +kernel⟩
theorem fReader_detail : zFld 5 7 "CallExplorer$Reader" "detail" "I" false .int := ⟨TReader, 10, tyReader, rfl, inReader, tyReader_ok, nmReader, by decide, rfl, by decide +kernel⟩
theorem fReader_gave : zFld 5 8 "CallExplorer$Reader" "gave" "I" false .int := ⟨TReader, 10, tyReader, rfl, inReader, tyReader_ok, nmReader, by decide, rfl, by decide +kernel⟩
theorem fReader_number : zFld 5 9 "CallExplorer$Reader" "number" "I" false .int := ⟨TReader, 10, tyReader, rfl, inReader, tyReader_ok, nmReader, by decide, rfl, by decide +kernel⟩
theorem fRunner_catalog : zFld 6 0 "CallExplorer$Runner" "catalog" "LCallExplorer$Catalog;" true (.object "CallExplorer$Catalog") := ⟨TRunner, 9, tyRunner, rfl, inRunner, tyRunner_ok, nmRunner, by decide, rfl, by decide +kernel⟩
theorem fRunner_heap : zFld 6 1 "CallExplorer$Runner" "heap" "LCallExplorer$Heap;" true (.object "CallExplorer$Heap") := ⟨TRunner, 9, tyRunner, rfl, inRunner, tyRunner_ok, nmRunner, by decide, rfl, by decide +kernel⟩
theorem fRunner_results : zFld 6 2 "CallExplorer$Runner" "results" "[I" true (.array .int) := ⟨TRunner, 9, tyRunner, rfl, inRunner, tyRunner_ok, nmRunner, by decide, rfl, by decide +kernel⟩
theorem fRunner_outcome : zFld 6 3 "CallExplorer$Runner" "outcome" "I" false .int := ⟨TRunner, 9, tyRunner, rfl, inRunner, tyRunner_ok, nmRunner, by decide, rfl, by decide +kernel⟩
theorem fRunner_detail : zFld 6 4 "CallExplorer$Runner" "detail" "I" false .int := ⟨TRunner, 9, tyRunner, rfl, inRunner, tyRunner_ok, nmRunner, by decide, rfl, by decide +kernel⟩
theorem fRunner_gave : zFld 6 5 "CallExplorer$Runner" "gave" "I" false .int := ⟨TRunner, 9, tyRunner, rfl, inRunner, tyRunner_ok, nmRunner, by decide, rfl, by decide +kernel⟩
theorem fRunner_number : zFld 6 6 "CallExplorer$Runner" "number" "I" false .int := ⟨TRunner, 9, tyRunner, rfl, inRunner, tyRunner_ok, nmRunner, by decide, rfl, by decide +kernel⟩
theorem fRunner_rowLength : zFld 6 7 "CallExplorer$Runner" "rowLength" "I" false .int := ⟨TRunner, 9, tyRunner, rfl, inRunner, tyRunner_ok, nmRunner, by decide, rfl, by decide +kernel⟩
theorem fRunner_row : zFld 6 8 "CallExplorer$Runner" "row" "[I" true (.array .int) := ⟨TRunner, 9, tyRunner, rfl, inRunner, tyRunner_ok, nmRunner, by decide, rfl, by decide +kernel⟩
theorem fSequence_size : zFld 7 0 "CallExplorer$Sequence" "size" "I" false .int := ⟨TSequence, 2, tySequence, rfl, inSequence, tySequence_ok, nmSequence, by decide, rfl, by decide +kernel⟩
theorem fSequence_cells : zFld 7 1 "CallExplorer$Sequence" "cells" "[I" true (.array .int) := ⟨TSequence, 2, tySequence, rfl, inSequence, tySequence_ok, nmSequence, by decide, rfl, by decide +kernel⟩
theorem fShortener_catalog : zFld 8 0 "CallExplorer$Shortener" "catalog" "LCallExplorer$Catalog;" true (.object "CallExplorer$Catalog") := ⟨TShortener, 3, tyShortener, rfl, inShortener, tyShortener_ok, nmShortener, by decide, rfl, by decide +kernel⟩
theorem fShortener_runner : zFld 8 1 "CallExplorer$Shortener" "runner" "LCallExplorer$Runner;" true (.object "CallExplorer$Runner") := ⟨TShortener, 3, tyShortener, rfl, inShortener, tyShortener_ok, nmShortener, by decide, rfl, by decide +kernel⟩
theorem fShortener_trial : zFld 8 2 "CallExplorer$Shortener" "trial" "LCallExplorer$Sequence;" true (.object "CallExplorer$Sequence") := ⟨TShortener, 3, tyShortener, rfl, inShortener, tyShortener_ok, nmShortener, by decide, rfl, by decide +kernel⟩
theorem fWriter_letters : zFld 9 0 "CallExplorer$Writer" "letters" "[C" true (.array .char) := ⟨TWriter, 2, tyWriter, rfl, inWriter, tyWriter_ok, nmWriter, by decide, rfl, by decide +kernel⟩
theorem fWriter_length : zFld 9 1 "CallExplorer$Writer" "length" "I" false .int := ⟨TWriter, 2, tyWriter, rfl, inWriter, tyWriter_ok, nmWriter, by decide, rfl, by decide +kernel⟩
theorem fTop_catalog : zFld 10 0 "CallExplorer" "catalog" "LCallExplorer$Catalog;" true (.object "CallExplorer$Catalog") := ⟨TTop, 7, tyTop, rfl, inTop, tyTop_ok, nmTop, by decide, rfl, by decide +kernel⟩
theorem fTop_book : zFld 10 1 "CallExplorer" "book" "LCallExplorer$Book;" true (.object "CallExplorer$Book") := ⟨TTop, 7, tyTop, rfl, inTop, tyTop_ok, nmTop, by decide, rfl, by decide +kernel⟩
theorem fTop_runner : zFld 10 2 "CallExplorer" "runner" "LCallExplorer$Runner;" true (.object "CallExplorer$Runner") := ⟨TTop, 7, tyTop, rfl, inTop, tyTop_ok, nmTop, by decide, rfl, by decide +kernel⟩
theorem fTop_grower : zFld 10 3 "CallExplorer" "grower" "LCallExplorer$Grower;" true (.object "CallExplorer$Grower") := ⟨TTop, 7, tyTop, rfl, inTop, tyTop_ok, nmTop, by decide, rfl, by decide +kernel⟩
theorem fTop_shortener : zFld 10 4 "CallExplorer" "shortener" "LCallExplorer$Shortener;" true (.object "CallExplorer$Shortener") := ⟨TTop, 7, tyTop, rfl, inTop, tyTop_ok, nmTop, by decide, rfl, by decide +kernel⟩
theorem fTop_writer : zFld 10 5 "CallExplorer" "writer" "LCallExplorer$Writer;" true (.object "CallExplorer$Writer") := ⟨TTop, 7, tyTop, rfl, inTop, tyTop_ok, nmTop, by decide, rfl, by decide +kernel⟩
theorem fTop_reader : zFld 10 6 "CallExplorer" "reader" "LCallExplorer$Reader;" true (.object "CallExplorer$Reader") := ⟨TTop, 7, tyTop, rfl, inTop, tyTop_ok, nmTop, by decide, rfl, by decide +kernel⟩
theorem fMod_state : zFld 11 0 "CallExplorerModel" "state" "I" false .int := ⟨TMod, 43, tyMod, rfl, inMod, tyMod_ok, nmMod, by decide, rfl, by decide +kernel⟩
theorem fMod_classes : zFld 11 1 "CallExplorerModel" "classes" "I" false .int := ⟨TMod, 43, tyMod, rfl, inMod, tyMod_ok, nmMod, by decide, rfl, by decide +kernel⟩
theorem fMod_parent : zFld 11 2 "CallExplorerModel" "parent" "[I" true (.array .int) := ⟨TMod, 43, tyMod, rfl, inMod, tyMod_ok, nmMod, by decide, rfl, by decide +kernel⟩
theorem fMod_sense : zFld 11 3 "CallExplorerModel" "sense" "[I" true (.array .int) := ⟨TMod, 43, tyMod, rfl, inMod, tyMod_ok, nmMod, by decide, rfl, by decide +kernel⟩
theorem fMod_mark : zFld 11 4 "CallExplorerModel" "mark" "[I" true (.array .int) := ⟨TMod, 43, tyMod, rfl, inMod, tyMod_ok, nmMod, by decide, rfl, by decide +kernel⟩
theorem fMod_operations : zFld 11 5 "CallExplorerModel" "operations" "I" false .int := ⟨TMod, 43, tyMod, rfl, inMod, tyMod_ok, nmMod, by decide, rfl, by decide +kernel⟩
theorem fMod_kind : zFld 11 6 "CallExplorerModel" "kind" "[I" true (.array .int) := ⟨TMod, 43, tyMod, rfl, inMod, tyMod_ok, nmMod, by decide, rfl, by decide +kernel⟩
theorem fMod_first : zFld 11 7 "CallExplorerModel" "first" "[I" true (.array .int) := ⟨TMod, 43, tyMod, rfl, inMod, tyMod_ok, nmMod, by decide, rfl, by decide +kernel⟩
theorem fMod_second : zFld 11 8 "CallExplorerModel" "second" "[I" true (.array .int) := ⟨TMod, 43, tyMod, rfl, inMod, tyMod_ok, nmMod, by decide, rfl, by decide +kernel⟩
theorem fMod_literals : zFld 11 9 "CallExplorerModel" "literals" "I" false .int := ⟨TMod, 43, tyMod, rfl, inMod, tyMod_ok, nmMod, by decide, rfl, by decide +kernel⟩
theorem fMod_literal : zFld 11 10 "CallExplorerModel" "literal" "[I" true (.array .int) := ⟨TMod, 43, tyMod, rfl, inMod, tyMod_ok, nmMod, by decide, rfl, by decide +kernel⟩
theorem fMod_size : zFld 11 11 "CallExplorerModel" "size" "I" false .int := ⟨TMod, 43, tyMod, rfl, inMod, tyMod_ok, nmMod, by decide, rfl, by decide +kernel⟩
theorem fMod_op : zFld 11 12 "CallExplorerModel" "op" "[I" true (.array .int) := ⟨TMod, 43, tyMod, rfl, inMod, tyMod_ok, nmMod, by decide, rfl, by decide +kernel⟩
theorem fMod_how : zFld 11 13 "CallExplorerModel" "how" "[I" true (.array .int) := ⟨TMod, 43, tyMod, rfl, inMod, tyMod_ok, nmMod, by decide, rfl, by decide +kernel⟩
theorem fMod_arg : zFld 11 14 "CallExplorerModel" "arg" "[I" true (.array .int) := ⟨TMod, 43, tyMod, rfl, inMod, tyMod_ok, nmMod, by decide, rfl, by decide +kernel⟩
theorem fMod_nowHow : zFld 11 15 "CallExplorerModel" "nowHow" "[I" true (.array .int) := ⟨TMod, 43, tyMod, rfl, inMod, tyMod_ok, nmMod, by decide, rfl, by decide +kernel⟩
theorem fMod_nowArg : zFld 11 16 "CallExplorerModel" "nowArg" "[I" true (.array .int) := ⟨TMod, 43, tyMod, rfl, inMod, tyMod_ok, nmMod, by decide, rfl, by decide +kernel⟩
theorem fMod_entries : zFld 11 17 "CallExplorerModel" "entries" "I" false .int := ⟨TMod, 43, tyMod, rfl, inMod, tyMod_ok, nmMod, by decide, rfl, by decide +kernel⟩
theorem fMod_sizes : zFld 11 18 "CallExplorerModel" "sizes" "[I" true (.array .int) := ⟨TMod, 43, tyMod, rfl, inMod, tyMod_ok, nmMod, by decide, rfl, by decide +kernel⟩
theorem fMod_ops : zFld 11 19 "CallExplorerModel" "ops" "[I" true (.array .int) := ⟨TMod, 43, tyMod, rfl, inMod, tyMod_ok, nmMod, by decide, rfl, by decide +kernel⟩
theorem fMod_hows : zFld 11 20 "CallExplorerModel" "hows" "[I" true (.array .int) := ⟨TMod, 43, tyMod, rfl, inMod, tyMod_ok, nmMod, by decide, rfl, by decide +kernel⟩
theorem fMod_args : zFld 11 21 "CallExplorerModel" "args" "[I" true (.array .int) := ⟨TMod, 43, tyMod, rfl, inMod, tyMod_ok, nmMod, by decide, rfl, by decide +kernel⟩
theorem fMod_outcome : zFld 11 22 "CallExplorerModel" "outcome" "[I" true (.array .int) := ⟨TMod, 43, tyMod, rfl, inMod, tyMod_ok, nmMod, by decide, rfl, by decide +kernel⟩
theorem fMod_detail : zFld 11 23 "CallExplorerModel" "detail" "[I" true (.array .int) := ⟨TMod, 43, tyMod, rfl, inMod, tyMod_ok, nmMod, by decide, rfl, by decide +kernel⟩
theorem fMod_gave : zFld 11 24 "CallExplorerModel" "gave" "[I" true (.array .int) := ⟨TMod, 43, tyMod, rfl, inMod, tyMod_ok, nmMod, by decide, rfl, by decide +kernel⟩
theorem fMod_objects : zFld 11 25 "CallExplorerModel" "objects" "I" false .int := ⟨TMod, 43, tyMod, rfl, inMod, tyMod_ok, nmMod, by decide, rfl, by decide +kernel⟩
theorem fMod_of : zFld 11 26 "CallExplorerModel" "of" "[I" true (.array .int) := ⟨TMod, 43, tyMod, rfl, inMod, tyMod_ok, nmMod, by decide, rfl, by decide +kernel⟩
theorem fMod_value : zFld 11 27 "CallExplorerModel" "value" "[I" true (.array .int) := ⟨TMod, 43, tyMod, rfl, inMod, tyMod_ok, nmMod, by decide, rfl, by decide +kernel⟩
theorem fMod_next : zFld 11 28 "CallExplorerModel" "next" "[I" true (.array .int) := ⟨TMod, 43, tyMod, rfl, inMod, tyMod_ok, nmMod, by decide, rfl, by decide +kernel⟩
theorem fMod_result : zFld 11 29 "CallExplorerModel" "result" "[I" true (.array .int) := ⟨TMod, 43, tyMod, rfl, inMod, tyMod_ok, nmMod, by decide, rfl, by decide +kernel⟩
theorem fMod_trouble : zFld 11 30 "CallExplorerModel" "trouble" "I" false .int := ⟨TMod, 43, tyMod, rfl, inMod, tyMod_ok, nmMod, by decide, rfl, by decide +kernel⟩
theorem fMod_came : zFld 11 31 "CallExplorerModel" "came" "I" false .int := ⟨TMod, 43, tyMod, rfl, inMod, tyMod_ok, nmMod, by decide, rfl, by decide +kernel⟩
theorem fMod_cameBy : zFld 11 32 "CallExplorerModel" "cameBy" "I" false .int := ⟨TMod, 43, tyMod, rfl, inMod, tyMod_ok, nmMod, by decide, rfl, by decide +kernel⟩
theorem fMod_shapeN : zFld 11 33 "CallExplorerModel" "shapeN" "I" false .int := ⟨TMod, 43, tyMod, rfl, inMod, tyMod_ok, nmMod, by decide, rfl, by decide +kernel⟩
theorem fMod_shape : zFld 11 34 "CallExplorerModel" "shape" "[I" true (.array .int) := ⟨TMod, 43, tyMod, rfl, inMod, tyMod_ok, nmMod, by decide, rfl, by decide +kernel⟩
theorem fMod_wantedN : zFld 11 35 "CallExplorerModel" "wantedN" "I" false .int := ⟨TMod, 43, tyMod, rfl, inMod, tyMod_ok, nmMod, by decide, rfl, by decide +kernel⟩
theorem fMod_wanted : zFld 11 36 "CallExplorerModel" "wanted" "[I" true (.array .int) := ⟨TMod, 43, tyMod, rfl, inMod, tyMod_ok, nmMod, by decide, rfl, by decide +kernel⟩
theorem fMod_drafted : zFld 11 37 "CallExplorerModel" "drafted" "I" false .int := ⟨TMod, 43, tyMod, rfl, inMod, tyMod_ok, nmMod, by decide, rfl, by decide +kernel⟩
theorem fMod_draft : zFld 11 38 "CallExplorerModel" "draft" "[I" true (.array .int) := ⟨TMod, 43, tyMod, rfl, inMod, tyMod_ok, nmMod, by decide, rfl, by decide +kernel⟩
theorem fMod_written : zFld 11 39 "CallExplorerModel" "written" "I" false .int := ⟨TMod, 43, tyMod, rfl, inMod, tyMod_ok, nmMod, by decide, rfl, by decide +kernel⟩
theorem fMod_text : zFld 11 40 "CallExplorerModel" "text" "[I" true (.array .int) := ⟨TMod, 43, tyMod, rfl, inMod, tyMod_ok, nmMod, by decide, rfl, by decide +kernel⟩
theorem fMod_at : zFld 11 41 "CallExplorerModel" "at" "I" false .int := ⟨TMod, 43, tyMod, rfl, inMod, tyMod_ok, nmMod, by decide, rfl, by decide +kernel⟩
theorem fMod_bad : zFld 11 42 "CallExplorerModel" "bad" "Z" false .boolean := ⟨TMod, 43, tyMod, rfl, inMod, tyMod_ok, nmMod, by decide, rfl, by decide +kernel⟩
abbrev bTop_init : ByteArray := prog_1_method_1_code
abbrev yTop_init : MethodName := ⟨"CallExplorer", "<init>", "(I)V"⟩
abbrev bCatalog_init : ByteArray := prog_3_method_1_code
abbrev yCatalog_init : MethodName := ⟨"CallExplorer$Catalog", "<init>", "()V"⟩
abbrev bBook_init : ByteArray := prog_2_method_1_code
abbrev yBook_init : MethodName := ⟨"CallExplorer$Book", "<init>", "(LCallExplorer$Catalog;)V"⟩
abbrev bRunner_init : ByteArray := prog_8_method_1_code
abbrev yRunner_init : MethodName := ⟨"CallExplorer$Runner", "<init>", "(LCallExplorer$Catalog;)V"⟩
abbrev bHeap_init : ByteArray := prog_6_method_1_code
abbrev yHeap_init : MethodName := ⟨"CallExplorer$Heap", "<init>", "(LCallExplorer$Catalog;)V"⟩
abbrev bGrower_init : ByteArray := prog_5_method_1_code
abbrev yGrower_init : MethodName := ⟨"CallExplorer$Grower", "<init>", "(LCallExplorer$Catalog;LCallExplorer$Book;LCallExplorer$Runner;I)V"⟩
abbrev bSequence_init : ByteArray := prog_9_method_1_code
abbrev ySequence_init : MethodName := ⟨"CallExplorer$Sequence", "<init>", "()V"⟩
abbrev bShortener_init : ByteArray := prog_10_method_1_code
abbrev yShortener_init : MethodName := ⟨"CallExplorer$Shortener", "<init>", "(LCallExplorer$Catalog;LCallExplorer$Runner;)V"⟩
abbrev bWriter_init : ByteArray := prog_11_method_1_code
abbrev yWriter_init : MethodName := ⟨"CallExplorer$Writer", "<init>", "()V"⟩
abbrev bReader_init : ByteArray := prog_7_method_1_code
abbrev yReader_init : MethodName := ⟨"CallExplorer$Reader", "<init>", "(LCallExplorer$Catalog;)V"⟩
abbrev bTop_type : ByteArray := prog_1_method_2_code
abbrev yTop_type : MethodName := ⟨"CallExplorer", "type", "(III)I"⟩
abbrev bCatalog_addClass : ByteArray := prog_3_method_2_code
abbrev yCatalog_addClass : MethodName := ⟨"CallExplorer$Catalog", "addClass", "(III)I"⟩
abbrev bCatalog_isClass : ByteArray := prog_3_method_4_code
abbrev yCatalog_isClass : MethodName := ⟨"CallExplorer$Catalog", "isClass", "(I)Z"⟩
abbrev bTop_operation : ByteArray := prog_1_method_3_code
abbrev yTop_operation : MethodName := ⟨"CallExplorer", "operation", "(III)I"⟩
abbrev bCatalog_addOperation : ByteArray := prog_3_method_3_code
abbrev yCatalog_addOperation : MethodName := ⟨"CallExplorer$Catalog", "addOperation", "(III)I"⟩
abbrev bCatalog_hasPartner : ByteArray := prog_3_method_5_code
abbrev yCatalog_hasPartner : MethodName := ⟨"CallExplorer$Catalog", "hasPartner", "(I)Z"⟩
abbrev bCatalog_typeOf : ByteArray := prog_3_method_6_code
abbrev yCatalog_typeOf : MethodName := ⟨"CallExplorer$Catalog", "typeOf", "(III)I"⟩
abbrev bTop_literal : ByteArray := prog_1_method_4_code
abbrev yTop_literal : MethodName := ⟨"CallExplorer", "literal", "(I)I"⟩
abbrev bGrower_addLiteral : ByteArray := prog_5_method_2_code
abbrev yGrower_addLiteral : MethodName := ⟨"CallExplorer$Grower", "addLiteral", "(I)I"⟩
abbrev bTop_step : ByteArray := prog_1_method_5_code
abbrev yTop_step : MethodName := ⟨"CallExplorer", "step", "()I"⟩
abbrev bGrower_grow : ByteArray := prog_5_method_4_code
abbrev yGrower_grow : MethodName := ⟨"CallExplorer$Grower", "grow", "()I"⟩
abbrev bBook_isFull : ByteArray := prog_2_method_2_code
abbrev yBook_isFull : MethodName := ⟨"CallExplorer$Book", "isFull", "()Z"⟩
abbrev bGrower_random : ByteArray := prog_5_method_3_code
abbrev yGrower_random : MethodName := ⟨"CallExplorer$Grower", "random", "(I)I"⟩
abbrev bSequence_clear : ByteArray := prog_9_method_7_code
abbrev ySequence_clear : MethodName := ⟨"CallExplorer$Sequence", "clear", "()V"⟩
abbrev bCatalog_argumentType : ByteArray := prog_3_method_7_code
abbrev yCatalog_argumentType : MethodName := ⟨"CallExplorer$Catalog", "argumentType", "(II)I"⟩
abbrev bGrower_chooseArgument : ByteArray := prog_5_method_5_code
abbrev yGrower_chooseArgument : MethodName := ⟨"CallExplorer$Grower", "chooseArgument", "(II)I"⟩
abbrev bGrower_choose : ByteArray := prog_5_method_6_code
abbrev yGrower_choose : MethodName := ⟨"CallExplorer$Grower", "choose", "(III)I"⟩
abbrev bGrower_chooseNumber : ByteArray := prog_5_method_7_code
abbrev yGrower_chooseNumber : MethodName := ⟨"CallExplorer$Grower", "chooseNumber", "(I)I"⟩
abbrev bBook_listFresh : ByteArray := prog_2_method_7_code
abbrev yBook_listFresh : MethodName := ⟨"CallExplorer$Book", "listFresh", "(I)I"⟩
abbrev bCatalog_is : ByteArray := prog_3_method_8_code
abbrev yCatalog_is : MethodName := ⟨"CallExplorer$Catalog", "is", "(II)Z"⟩
abbrev bGrower_take : ByteArray := prog_5_method_10_code
abbrev yGrower_take : MethodName := ⟨"CallExplorer$Grower", "take", "(II)I"⟩
abbrev bBook_get : ByteArray := prog_2_method_3_code
abbrev yBook_get : MethodName := ⟨"CallExplorer$Book", "get", "(I)LCallExplorer$Entry;"⟩
abbrev bSequence_append : ByteArray := prog_9_method_9_code
abbrev ySequence_append : MethodName := ⟨"CallExplorer$Sequence", "append", "(LCallExplorer$Sequence;)V"⟩
abbrev bSequence_moveVariables : ByteArray := prog_9_method_14_code
abbrev ySequence_moveVariables : MethodName := ⟨"CallExplorer$Sequence", "moveVariables", "(III)V"⟩
abbrev bSequence_isVariable : ByteArray := prog_9_method_6_code
abbrev ySequence_isVariable : MethodName := ⟨"CallExplorer$Sequence", "isVariable", "(II)Z"⟩
abbrev bSequence_content : ByteArray := prog_9_method_4_code
abbrev ySequence_content : MethodName := ⟨"CallExplorer$Sequence", "content", "(II)I"⟩
abbrev bSequence_setArgument : ByteArray := prog_9_method_5_code
abbrev ySequence_setArgument : MethodName := ⟨"CallExplorer$Sequence", "setArgument", "(IIII)V"⟩
abbrev bGrower_chooseObject : ByteArray := prog_5_method_8_code
abbrev yGrower_chooseObject : MethodName := ⟨"CallExplorer$Grower", "chooseObject", "(II)I"⟩
abbrev bGrower_firstFits : ByteArray := prog_5_method_9_code
abbrev yGrower_firstFits : MethodName := ⟨"CallExplorer$Grower", "firstFits", "(I)Z"⟩
abbrev bSequence_operationOf : ByteArray := prog_9_method_2_code
abbrev ySequence_operationOf : MethodName := ⟨"CallExplorer$Sequence", "operationOf", "(I)I"⟩
abbrev bGrower_pushChosen : ByteArray := prog_5_method_11_code
abbrev yGrower_pushChosen : MethodName := ⟨"CallExplorer$Grower", "pushChosen", "(I)V"⟩
abbrev bSequence_push : ByteArray := prog_9_method_8_code
abbrev ySequence_push : MethodName := ⟨"CallExplorer$Sequence", "push", "(I)I"⟩
abbrev bBook_holds : ByteArray := prog_2_method_6_code
abbrev yBook_holds : MethodName := ⟨"CallExplorer$Book", "holds", "(LCallExplorer$Sequence;)Z"⟩
abbrev bSequence_same : ByteArray := prog_9_method_11_code
abbrev ySequence_same : MethodName := ⟨"CallExplorer$Sequence", "same", "(LCallExplorer$Sequence;)Z"⟩
abbrev bRunner_run : ByteArray := prog_8_method_2_code
abbrev yRunner_run : MethodName := ⟨"CallExplorer$Runner", "run", "(LCallExplorer$Sequence;)V"⟩
abbrev bRunner_execute : ByteArray := prog_8_method_6_code
abbrev yRunner_execute : MethodName := ⟨"CallExplorer$Runner", "execute", "(LCallExplorer$Sequence;I)I"⟩
abbrev bRunner_isNull : ByteArray := prog_8_method_4_code
abbrev yRunner_isNull : MethodName := ⟨"CallExplorer$Runner", "isNull", "(LCallExplorer$Sequence;II)Z"⟩
abbrev bRunner_argumentValue : ByteArray := prog_8_method_5_code
abbrev yRunner_argumentValue : MethodName := ⟨"CallExplorer$Runner", "argumentValue", "(LCallExplorer$Sequence;II)I"⟩
abbrev bSequence_form : ByteArray := prog_9_method_3_code
abbrev ySequence_form : MethodName := ⟨"CallExplorer$Sequence", "form", "(II)I"⟩
abbrev bRunner_make : ByteArray := prog_8_method_8_code
abbrev yRunner_make : MethodName := ⟨"CallExplorer$Runner", "make", "(III)I"⟩
abbrev bRunner_canBeValue : ByteArray := prog_8_method_13_code
abbrev yRunner_canBeValue : MethodName := ⟨"CallExplorer$Runner", "canBeValue", "(J)Z"⟩
abbrev bHeap_make : ByteArray := prog_6_method_2_code
abbrev yHeap_make : MethodName := ⟨"CallExplorer$Heap", "make", "(III)I"⟩
abbrev bRunner_give : ByteArray := prog_8_method_7_code
abbrev yRunner_give : MethodName := ⟨"CallExplorer$Runner", "give", "(II)I"⟩
abbrev bRunner_add : ByteArray := prog_8_method_9_code
abbrev yRunner_add : MethodName := ⟨"CallExplorer$Runner", "add", "(III)I"⟩
abbrev bRunner_link : ByteArray := prog_8_method_10_code
abbrev yRunner_link : MethodName := ⟨"CallExplorer$Runner", "link", "(III)I"⟩
abbrev bHeap_reaches : ByteArray := prog_6_method_3_code
abbrev yHeap_reaches : MethodName := ⟨"CallExplorer$Heap", "reaches", "(II)Z"⟩
abbrev bRunner_getNext : ByteArray := prog_8_method_11_code
abbrev yRunner_getNext : MethodName := ⟨"CallExplorer$Runner", "getNext", "(III)I"⟩
abbrev bRunner_getNextValue : ByteArray := prog_8_method_12_code
abbrev yRunner_getNextValue : MethodName := ⟨"CallExplorer$Runner", "getNextValue", "(II)I"⟩
abbrev bHeap_chainLength : ByteArray := prog_6_method_4_code
abbrev yHeap_chainLength : MethodName := ⟨"CallExplorer$Heap", "chainLength", "(I)I"⟩
abbrev bHeap_equal : ByteArray := prog_6_method_5_code
abbrev yHeap_equal : MethodName := ⟨"CallExplorer$Heap", "equal", "(II)Z"⟩
abbrev bRunner_endWithTrouble : ByteArray := prog_8_method_3_code
abbrev yRunner_endWithTrouble : MethodName := ⟨"CallExplorer$Runner", "endWithTrouble", "(LCallExplorer$Sequence;II)V"⟩
abbrev bRunner_keepResult : ByteArray := prog_8_method_14_code
abbrev yRunner_keepResult : MethodName := ⟨"CallExplorer$Runner", "keepResult", "(LCallExplorer$Sequence;)V"⟩
abbrev bRunner_keepRow : ByteArray := prog_8_method_15_code
abbrev yRunner_keepRow : MethodName := ⟨"CallExplorer$Runner", "keepRow", "(I)V"⟩
abbrev bHeap_findFault : ByteArray := prog_6_method_7_code
abbrev yHeap_findFault : MethodName := ⟨"CallExplorer$Heap", "findFault", "()I"⟩
abbrev bHeap_faultOfPair : ByteArray := prog_6_method_8_code
abbrev yHeap_faultOfPair : MethodName := ⟨"CallExplorer$Heap", "faultOfPair", "(II)I"⟩
abbrev bHeap_code : ByteArray := prog_6_method_6_code
abbrev yHeap_code : MethodName := ⟨"CallExplorer$Heap", "code", "(I)I"⟩
abbrev bBook_add : ByteArray := prog_2_method_4_code
abbrev yBook_add : MethodName := ⟨"CallExplorer$Book", "add", "(LCallExplorer$Sequence;LCallExplorer$Runner;)I"⟩
abbrev bBook_knowsShape : ByteArray := prog_2_method_5_code
abbrev yBook_knowsShape : MethodName := ⟨"CallExplorer$Book", "knowsShape", "(LCallExplorer$Runner;)Z"⟩
abbrev bEntry_hasShapeOf : ByteArray := prog_4_method_2_code
abbrev yEntry_hasShapeOf : MethodName := ⟨"CallExplorer$Entry", "hasShapeOf", "(LCallExplorer$Runner;)Z"⟩
abbrev bEntry_init : ByteArray := prog_4_method_1_code
abbrev yEntry_init : MethodName := ⟨"CallExplorer$Entry", "<init>", "(LCallExplorer$Sequence;IILCallExplorer$Runner;)V"⟩
abbrev bSequence_copy : ByteArray := prog_9_method_10_code
abbrev ySequence_copy : MethodName := ⟨"CallExplorer$Sequence", "copy", "(LCallExplorer$Sequence;)V"⟩
abbrev bArrays_copyOf : ByteArray := prog_17_method_123_code
abbrev yArrays_copyOf : MethodName := ⟨"java/util/Arrays", "copyOf", "([II)[I"⟩
abbrev bMath_min : ByteArray := prog_15_method_69_code
abbrev yMath_min : MethodName := ⟨"java/lang/Math", "min", "(II)I"⟩
abbrev bTop_seek : ByteArray := prog_1_method_6_code
abbrev yTop_seek : MethodName := ⟨"CallExplorer", "seek", "(I)I"⟩
abbrev bTop_shorten : ByteArray := prog_1_method_7_code
abbrev yTop_shorten : MethodName := ⟨"CallExplorer", "shorten", "(I)I"⟩
abbrev bShortener_lowerVariables : ByteArray := prog_10_method_2_code
abbrev yShortener_lowerVariables : MethodName := ⟨"CallExplorer$Shortener", "lowerVariables", "(LCallExplorer$Entry;)V"⟩
abbrev bShortener_lowerInTrial : ByteArray := prog_10_method_3_code
abbrev yShortener_lowerInTrial : MethodName := ⟨"CallExplorer$Shortener", "lowerInTrial", "(LCallExplorer$Sequence;II)Z"⟩
abbrev bShortener_keepIfSame : ByteArray := prog_10_method_6_code
abbrev yShortener_keepIfSame : MethodName := ⟨"CallExplorer$Shortener", "keepIfSame", "(LCallExplorer$Entry;)V"⟩
abbrev bShortener_dropStatements : ByteArray := prog_10_method_4_code
abbrev yShortener_dropStatements : MethodName := ⟨"CallExplorer$Shortener", "dropStatements", "(LCallExplorer$Entry;)V"⟩
abbrev bSequence_usesLater : ByteArray := prog_9_method_12_code
abbrev ySequence_usesLater : MethodName := ⟨"CallExplorer$Sequence", "usesLater", "(I)Z"⟩
abbrev bSequence_remove : ByteArray := prog_9_method_13_code
abbrev ySequence_remove : MethodName := ⟨"CallExplorer$Sequence", "remove", "(I)V"⟩
abbrev bShortener_zeroLiterals : ByteArray := prog_10_method_5_code
abbrev yShortener_zeroLiterals : MethodName := ⟨"CallExplorer$Shortener", "zeroLiterals", "(LCallExplorer$Entry;)V"⟩
abbrev bTop_entries : ByteArray := prog_1_method_8_code
abbrev yTop_entries : MethodName := ⟨"CallExplorer", "entries", "()I"⟩
abbrev bTop_entry : ByteArray := prog_1_method_9_code
abbrev yTop_entry : MethodName := ⟨"CallExplorer", "entry", "(II)I"⟩
abbrev bTop_statement : ByteArray := prog_1_method_10_code
abbrev yTop_statement : MethodName := ⟨"CallExplorer", "statement", "(III)I"⟩
abbrev bTop_text : ByteArray := prog_1_method_11_code
abbrev yTop_text : MethodName := ⟨"CallExplorer", "text", "(II)I"⟩
abbrev bWriter_write : ByteArray := prog_11_method_2_code
abbrev yWriter_write : MethodName := ⟨"CallExplorer$Writer", "write", "(LCallExplorer$Entry;)V"⟩
abbrev bWriter_writeCall : ByteArray := prog_11_method_4_code
abbrev yWriter_writeCall : MethodName := ⟨"CallExplorer$Writer", "writeCall", "(LCallExplorer$Sequence;I)V"⟩
abbrev bWriter_put : ByteArray := prog_11_method_3_code
abbrev yWriter_put : MethodName := ⟨"CallExplorer$Writer", "put", "(C)V"⟩
abbrev bWriter_writeArgument : ByteArray := prog_11_method_5_code
abbrev yWriter_writeArgument : MethodName := ⟨"CallExplorer$Writer", "writeArgument", "(II)V"⟩
abbrev bWriter_writeNumber : ByteArray := prog_11_method_8_code
abbrev yWriter_writeNumber : MethodName := ⟨"CallExplorer$Writer", "writeNumber", "(I)V"⟩
abbrev bWriter_writeEnd : ByteArray := prog_11_method_6_code
abbrev yWriter_writeEnd : MethodName := ⟨"CallExplorer$Writer", "writeEnd", "(LCallExplorer$Entry;)V"⟩
abbrev bWriter_writeResult : ByteArray := prog_11_method_7_code
abbrev yWriter_writeResult : MethodName := ⟨"CallExplorer$Writer", "writeResult", "(LCallExplorer$Entry;)V"⟩
abbrev bTop_draft : ByteArray := prog_1_method_12_code
abbrev yTop_draft : MethodName := ⟨"CallExplorer", "draft", "(J)Z"⟩
abbrev bReader_addToDraft : ByteArray := prog_7_method_2_code
abbrev yReader_addToDraft : MethodName := ⟨"CallExplorer$Reader", "addToDraft", "(J)Z"⟩
abbrev bReader_countBytes : ByteArray := prog_7_method_3_code
abbrev yReader_countBytes : MethodName := ⟨"CallExplorer$Reader", "countBytes", "(J)I"⟩
abbrev bReader_byteOf : ByteArray := prog_7_method_4_code
abbrev yReader_byteOf : MethodName := ⟨"CallExplorer$Reader", "byteOf", "(JI)I"⟩
abbrev bTop_replay : ByteArray := prog_1_method_13_code
abbrev yTop_replay : MethodName := ⟨"CallExplorer", "replay", "()I"⟩
abbrev bReader_read : ByteArray := prog_7_method_5_code
abbrev yReader_read : MethodName := ⟨"CallExplorer$Reader", "read", "()Z"⟩
abbrev bReader_isAtEnd : ByteArray := prog_7_method_9_code
abbrev yReader_isAtEnd : MethodName := ⟨"CallExplorer$Reader", "isAtEnd", "()Z"⟩
abbrev bReader_peek : ByteArray := prog_7_method_7_code
abbrev yReader_peek : MethodName := ⟨"CallExplorer$Reader", "peek", "()C"⟩
abbrev bReader_readCall : ByteArray := prog_7_method_11_code
abbrev yReader_readCall : MethodName := ⟨"CallExplorer$Reader", "readCall", "()Z"⟩
abbrev bReader_accept : ByteArray := prog_7_method_8_code
abbrev yReader_accept : MethodName := ⟨"CallExplorer$Reader", "accept", "(C)Z"⟩
abbrev bReader_readArgument : ByteArray := prog_7_method_12_code
abbrev yReader_readArgument : MethodName := ⟨"CallExplorer$Reader", "readArgument", "(II)Z"⟩
abbrev bReader_readVariable : ByteArray := prog_7_method_13_code
abbrev yReader_readVariable : MethodName := ⟨"CallExplorer$Reader", "readVariable", "(III)Z"⟩
abbrev bReader_isAtDigit : ByteArray := prog_7_method_10_code
abbrev yReader_isAtDigit : MethodName := ⟨"CallExplorer$Reader", "isAtDigit", "()Z"⟩
abbrev bReader_readNumber : ByteArray := prog_7_method_14_code
abbrev yReader_readNumber : MethodName := ⟨"CallExplorer$Reader", "readNumber", "()Z"⟩
abbrev bReader_readEnd : ByteArray := prog_7_method_15_code
abbrev yReader_readEnd : MethodName := ⟨"CallExplorer$Reader", "readEnd", "()Z"⟩
abbrev bReader_readDetail : ByteArray := prog_7_method_16_code
abbrev yReader_readDetail : MethodName := ⟨"CallExplorer$Reader", "readDetail", "(I)Z"⟩
abbrev bReader_readResult : ByteArray := prog_7_method_17_code
abbrev yReader_readResult : MethodName := ⟨"CallExplorer$Reader", "readResult", "()Z"⟩
abbrev bReader_foretold : ByteArray := prog_7_method_6_code
abbrev yReader_foretold : MethodName := ⟨"CallExplorer$Reader", "foretold", "(LCallExplorer$Runner;)Z"⟩
abbrev bTop_state : ByteArray := prog_1_method_14_code
abbrev yTop_state : MethodName := ⟨"CallExplorer", "state", "()I"⟩
abbrev bMod_init : ByteArray := prog_13_method_1_code
abbrev yMod_init : MethodName := ⟨"CallExplorerModel", "<init>", "(I)V"⟩
abbrev bMod_type : ByteArray := prog_13_method_2_code
abbrev yMod_type : MethodName := ⟨"CallExplorerModel", "type", "(III)I"⟩
abbrev bMod_operation : ByteArray := prog_13_method_5_code
abbrev yMod_operation : MethodName := ⟨"CallExplorerModel", "operation", "(III)I"⟩
abbrev bMod_isClass : ByteArray := prog_13_method_3_code
abbrev yMod_isClass : MethodName := ⟨"CallExplorerModel", "isClass", "(I)Z"⟩
abbrev bMod_hasD : ByteArray := prog_13_method_4_code
abbrev yMod_hasD : MethodName := ⟨"CallExplorerModel", "hasD", "(I)Z"⟩
abbrev bMod_literal : ByteArray := prog_13_method_6_code
abbrev yMod_literal : MethodName := ⟨"CallExplorerModel", "literal", "(I)I"⟩
abbrev bMod_step : ByteArray := prog_13_method_37_code
abbrev yMod_step : MethodName := ⟨"CallExplorerModel", "step", "()I"⟩
abbrev bMod_random : ByteArray := prog_13_method_30_code
abbrev yMod_random : MethodName := ⟨"CallExplorerModel", "random", "(I)I"⟩
abbrev bMod_arity : ByteArray := prog_13_method_8_code
abbrev yMod_arity : MethodName := ⟨"CallExplorerModel", "arity", "(I)I"⟩
abbrev bMod_wants : ByteArray := prog_13_method_9_code
abbrev yMod_wants : MethodName := ⟨"CallExplorerModel", "wants", "(II)I"⟩
abbrev bMod_chosen : ByteArray := prog_13_method_35_code
abbrev yMod_chosen : MethodName := ⟨"CallExplorerModel", "chosen", "(II)I"⟩
abbrev bMod_offered : ByteArray := prog_13_method_32_code
abbrev yMod_offered : MethodName := ⟨"CallExplorerModel", "offered", "(I)I"⟩
abbrev bMod_offers : ByteArray := prog_13_method_31_code
abbrev yMod_offers : MethodName := ⟨"CallExplorerModel", "offers", "(II)Z"⟩
abbrev bMod_typeOf : ByteArray := prog_13_method_26_code
abbrev yMod_typeOf : MethodName := ⟨"CallExplorerModel", "typeOf", "(I)I"⟩
abbrev bMod_gives : ByteArray := prog_13_method_10_code
abbrev yMod_gives : MethodName := ⟨"CallExplorerModel", "gives", "(I)I"⟩
abbrev bMod_is : ByteArray := prog_13_method_7_code
abbrev yMod_is : MethodName := ⟨"CallExplorerModel", "is", "(II)Z"⟩
abbrev bMod_take : ByteArray := prog_13_method_33_code
abbrev yMod_take : MethodName := ⟨"CallExplorerModel", "take", "(III)V"⟩
abbrev bMod_copyFrom : ByteArray := prog_13_method_23_code
abbrev yMod_copyFrom : MethodName := ⟨"CallExplorerModel", "copyFrom", "(II)V"⟩
abbrev bMod_choose : ByteArray := prog_13_method_34_code
abbrev yMod_choose : MethodName := ⟨"CallExplorerModel", "choose", "(III)V"⟩
abbrev bMod_put : ByteArray := prog_13_method_36_code
abbrev yMod_put : MethodName := ⟨"CallExplorerModel", "put", "(I)V"⟩
abbrev bMod_known : ByteArray := prog_13_method_28_code
abbrev yMod_known : MethodName := ⟨"CallExplorerModel", "known", "()Z"⟩
abbrev bMod_alike : ByteArray := prog_13_method_29_code
abbrev yMod_alike : MethodName := ⟨"CallExplorerModel", "alike", "(II)Z"⟩
abbrev bMod_entered : ByteArray := prog_13_method_38_code
abbrev yMod_entered : MethodName := ⟨"CallExplorerModel", "entered", "()I"⟩
abbrev bMod_store : ByteArray := prog_13_method_25_code
abbrev yMod_store : MethodName := ⟨"CallExplorerModel", "store", "(I)V"⟩
abbrev bMod_run : ByteArray := prog_13_method_21_code
abbrev yMod_run : MethodName := ⟨"CallExplorerModel", "run", "()V"⟩
abbrev bMod_perform : ByteArray := prog_13_method_14_code
abbrev yMod_perform : MethodName := ⟨"CallExplorerModel", "perform", "(I)I"⟩
abbrev bMod_valueOf : ByteArray := prog_13_method_12_code
abbrev yMod_valueOf : MethodName := ⟨"CallExplorerModel", "valueOf", "(II)I"⟩
abbrev bMod_fits : ByteArray := prog_13_method_13_code
abbrev yMod_fits : MethodName := ⟨"CallExplorerModel", "fits", "(J)Z"⟩
abbrev bMod_made : ByteArray := prog_13_method_11_code
abbrev yMod_made : MethodName := ⟨"CallExplorerModel", "made", "(III)I"⟩
abbrev bMod_reaches : ByteArray := prog_13_method_15_code
abbrev yMod_reaches : MethodName := ⟨"CallExplorerModel", "reaches", "(II)Z"⟩
abbrev bMod_count : ByteArray := prog_13_method_16_code
abbrev yMod_count : MethodName := ⟨"CallExplorerModel", "count", "(I)I"⟩
abbrev bMod_equal : ByteArray := prog_13_method_17_code
abbrev yMod_equal : MethodName := ⟨"CallExplorerModel", "equal", "(II)Z"⟩
abbrev bMod_hadNull : ByteArray := prog_13_method_20_code
abbrev yMod_hadNull : MethodName := ⟨"CallExplorerModel", "hadNull", "(I)Z"⟩
abbrev bMod_unsound : ByteArray := prog_13_method_19_code
abbrev yMod_unsound : MethodName := ⟨"CallExplorerModel", "unsound", "()I"⟩
abbrev bMod_codeOf : ByteArray := prog_13_method_18_code
abbrev yMod_codeOf : MethodName := ⟨"CallExplorerModel", "codeOf", "(I)I"⟩
abbrev bMod_form : ByteArray := prog_13_method_22_code
abbrev yMod_form : MethodName := ⟨"CallExplorerModel", "form", "()V"⟩
abbrev bMod_seen : ByteArray := prog_13_method_27_code
abbrev yMod_seen : MethodName := ⟨"CallExplorerModel", "seen", "()Z"⟩
abbrev bMod_load : ByteArray := prog_13_method_24_code
abbrev yMod_load : MethodName := ⟨"CallExplorerModel", "load", "(I)V"⟩
abbrev bMod_seek : ByteArray := prog_13_method_39_code
abbrev yMod_seek : MethodName := ⟨"CallExplorerModel", "seek", "(I)I"⟩
abbrev bMod_shorten : ByteArray := prog_13_method_44_code
abbrev yMod_shorten : MethodName := ⟨"CallExplorerModel", "shorten", "(I)I"⟩
abbrev bMod_simpler : ByteArray := prog_13_method_43_code
abbrev yMod_simpler : MethodName := ⟨"CallExplorerModel", "simpler", "(II)V"⟩
abbrev bMod_settle : ByteArray := prog_13_method_42_code
abbrev yMod_settle : MethodName := ⟨"CallExplorerModel", "settle", "(I)V"⟩
abbrev bMod_used : ByteArray := prog_13_method_40_code
abbrev yMod_used : MethodName := ⟨"CallExplorerModel", "used", "(I)Z"⟩
abbrev bMod_without : ByteArray := prog_13_method_41_code
abbrev yMod_without : MethodName := ⟨"CallExplorerModel", "without", "(I)V"⟩
abbrev bMod_entries : ByteArray := prog_13_method_45_code
abbrev yMod_entries : MethodName := ⟨"CallExplorerModel", "entries", "()I"⟩
abbrev bMod_entry : ByteArray := prog_13_method_46_code
abbrev yMod_entry : MethodName := ⟨"CallExplorerModel", "entry", "(II)I"⟩
abbrev bMod_statement : ByteArray := prog_13_method_47_code
abbrev yMod_statement : MethodName := ⟨"CallExplorerModel", "statement", "(III)I"⟩
abbrev bMod_text : ByteArray := prog_13_method_51_code
abbrev yMod_text : MethodName := ⟨"CallExplorerModel", "text", "(II)I"⟩
abbrev bMod_writeAll : ByteArray := prog_13_method_50_code
abbrev yMod_writeAll : MethodName := ⟨"CallExplorerModel", "writeAll", "(I)V"⟩
abbrev bMod_write : ByteArray := prog_13_method_48_code
abbrev yMod_write : MethodName := ⟨"CallExplorerModel", "write", "(I)V"⟩
abbrev bMod_writeNumber : ByteArray := prog_13_method_49_code
abbrev yMod_writeNumber : MethodName := ⟨"CallExplorerModel", "writeNumber", "(I)V"⟩
abbrev bMod_draft : ByteArray := prog_13_method_52_code
abbrev yMod_draft : MethodName := ⟨"CallExplorerModel", "draft", "(J)Z"⟩
abbrev bMod_replay : ByteArray := prog_13_method_60_code
abbrev yMod_replay : MethodName := ⟨"CallExplorerModel", "replay", "()I"⟩
abbrev bMod_peek : ByteArray := prog_13_method_53_code
abbrev yMod_peek : MethodName := ⟨"CallExplorerModel", "peek", "()I"⟩
abbrev bMod_readStatement : ByteArray := prog_13_method_58_code
abbrev yMod_readStatement : MethodName := ⟨"CallExplorerModel", "readStatement", "()V"⟩
abbrev bMod_expect : ByteArray := prog_13_method_54_code
abbrev yMod_expect : MethodName := ⟨"CallExplorerModel", "expect", "(I)V"⟩
abbrev bMod_readArgument : ByteArray := prog_13_method_57_code
abbrev yMod_readArgument : MethodName := ⟨"CallExplorerModel", "readArgument", "(II)V"⟩
abbrev bMod_number : ByteArray := prog_13_method_56_code
abbrev yMod_number : MethodName := ⟨"CallExplorerModel", "number", "(Z)I"⟩
abbrev bMod_digit : ByteArray := prog_13_method_55_code
abbrev yMod_digit : MethodName := ⟨"CallExplorerModel", "digit", "(I)Z"⟩
abbrev bMod_rightEnd : ByteArray := prog_13_method_59_code
abbrev yMod_rightEnd : MethodName := ⟨"CallExplorerModel", "rightEnd", "()Z"⟩
abbrev bMod_state : ByteArray := prog_13_method_61_code
abbrev yMod_state : MethodName := ⟨"CallExplorerModel", "state", "()I"⟩
end
section
/-! the worlds of this proof: objects by numbers, their ints in one memory (zM: number of the object, slot), their shape a function (zSh); rows over them -/
abbrev zM : Type := Nat → Nat → Int32
abbrev zSh : Type := Nat → (Nat → Int32) → va_E
def zu (h : zM) (o k : Nat) (v : Int32) : zM := va_up h o (upd (h o) k v)
def zW (N : Nat) (ad : Nat → Nat) (F : zSh) (h : zM) : va_W := (List.range N).map (fun o => (ad o, F o (h o)))
theorem zW_len {N : Nat} {ad : Nat → Nat} {F : zSh} {h : zM} : (zW N ad F h).length = N := by simp [zW]
theorem zW_at {N : Nat} {ad : Nat → Nat} {F : zSh} {h : zM} {o : Nat} (ho : o < N) : (zW N ad F h)[o]? = some (ad o, F o (h o)) := by
  unfold zW
  rw [List.getElem?_map, List.getElem?_range ho]
  rfl
theorem zW_up {N : Nat} {ad : Nat → Nat} {F : zSh} {h : zM} {o : Nat} (ho : o < N) (g : Nat → Int32) : (zW N ad F h).set o (ad o, F o g) = zW N ad F (va_up h o g) := by
  apply List.ext_getElem?
  intro k
  by_cases hk : k = o
  · subst hk
    rw [List.getElem?_set_self (by rw [zW_len]; exact ho), zW_at ho]
    simp [va_up]
  · rw [List.getElem?_set_ne (Ne.symm hk)]
    by_cases hl : k < N
    · rw [zW_at hl, zW_at hl]
      simp [va_up, hk]
    · rw [List.getElem?_eq_none (by rw [zW_len]; omega), List.getElem?_eq_none (by rw [zW_len]; omega)]
def zJ (A : Nat → Prop) (N : Nat) (ad : Nat → Nat) : Prop := (∀ o o' : Nat, o < N → o' < N → ad o = ad o' → o = o') ∧ ∀ o : Nat, o < N → A (ad o)
theorem zW_in {N : Nat} {ad : Nat → Nat} {F : zSh} {h : zM} {i : Nat} {q : Nat × va_E} (hi : (zW N ad F h)[i]? = some q) : i < N ∧ q = (ad i, F i (h i)) := by
  have hl : i < N := by have := (List.getElem?_eq_some_iff.mp hi).1; rwa [zW_len] at this
  rw [zW_at hl] at hi
  exact ⟨hl, (Option.some.inj hi).symm⟩
theorem zD {A : Nat → Prop} {N : Nat} {ad : Nat → Nat} {F : zSh} {h : zM} (hJ : zJ A N ad) : va_D A (zW N ad F h) := by
  refine ⟨fun i j x y hi hj hxy => ?_, fun k q hk => ?_⟩
  · obtain ⟨h1, rfl⟩ := zW_in hi
    obtain ⟨h2, rfl⟩ := zW_in hj
    exact hJ.1 i j h1 h2 hxy
  · obtain ⟨h1, rfl⟩ := zW_in hk
    exact hJ.2 k h1
/-! the class's tables of roles and tens, and the words on nest mates: facts of the state -/
def zt1 : Nat → Int32 := fun j => ([0, 2, 1, 1, 1, 1, 1, 1, 1, 1] : List Int32).getD j 0
def zt2 : Nat → Int32 := fun j => ([-1, -1, -1, 0, 2, -1, 0, -1, -1, 2] : List Int32).getD j 0
def zt3 : Nat → Int32 := fun j => ([1, 1, 0, 1, 1, 2, 0, 0, 0, 0] : List Int32).getD j 0
def zt4 : Nat → Int32 := fun j => ([1000000000, 100000000, 10000000, 1000000, 100000, 10000, 1000, 100, 10, 1] : List Int32).getD j 0
def zTb (nm : String) (f : Nat → Int32) (A : Nat → Prop) (U : State) (H : Heap) : Prop := ∃ t : Nat, va_Z "CallExplorer" nm "[I" (.ref t) A U H ∧ va_T .int t 10 (fun j => .int (f j)) A U H
theorem zTb.moved {nm : String} {f : Nat → Int32} {A : Nat → Prop} {u U : State} {H : Heap} (hvm : u.vm.Alike U.vm) (h : zTb nm f A u H) : zTb nm f A U H := by
  obtain ⟨t, h1, h2⟩ := h
  exact ⟨t, h1.moved hvm, h2.moved hvm⟩
theorem zTb.kept {nm : String} {f : Nat → Int32} {A : Nat → Prop} {U : State} {H H1 : Heap} (h : zTb nm f A U H) (hq : ∀ a : Nat, a < H.size → ¬ A a → H1[a]? = H[a]?) : zTb nm f A U H1 := by
  obtain ⟨t, h1, h2⟩ := h
  exact ⟨t, h1.kept hq, h2.kept hq⟩
theorem zTb.narrow {nm : String} {f : Nat → Int32} {A B : Nat → Prop} {U : State} {H : Heap} (h : zTb nm f A U H) (hAB : ∀ q, B q → A q) : zTb nm f B U H := by
  obtain ⟨t, h1, h2⟩ := h
  exact ⟨t, h1.narrow hAB, h2.narrow hAB⟩
def zTab (A : Nat → Prop) (U : State) (H : Heap) : Prop := zTb "FIRST_ROLES" zt1 A U H ∧ zTb "SECOND_ROLES" zt2 A U H ∧ zTb "RESULT_ROLES" zt3 A U H ∧ zTb "TENS" zt4 A U H
theorem zTab.moved {A : Nat → Prop} {u U : State} {H : Heap} (hvm : u.vm.Alike U.vm) (h : zTab A u H) : zTab A U H := ⟨h.1.moved hvm, h.2.1.moved hvm, h.2.2.1.moved hvm, h.2.2.2.moved hvm⟩
theorem zTab.kept {A : Nat → Prop} {U : State} {H H1 : Heap} (h : zTab A U H) (hq : ∀ a : Nat, a < H.size → ¬ A a → H1[a]? = H[a]?) : zTab A U H1 := ⟨h.1.kept hq, h.2.1.kept hq, h.2.2.1.kept hq, h.2.2.2.kept hq⟩
theorem zTab.narrow {A B : Nat → Prop} {U : State} {H : Heap} (h : zTab A U H) (hAB : ∀ q, B q → A q) : zTab B U H := ⟨h.1.narrow hAB, h.2.1.narrow hAB, h.2.2.1.narrow hAB, h.2.2.2.narrow hAB⟩
def znF : List (String × Nat × String × String × String × String) := [("CallExplorer$Catalog", 47, "CallExplorer", "FIRST_ROLES", "[I", "CallExplorer"), ("CallExplorer$Catalog", 54, "CallExplorer", "SECOND_ROLES", "[I", "CallExplorer"), ("CallExplorer$Catalog", 57, "CallExplorer", "RESULT_ROLES", "[I", "CallExplorer"), ("CallExplorer$Writer", 76, "CallExplorer", "TENS", "[I", "CallExplorer")]
def znM : List (String × Nat × MethodName × String) := [("CallExplorer", 9, ⟨"CallExplorer$Catalog", "<init>", "()V"⟩, "CallExplorer"), ("CallExplorer$Grower", 11, ⟨"CallExplorer$Sequence", "<init>", "()V"⟩, "CallExplorer"), ("CallExplorer$Shortener", 11, ⟨"CallExplorer$Sequence", "<init>", "()V"⟩, "CallExplorer"), ("CallExplorer", 52, ⟨"CallExplorer$Writer", "<init>", "()V"⟩, "CallExplorer"), ("CallExplorer$Reader", 17, ⟨"CallExplorer$Sequence", "<init>", "()V"⟩, "CallExplorer"), ("CallExplorer$Entry", 9, ⟨"CallExplorer$Sequence", "<init>", "()V"⟩, "CallExplorer")]
def zNe (U : State) : Prop := (∀ q ∈ znF, va_Nw (.fieldLinkNest q.1 q.2.1 q.2.2.1 q.2.2.2.1 q.2.2.2.2.1 q.2.2.2.2.2) U) ∧ ∀ q ∈ znM, va_Nw (.methodLinkNest q.1 q.2.1 q.2.2.1 q.2.2.2) U
theorem zNe.warm {s U : State} (hW : s.WarmedH U.vm) (h : zNe s) : zNe U := ⟨fun q hq => (h.1 q hq).warmF hW, fun q hq => (h.2 q hq).warmM hW⟩
theorem zNe.same {s U : State} (hv : s.vm = U.vm) (h : zNe s) : zNe U := ⟨fun q hq => (h.1 q hq).same rfl hv, fun q hq => (h.2 q hq).same rfl hv⟩
def zPre (D : va_G) (tys : List (ClassId × FieldType)) (N : Nat) (ad : Nat → Nat) (F : zSh) (A : Nat → Prop) (h : zM) (U : State) : Prop := va_P D zcl (zW N ad F h) U.heap ∧ va_K D zcl tys U ∧ zTab A U U.heap ∧ zNe U
def zPst (D : va_G) (tys : List (ClassId × FieldType)) (N : Nat) (ad : Nat → Nat) (F : zSh) (h : zM) (t : State) : Prop := va_P D zcl (zW N ad F h) t.heap ∧ va_K D zcl tys t
abbrev zS (p : Program) (m : MethodId) (c : Code) (cc : ByteArray) (nL : Nat) (s : State) (args : Array Value) (own : String) : Prop := CallFix p m c cc nL s args zt own
/-- a loop: as often as n says -/
def zl {σ : Type} (S : (σ → Prop) → σ → Prop) : Nat → σ → Prop
  | 0 => fun _ => False
  | n + 1 => fun x => S (zl S n) x
def zL {σ : Type} (S : (σ → Prop) → σ → Prop) (x : σ) : Prop := ∃ n, zl S n x
theorem zl_0 {σ : Type} {S : (σ → Prop) → σ → Prop} {x : σ} (h : zl S 0 x) : False := h
theorem zl_s {σ : Type} {S : (σ → Prop) → σ → Prop} {n : Nat} {x : σ} (h : zl S (n + 1) x) : S (zl S n) x := h
theorem zL_rule {σ : Type} {S : (σ → Prop) → σ → Prop} (I : σ → Prop) (μ : σ → Nat) (hs : ∀ (x : σ) (L : σ → Prop), I x → (∀ y, I y → μ y < μ x → L y) → S L x) (x : σ) (hx : I x) : zL S x := by
  have key : ∀ n x, μ x < n → I x → zl S n x := by
    intro n
    induction n with
    | zero => intro x h; exact absurd h (Nat.not_lt_zero _)
    | succ n ih => intro x h hI; exact hs x _ hI (fun y hy hm => ih y (by omega) hy)
  exact ⟨μ x + 1, key _ x (Nat.lt_succ_self _) hx⟩
def zCal (own : String) (index : Nat) (y : MethodName) (C : String) (b : ByteArray) (mL : Nat) (ret : Option FieldType) (n : Nat) : Prop :=
  Cond.code y b mL ret ∈ zt ∧ Cond.methodLink own index y ∈ zt ∧ Cond.instanceMethod y ∈ zt ∧ Cond.selects C y y ∈ zt ∧ Cond.initialized C ∈ zt ∧ (y.cls = C ∧ y.cls ≠ "java/lang/invoke/MethodHandle" ∧ y.cls ≠ "java/lang/invoke/VarHandle" ∧ (parseMethodDescriptor y.desc).map (fun d => d.parameters.length) = some n)
def zCas (own : String) (index : Nat) (y : MethodName) (b : ByteArray) (mL : Nat) (ret : Option FieldType) (n : Nat) : Prop :=
  Cond.code y b mL ret ∈ zt ∧ Cond.methodLink own index y ∈ zt ∧ Cond.static y ∈ zt ∧ Cond.initialized own ∈ zt ∧ (y.cls = own ∧ y.cls ≠ "java/lang/invoke/MethodHandle" ∧ y.cls ≠ "java/lang/invoke/VarHandle" ∧ (parseMethodDescriptor y.desc).map (fun d => d.parameters.length) = some n)
section ZR
variable {p : Program} {l : Launch} {e : Env} {R : Room} {s : State} {m : MethodId} {args : Array Value} {below : List Frame} {meth : Method} {c : Code} {H : Heap} {locs : List Loc} {cells slots : Nat} {Q : State → Prop}
variable {cc : ByteArray} {pc nL : Nat} {ls : Array Slot} {rest : List Value} {D : va_G} {A : Nat → Prop} {tys : List (ClassId × FieldType)} {H0 : Heap} {own : String} {N : Nat} {ad : Nat → Nat} {F : zSh} {h : zM}
theorem zr_get (S : zS p m c cc nL s args own) (hK : va_K D zcl tys s) (hP : va_P D zcl (zW N ad F h) H) {o ci k index : Nat} {C nm ds : String} {fin : Bool} {ty : FieldType} {fs : List Value} {v : Value} (ho : o < N) (hF : F o (h o) = .inr (ci, fs)) (hf : zFld ci k C nm ds fin ty) (hlink : Cond.fieldLink own index C nm ds ∈ zt) (hv : fs[k]? = some v) (hdg : decode cc pc = .ok (.getfield index, 3))
    (kk : W p l e R s m args below meth c H locs cells slots Q (F0 m (pc + 3) ls (v :: rest))) : W p l e R s m args below meth c H locs cells slots Q (F0 m pc ls (.ref (ad o) :: rest)) := by
  obtain ⟨T, N0, ty0, hc, hin, hty, hnm, hk, hT, hd⟩ := hf
  exact va_get (T := T) (N := N0) (ref := C) S.1 S.2.1 S.2.2.2.2 hin S.2.2.2.1 hK hP o (by rw [zW_at ho, hF]) hc k hk (by rw [hT]; exact S.2.2.2.2 _ hlink) (fun x hx => by rw [hT] at hx ⊢; exact hx) hv hdg kk
theorem zr_put (S : zS p m c cc nL s args own) (hK : va_K D zcl tys s) (hJ : zJ A N ad) (hP : va_P D zcl (zW N ad F h) H) (hS : va_S A H0 H locs) {o ci k index : Nat} {C nm ds : String} {ty : FieldType} {fs : List Value} {v : Int32} (ho : o < N) (hF : F o (h o) = .inr (ci, fs)) (hf : zFld ci k C nm ds false ty) (hlink : Cond.fieldLink own index C nm ds ∈ zt) (hn : narrow ty (.int v) = .int v) (hfit : fits ty (.int v) = true) (hl : k < fs.length) (hF2 : F o (upd (h o) k v) = .inr (ci, fs.set k (.int v))) (hdg : decode cc pc = .ok (.putfield index, 3))
    (kk : ∀ (h1 : zM) (H1 : Heap) (locs1 : List Loc), h1 = zu h o k v → va_P D zcl (zW N ad F h1) H1 → va_S A H0 H1 locs1 → W p l e R s m args below meth c H1 locs1 cells slots Q (F0 m (pc + 3) ls rest)) : W p l e R s m args below meth c H locs cells slots Q (F0 m pc ls (.int v :: .ref (ad o) :: rest)) := by
  obtain ⟨T, N0, ty0, hc, hin, hty, hnm, hk, hT, hd⟩ := hf
  refine va_put (T := T) (N := N0) (ref := C) (ty := ty) S.1 S.2.1 S.2.2.2.2 hin ty0 hty hnm S.2.2.2.1 hK hP (zD hJ) hS o (by rw [zW_at ho, hF]) hc k hk (by rw [hT]; exact S.2.2.2.2 _ hlink) (fun x hx => by rw [hT] at hx ⊢; exact hx) (by rw [hT]) (by rw [hT]; exact hd) hn hfit hl hdg (fun H1 locs1 hP1 _ hS1 => kk _ H1 locs1 rfl ?_ hS1)
  rw [← hF2, zW_up ho] at hP1
  exact hP1
theorem zr_ald (S : zS p m c cc nL s args own) (hK : va_K D zcl tys s) (hP : va_P D zcl (zW N ad F h) H) {o n : Nat} {cA : ClassId} (ho : o < N) (hF : F o (h o) = .inl (cA, n, .inl (h o))) (t0 : Nat) (ht : tys[t0]? = some (cA, .int)) {i : Int32} (hin : vp_in i n) (hdg : decode cc pc = .ok (.iaload, 1))
    (kk : W p l e R s m args below meth c H locs cells slots Q (F0 m (pc + 1) ls (.int (h o i.toNatClampNeg) :: rest))) : W p l e R s m args below meth c H locs cells slots Q (F0 m pc ls (.int i :: .ref (ad o) :: rest)) :=
  va_iald S.1 S.2.1 hK hP o t0 (by rw [zW_at ho, hF]) ht hin hdg kk
theorem zr_cld (S : zS p m c cc nL s args own) (hK : va_K D zcl tys s) (hP : va_P D zcl (zW N ad F h) H) {o n : Nat} {cA : ClassId} (ho : o < N) (hF : F o (h o) = .inl (cA, n, .inl (h o))) (t0 : Nat) (ht : tys[t0]? = some (cA, .char)) {i : Int32} (hin : vp_in i n) (hdg : decode cc pc = .ok (.caload, 1))
    (kk : W p l e R s m args below meth c H locs cells slots Q (F0 m (pc + 1) ls (.int (h o i.toNatClampNeg) :: rest))) : W p l e R s m args below meth c H locs cells slots Q (F0 m pc ls (.int i :: .ref (ad o) :: rest)) :=
  va_cald S.1 S.2.1 hK hP o t0 (by rw [zW_at ho, hF]) ht hin hdg kk
theorem zr_ast (S : zS p m c cc nL s args own) (hK : va_K D zcl tys s) (hJ : zJ A N ad) (hP : va_P D zcl (zW N ad F h) H) (hS : va_S A H0 H locs) {o n : Nat} {cA : ClassId} (ho : o < N) (hF : ∀ g, F o g = .inl (cA, n, .inl g)) (t0 : Nat) (ht : tys[t0]? = some (cA, .int)) {i x : Int32} (hin : vp_in i n) (hdg : decode cc pc = .ok (.iastore, 1))
    (kk : ∀ (h1 : zM) (H1 : Heap) (locs1 : List Loc), h1 = zu h o i.toNatClampNeg x → va_P D zcl (zW N ad F h1) H1 → va_S A H0 H1 locs1 → W p l e R s m args below meth c H1 locs1 cells slots Q (F0 m (pc + 1) ls rest)) : W p l e R s m args below meth c H locs cells slots Q (F0 m pc ls (.int x :: .int i :: .ref (ad o) :: rest)) := by
  refine va_iast S.1 S.2.1 hK hP (zD hJ) hS o t0 (by rw [zW_at ho, hF]) ht hin hdg (fun H1 locs1 hP1 _ hS1 => kk _ H1 locs1 rfl ?_ hS1)
  rw [← hF, zW_up ho] at hP1
  exact hP1
theorem zr_cst (S : zS p m c cc nL s args own) (hK : va_K D zcl tys s) (hJ : zJ A N ad) (hP : va_P D zcl (zW N ad F h) H) (hS : va_S A H0 H locs) {o n : Nat} {cA : ClassId} (ho : o < N) (hF : ∀ g, F o g = .inl (cA, n, .inl g)) (t0 : Nat) (ht : tys[t0]? = some (cA, .char)) {i x : Int32} (hin : vp_in i n) (hdg : decode cc pc = .ok (.castore, 1))
    (kk : ∀ (h1 : zM) (H1 : Heap) (locs1 : List Loc), h1 = zu h o i.toNatClampNeg (vp_nar .char x) → va_P D zcl (zW N ad F h1) H1 → va_S A H0 H1 locs1 → W p l e R s m args below meth c H1 locs1 cells slots Q (F0 m (pc + 1) ls rest)) : W p l e R s m args below meth c H locs cells slots Q (F0 m pc ls (.int x :: .int i :: .ref (ad o) :: rest)) := by
  refine va_cast S.1 S.2.1 hK hP (zD hJ) hS o t0 (by rw [zW_at ho, hF]) ht hin hdg (fun H1 locs1 hP1 _ hS1 => kk _ H1 locs1 rfl ?_ hS1)
  rw [← hF, zW_up ho] at hP1
  exact hP1
theorem zr_len (S : zS p m c cc nL s args own) (hK : va_K D zcl tys s) (hP : va_P D zcl (zW N ad F h) H) {o n : Nat} {cA : ClassId} {ty : FieldType} (ho : o < N) (hF : F o (h o) = .inl (cA, n, .inl (h o))) (t0 : Nat) (ht : tys[t0]? = some (cA, ty)) (hdg : decode cc pc = .ok (.arraylength, 1))
    (kk : W p l e R s m args below meth c H locs cells slots Q (F0 m (pc + 1) ls (.int (nI n) :: rest))) : W p l e R s m args below meth c H locs cells slots Q (F0 m pc ls (.ref (ad o) :: rest)) :=
  va_alen (x := (n, .inl (h o))) (v := nI n) S.1 S.2.1 hK hP o t0 (by rw [zW_at ho, hF]) ht rfl hdg kk
theorem zr_copy (S : zS p m c cc nL s args own) (hls : ls.size = nL) (hK : va_K D zcl tys s) (hJ : zJ A N ad) (hP : va_P D zcl (zW N ad F h) H) (hS : va_S A H0 H locs) {o0 o1 n0 n1 index : Nat} {cA : ClassId} (ho0 : o0 < N) (hF0 : F o0 (h o0) = .inl (cA, n0, .inl (h o0))) (ho1 : o1 < N) (hF1 : ∀ g, F o1 g = .inl (cA, n1, .inl g)) (t0 : Nat) (ht : tys[t0]? = some (cA, .int))
    (hlink : Cond.methodLink own index arraycopyName ∈ zt) (hnat : Cond.native arraycopyName ∈ zt) (hstat : Cond.static arraycopyName ∈ zt) (hini : Cond.initialized "java/lang/System" ∈ zt)
    {sp dp n : Int32} (h1 : ¬ sp < 0) (h2 : ¬ dp < 0) (h3 : ¬ n < 0) (h4 : sp.toNatClampNeg + n.toNatClampNeg ≤ n0) (h5 : dp.toNatClampNeg + n.toNatClampNeg ≤ n1) (hframes : 1 ≤ R.frames) (hlocals : (rest.map fun v => v.category).sum + (nativeFrameWords "java/lang/System" "arraycopy" 5 + 11) ≤ R.locals) (hdg : decode cc pc = .ok (.invokestatic index, 3))
    (kk : ∀ (h1 : zM) (H1 : Heap) (locs1 : List Loc), h1 = va_up h o1 (va_cpy (h o0) (h o1) sp.toNatClampNeg dp.toNatClampNeg n.toNatClampNeg) → va_P D zcl (zW N ad F h1) H1 → va_S A H0 H1 locs1 → W p l e R s m args below meth c H1 locs1 cells slots Q (F0 m (pc + 3) ls rest)) : W p l e R s m args below meth c H locs cells slots Q (F0 m pc ls (.int n :: .int dp :: .ref (ad o1) :: .int sp :: .ref (ad o0) :: rest)) := by
  refine va_copyi S.1 S.2.1 (by rw [hls]; exact S.2.2.1) S.2.2.2.1 (S.2.2.2.2 _ hlink) (S.2.2.2.2 _ hnat) (S.2.2.2.2 _ hstat) (S.2.2.2.2 _ hini) hK hP (zD hJ) hS o0 o1 t0 t0 (by rw [zW_at ho0, hF0]) (by rw [zW_at ho1, hF1]) ht ht rfl h1 h2 h3 h4 h5 (fun _ _ => rfl) hframes hlocals hdg (fun H1 locs1 hP1 _ hS1 => kk _ H1 locs1 rfl ?_ hS1)
  rw [← hF1, zW_up ho1] at hP1
  exact hP1
theorem zr_gets (S : zS p m c cc nL s args own) (hN : zNe s) (hS : va_S A s.heap H locs) {t index : Nat} {nm : String} (hZ : va_Z "CallExplorer" nm "[I" (.ref t) A s s.heap) (hq : (own, index, "CallExplorer", nm, "[I", "CallExplorer") ∈ znF) (hdg : decode cc pc = .ok (.getstatic index, 3))
    (kk : W p l e R s m args below meth c H locs cells slots Q (F0 m (pc + 3) ls (.ref t :: rest))) : W p l e R s m args below meth c H locs cells slots Q (F0 m pc ls rest) :=
  va_getsN S.1 S.2.1 hZ hS S.2.2.2.1 (va_Nw.use rfl (hN.1 _ hq)) (fun _ h => h) hdg kk
theorem zr_tld (S : zS p m c cc nL s args own) (hS : va_S A s.heap H locs) {t : Nat} {f : Nat → Int32} (hT : va_T .int t 10 (fun j => .int (f j)) A s s.heap) {i : Int32} (hin : vp_in i 10) (hdg : decode cc pc = .ok (.iaload, 1))
    (kk : W p l e R s m args below meth c H locs cells slots Q (F0 m (pc + 1) ls (.int (f i.toNatClampNeg) :: rest))) : W p l e R s m args below meth c H locs cells slots Q (F0 m pc ls (.int i :: .ref t :: rest)) :=
  va_ti S.1 S.2.1 hT hS hin rfl hdg kk
theorem zr_tln (S : zS p m c cc nL s args own) (hS : va_S A s.heap H locs) {t : Nat} {f : Nat → Int32} (hT : va_T .int t 10 (fun j => .int (f j)) A s s.heap) (hdg : decode cc pc = .ok (.arraylength, 1))
    (kk : W p l e R s m args below meth c H locs cells slots Q (F0 m (pc + 1) ls (.int 10 :: rest))) : W p l e R s m args below meth c H locs cells slots Q (F0 m pc ls (.ref t :: rest)) :=
  va_tlen S.1 S.2.1 hT hS rfl hdg kk
theorem zr_row (S : zS p m c cc nL s args own) (hK : va_K D zcl tys s) (hP : va_P D zcl (zW N ad F h) H) {o n r : Nat} {cA : ClassId} {C : String} {f : Nat → Option Nat} (ho : o < N) (hF : F o (h o) = .inl (cA, n, .inr (.inr (.inr (.inr f))))) (t0 : Nat) (ht : tys[t0]? = some (cA, .object C)) {i : Int32} (hin : vp_in i n) (hf : f i.toNatClampNeg = some r) (hdg : decode cc pc = .ok (.aaload, 1))
    (kk : W p l e R s m args below meth c H locs cells slots Q (F0 m (pc + 1) ls (.ref r :: rest))) : W p l e R s m args below meth c H locs cells slots Q (F0 m pc ls (.int i :: .ref (ad o) :: rest)) :=
  va_aldq S.1 S.2.1 hK hP o t0 (by rw [zW_at ho, hF]) ht hin hdg (by rw [hf]; exact kk)
variable {index mL n mc ms : Nat} {y : MethodName} {C : String} {b : ByteArray} {ret : Option FieldType} {rm : Room} {As st0 : List Value} {Qc : Array Value → State → Outcome → State → Prop}
theorem zCw (hts : ∀ w ∈ zt, w.before args s = true) (hc : zCal own index y C b mL ret n) (hR : rm.frames + 1 ≤ R.frames ∧ 8 + (mL + 11) + rm.locals ≤ R.locals) (h0 : rm.cells = mc) (h1 : rm.slots = ms) : CallW R s args own C index y b mL ret (.code y b mL ret :: zt) rm mc ms n := by
  obtain ⟨a1, a2, a3, a4, a5, hd⟩ := hc
  refine cwV n hts (fun w hw => ?_) rfl h0 h1 hd hR
  have hm : w ∈ zt := by
    rcases List.mem_append.mp hw with h | h
    · simp only [List.mem_cons, List.not_mem_nil, or_false] at h
      rcases h with rfl | rfl | rfl | rfl <;> assumption
    · rcases List.mem_cons.mp h with rfl | h
      · exact a1
      · exact h
  exact ⟨hm, zgood w hm⟩
theorem zCws (hts : ∀ w ∈ zt, w.before args s = true) (hc : zCas own index y b mL ret n) (hR : rm.frames + 1 ≤ R.frames ∧ 8 + (mL + 11) + rm.locals ≤ R.locals) (h0 : rm.cells = mc) (h1 : rm.slots = ms) : CallB R s args own index y b mL ret (.code y b mL ret :: zt) rm mc ms n ∧ (Cond.static y).before args s = true := by
  obtain ⟨a1, a2, a3, a4, hd⟩ := hc
  refine cwS n hts (fun w hw => ?_) rfl h0 h1 hd hR
  have hm : w ∈ zt := by
    rcases List.mem_append.mp hw with h | h
    · simp only [List.mem_cons, List.not_mem_nil, or_false] at h
      rcases h with rfl | rfl | rfl <;> assumption
    · rcases List.mem_cons.mp h with rfl | h
      · exact a1
      · exact h
  exact ⟨hm, zgood w hm⟩
theorem zBlind {av : List Value} : FrameBlind (va_Pc av (zPre D tys N ad F A h)) := fun a U g mk q => by
  obtain ⟨q0, qP, qK, qT, qN⟩ := q
  exact ⟨q0, qP, va_K.moved (u := U) (U := U.calling g mk a) (Vm.Alike.refl U.vm) qK, zTab.moved (u := U) (U := U.calling g mk a) (Vm.Alike.refl U.vm) qT, qN.same rfl⟩
theorem zPre_at (hK : va_K D zcl tys s) (hT : zTab A s s.heap) (hN : zNe s) (hP : va_P D zcl (zW N ad F h) H) (hS : va_S A s.heap H locs) {av : List Value} : ∀ U : State, U.heap = H → s.WarmedH U.vm → va_Pc av (zPre D tys N ad F A h) av.toArray U := fun U hU hW =>
  ⟨rfl, by rw [hU]; exact hP, va_K.moved hW.alike hK, by rw [hU]; exact (hT.kept hS.2.1).moved hW.alike, hN.warm hW⟩
theorem zr_V (S : zS p m c cc nL s args own) (hK : va_K D zcl tys s) (hT : zTab A s s.heap) (hN : zNe s) (hP : va_P D zcl (zW N ad F h) H) (hS : va_S A s.heap H locs) {o ci N0 : Nat} {T : u_T} {fs : List Value} (ho : o < N) (hF : F o (h o) = .inr (ci, fs)) (hcl : zcl[ci]? = some (C, T, N0)) (hM : Met l y (.code y b mL ret :: zt) rm (va_Pc (.ref (ad o) :: As) (zPre D tys N ad F A h)) Qc 0 0 A) (hc : zCal own index y C b mL ret n) (hR : rm.frames + 1 ≤ R.frames ∧ 8 + (mL + 11) + rm.locals ≤ R.locals) (h0 : rm.cells = 0 ∧ rm.slots = 0) (hn : As.length = n) (hsz : ls.size = nL) (hst : st0 = As.reverse ++ .ref (ad o) :: rest) (hW : (rest.map fun v => v.category).sum ≤ 8) (hdg : decode cc pc = .ok (.invokevirtual index, 3)) : va_Run p l e R s m args below meth c H locs 0 0 0 0 (F0 m pc ls st0) rest (Qc (Value.ref (ad o) :: As).toArray) A :=
  va_runV S hM (zCw S.2.2.2.2 hc hR h0.1 h0.2) ⟨zBlind, va_recv hK hP hcl (q0 := o) (by rw [zW_at ho, hF]), zPre_at hK hT hN hP hS⟩ rfl hn hsz hst (lv_room (rest := st0) hW) hdg ⟨Nat.zero_le _, Nat.zero_le _⟩
theorem zr_T (S : zS p m c cc nL s args own) (hK : va_K D zcl tys s) (hT : zTab A s s.heap) (hN : zNe s) (hP : va_P D zcl (zW N ad F h) H) (hS : va_S A s.heap H locs) (hM : Met l y (.code y b mL ret :: zt) rm (va_Pc As (zPre D tys N ad F A h)) Qc 0 0 A) (hc : zCas own index y b mL ret n) (hR : rm.frames + 1 ≤ R.frames ∧ 8 + (mL + 11) + rm.locals ≤ R.locals) (h0 : rm.cells = 0 ∧ rm.slots = 0) (hn : As.length = n) (hsz : ls.size = nL) (hst : st0 = As.reverse ++ rest) (hW : (rest.map fun v => v.category).sum ≤ 8) (hdg : decode cc pc = .ok (.invokestatic index, 3)) : va_Run p l e R s m args below meth c H locs 0 0 0 0 (F0 m pc ls st0) rest (Qc As.toArray) A :=
  va_runS S hM (zCws S.2.2.2.2 hc hR h0.1 h0.2) ⟨zBlind, zPre_at hK hT hN hP hS⟩ rfl hn hsz hst (lv_room (rest := st0) hW) hdg ⟨Nat.zero_le _, Nat.zero_le _⟩
variable {a0 : Array Value}
theorem zr_i {post : Int32 → zM → Prop} (hr : va_Run p l e R s m args below meth c H locs 0 0 0 0 (F0 m pc ls st0) rest (va_Qi post (zPst D tys N ad F) A a0) A) (hS : va_S A H0 H locs)
    (kk : ∀ (r : Int32) (h1 : zM) (H1 : Heap) (locs1 : List Loc), post r h1 → va_P D zcl (zW N ad F h1) H1 → va_S A H0 H1 locs1 → W p l e R s m args below meth c H1 locs1 0 0 Q (F0 m (pc + 3) ls (.int r :: rest))) : W p l e R s m args below meth c H locs 0 0 Q (F0 m pc ls st0) :=
  va_calli hr hS (fun _ _ h => h) (fun _ h => h) (fun r u t H1 locs1 ht _ hp hB _ _ hS1 => kk r u H1 locs1 hp (by rw [← ht]; exact hB.1) hS1)
theorem zr_v {post : zM → Prop} (hr : va_Run p l e R s m args below meth c H locs 0 0 0 0 (F0 m pc ls st0) rest (va_Qv post (zPst D tys N ad F) A a0) A) (hS : va_S A H0 H locs)
    (kk : ∀ (h1 : zM) (H1 : Heap) (locs1 : List Loc), post h1 → va_P D zcl (zW N ad F h1) H1 → va_S A H0 H1 locs1 → W p l e R s m args below meth c H1 locs1 0 0 Q (F0 m (pc + 3) ls rest)) : W p l e R s m args below meth c H locs 0 0 Q (F0 m pc ls st0) :=
  va_callv hr hS (fun _ _ h => h) (fun _ h => h) (fun u t H1 locs1 ht _ hp hB _ _ hS1 => kk u H1 locs1 hp (by rw [← ht]; exact hB.1) hS1)
theorem zr_e {ad2 : Nat → Nat} {post : Option Nat → zM → Prop} (hr : va_Run p l e R s m args below meth c H locs 0 0 0 0 (F0 m pc ls st0) rest (va_Qe ad2 post (zPst D tys N ad F) A a0) A) (hS : va_S A H0 H locs)
    (k0 : ∀ (h1 : zM) (H1 : Heap) (locs1 : List Loc), post none h1 → va_P D zcl (zW N ad F h1) H1 → va_S A H0 H1 locs1 → W p l e R s m args below meth c H1 locs1 0 0 Q (F0 m (pc + 3) ls (.null :: rest)))
    (k1 : ∀ (j : Nat) (h1 : zM) (H1 : Heap) (locs1 : List Loc), post (some j) h1 → va_P D zcl (zW N ad F h1) H1 → va_S A H0 H1 locs1 → W p l e R s m args below meth c H1 locs1 0 0 Q (F0 m (pc + 3) ls (.ref (ad2 j) :: rest))) : W p l e R s m args below meth c H locs 0 0 Q (F0 m pc ls st0) :=
  va_calle hr hS (fun _ _ h => h) (fun _ h => h) (fun r u t H1 locs1 ht _ hp hB _ _ hS1 => by
    cases r with
    | none => exact k0 u H1 locs1 hp (by rw [← ht]; exact hB.1) hS1
    | some j => exact k1 j u H1 locs1 hp (by rw [← ht]; exact hB.1) hS1)
/-! the ends -/
abbrev zQi (post : Int32 → zM → Prop) (D : va_G) (tys : List (ClassId × FieldType)) (N : Nat) (ad : Nat → Nat) (F : zSh) (A : Nat → Prop) (below : List Frame) (args : Array Value) (s : State) : State → Prop := MQ below (va_Qi post (zPst D tys N ad F) A) args s 0 0 A
abbrev zQv (post : zM → Prop) (D : va_G) (tys : List (ClassId × FieldType)) (N : Nat) (ad : Nat → Nat) (F : zSh) (A : Nat → Prop) (below : List Frame) (args : Array Value) (s : State) : State → Prop := MQ below (va_Qv post (zPst D tys N ad F) A) args s 0 0 A
abbrev zQe (ad2 : Nat → Nat) (post : Option Nat → zM → Prop) (D : va_G) (tys : List (ClassId × FieldType)) (N : Nat) (ad : Nat → Nat) (F : zSh) (A : Nat → Prop) (below : List Frame) (args : Array Value) (s : State) : State → Prop := MQ below (va_Qe ad2 post (zPst D tys N ad F) A) args s 0 0 A
theorem zr_iret {post : Int32 → zM → Prop} {v : Int32} {ty : FieldType} (S : zS p m c cc nL s args own) (hr : meth.sig.returnType = some ty) (hlk : meth.locks = false) (hK : va_K D zcl tys s) (hP : va_P D zcl (zW N ad F h) H) (hS : va_S A s.heap H locs) (hn : narrow ty (.int v) = .int v) (hw : post v h) (hdg : decode cc pc = .ok (.ireturn, 1)) : W p l e R s m args below meth c H locs 0 0 (zQi post D tys N ad F A below args s) (F0 m pc ls [.int v]) :=
  W.zret S.1 S.2.1 hr hn (fun t ht hW => ⟨⟨v, h, rfl, hw, by rw [ht]; exact hP, va_K.moved hW.alike hK⟩, hS.F ht⟩) hS.2.2 hdg hlk
theorem zr_vret {post : zM → Prop} (S : zS p m c cc nL s args own) (hr : meth.sig.returnType = none) (hlk : meth.locks = false) (hK : va_K D zcl tys s) (hP : va_P D zcl (zW N ad F h) H) (hS : va_S A s.heap H locs) (hw : post h) (hdg : decode cc pc = .ok (.return_, 1)) : W p l e R s m args below meth c H locs 0 0 (zQv post D tys N ad F A below args s) (F0 m pc ls []) :=
  W.vret S.1 S.2.1 hr (fun t ht hW => ⟨⟨h, rfl, hw, by rw [ht]; exact hP, va_K.moved hW.alike hK⟩, hS.F ht⟩) hS.2.2 hdg hlk
theorem zr_eret {ad2 : Nat → Nat} {post : Option Nat → zM → Prop} {rt : FieldType} (S : zS p m c cc nL s args own) (hr : meth.sig.returnType = some rt) (hrt : (∃ n, rt = .object n) ∨ ∃ t, rt = .array t) (hlk : meth.locks = false) (hK : va_K D zcl tys s) (hP : va_P D zcl (zW N ad F h) H) (hS : va_S A s.heap H locs) {r : Option Nat} {v : Value} (hv : va_re ad2 r = v) (hw : post r h) (hdg : decode cc pc = .ok (.areturn, 1)) : W p l e R s m args below meth c H locs 0 0 (zQe ad2 post D tys N ad F A below args s) (F0 m pc ls [v]) := by
  subst hv
  refine W.aret S.1 S.2.1 hr hrt ?_ (fun t ht hW => ⟨⟨r, h, rfl, hw, by rw [ht]; exact hP, va_K.moved hW.alike hK⟩, hS.F ht⟩) hS.2.2 hdg hlk
  cases r with
  | none => exact Or.inl rfl
  | some j => exact Or.inr ⟨_, rfl⟩
end ZR
end
section
/-! the shapes of the two worlds; printed by wip/whole/gen/gen.py -/
abbrev zty (cI cC cE : ClassId) : List (ClassId × FieldType) := [(cI, .int), (cC, .char), (cE, .object "CallExplorer$Entry")]
def zFl (ad : Nat → Nat) (cI cC cE : ClassId) (n : Nat) (g : Nat → Int32) : List va_E := [.inr (10, [.ref (ad 1), .ref (ad 9), .ref (ad 12), .ref (ad 19), .ref (ad 25), .ref (ad 28), .ref (ad 30)]),
  .inr (1, [.int (g 0), .int (g 1), .ref (ad 2), .ref (ad 3), .ref (ad 4), .ref (ad 5), .ref (ad 6), .ref (ad 7), .ref (ad 8)]),
  .inl (cI, 5, .inl g),
  .inl (cI, 5, .inl g),
  .inl (cI, 5, .inl g),
  .inl (cI, 10, .inl g),
  .inl (cI, 10, .inl g),
  .inl (cI, 10, .inl g),
  .inl (cI, 10, .inl g),
  .inr (0, [.ref (ad 1), .int (g 1), .ref (ad 10), .ref (ad 11)]),
  .inl (cE, 40, .inr (.inr (.inr (.inr (fun e => if e < n then some (ad (34 + 4 * e)) else none))))),
  .inl (cI, 40, .inl g),
  .inr (6, [.ref (ad 1), .ref (ad 13), .ref (ad 17), .int (g 3), .int (g 4), .int (g 5), .int (g 6), .int (g 7), .ref (ad 18)]),
  .inr (4, [.ref (ad 1), .int (g 1), .ref (ad 14), .ref (ad 15), .ref (ad 16)]),
  .inl (cI, 10, .inl g),
  .inl (cI, 10, .inl g),
  .inl (cI, 10, .inl g),
  .inl (cI, 10, .inl g),
  .inl (cI, 20, .inl g),
  .inr (3, [.ref (ad 1), .ref (ad 9), .ref (ad 12), .ref (ad 20), .ref (ad 22), .int (g 5), .int (g 6), .ref (ad 23), .ref (ad 24)]),
  .inr (7, [.int (g 0), .ref (ad 21)]),
  .inl (cI, 50, .inl g),
  .inl (cI, 8, .inl g),
  .inl (cI, 2, .inl g),
  .inl (cI, 2, .inl g),
  .inr (8, [.ref (ad 1), .ref (ad 12), .ref (ad 26)]),
  .inr (7, [.int (g 0), .ref (ad 27)]),
  .inl (cI, 50, .inl g),
  .inr (9, [.ref (ad 29), .int (g 1)]),
  .inl (cC, 200, .inl g),
  .inr (5, [.ref (ad 1), .ref (ad 31), .int (g 2), .ref (ad 32), .int (g 4), .int (g 5), .int (g 6), .int (g 7), .int (g 8), .int (g 9)]),
  .inl (cC, 200, .inl g),
  .inr (7, [.int (g 0), .ref (ad 33)]),
  .inl (cI, 50, .inl g)]
def zFe (ad : Nat → Nat) (cI : ClassId) (ln : Nat → Nat) (j i : Nat) (g : Nat → Int32) : va_E := if i = 0 then .inr (2, [.ref (ad (34 + 4 * j + 1)), .int (g 1), .int (g 2), .int (g 3), .int (g 4), .int (g 5), .ref (ad (34 + 4 * j + 3))]) else if i = 1 then .inr (7, [.int (g 0), .ref (ad (34 + 4 * j + 2))]) else if i = 2 then .inl (cI, 50, .inl g) else .inl (cI, ln j, .inl g)
def zF (ad : Nat → Nat) (cI cC cE : ClassId) (n : Nat) (ln : Nat → Nat) : zSh := fun o g => if o < 34 then (zFl ad cI cC cE n g).getD o (.inr (0, [])) else zFe ad cI ln ((o - 34) / 4) ((o - 34) % 4) g
section
variable {ad : Nat → Nat} {cI cC cE : ClassId} {n : Nat} {ln : Nat → Nat}
theorem zF_0 (g : Nat → Int32) : zF ad cI cC cE n ln 0 g = .inr (10, [.ref (ad 1), .ref (ad 9), .ref (ad 12), .ref (ad 19), .ref (ad 25), .ref (ad 28), .ref (ad 30)]) := rfl
theorem zF_1 (g : Nat → Int32) : zF ad cI cC cE n ln 1 g = .inr (1, [.int (g 0), .int (g 1), .ref (ad 2), .ref (ad 3), .ref (ad 4), .ref (ad 5), .ref (ad 6), .ref (ad 7), .ref (ad 8)]) := rfl
theorem zF_2 (g : Nat → Int32) : zF ad cI cC cE n ln 2 g = .inl (cI, 5, .inl g) := rfl
theorem zF_3 (g : Nat → Int32) : zF ad cI cC cE n ln 3 g = .inl (cI, 5, .inl g) := rfl
theorem zF_4 (g : Nat → Int32) : zF ad cI cC cE n ln 4 g = .inl (cI, 5, .inl g) := rfl
theorem zF_5 (g : Nat → Int32) : zF ad cI cC cE n ln 5 g = .inl (cI, 10, .inl g) := rfl
theorem zF_6 (g : Nat → Int32) : zF ad cI cC cE n ln 6 g = .inl (cI, 10, .inl g) := rfl
theorem zF_7 (g : Nat → Int32) : zF ad cI cC cE n ln 7 g = .inl (cI, 10, .inl g) := rfl
theorem zF_8 (g : Nat → Int32) : zF ad cI cC cE n ln 8 g = .inl (cI, 10, .inl g) := rfl
theorem zF_9 (g : Nat → Int32) : zF ad cI cC cE n ln 9 g = .inr (0, [.ref (ad 1), .int (g 1), .ref (ad 10), .ref (ad 11)]) := rfl
theorem zF_10 (g : Nat → Int32) : zF ad cI cC cE n ln 10 g = .inl (cE, 40, .inr (.inr (.inr (.inr (fun e => if e < n then some (ad (34 + 4 * e)) else none))))) := rfl
theorem zF_11 (g : Nat → Int32) : zF ad cI cC cE n ln 11 g = .inl (cI, 40, .inl g) := rfl
theorem zF_12 (g : Nat → Int32) : zF ad cI cC cE n ln 12 g = .inr (6, [.ref (ad 1), .ref (ad 13), .ref (ad 17), .int (g 3), .int (g 4), .int (g 5), .int (g 6), .int (g 7), .ref (ad 18)]) := rfl
theorem zF_13 (g : Nat → Int32) : zF ad cI cC cE n ln 13 g = .inr (4, [.ref (ad 1), .int (g 1), .ref (ad 14), .ref (ad 15), .ref (ad 16)]) := rfl
theorem zF_14 (g : Nat → Int32) : zF ad cI cC cE n ln 14 g = .inl (cI, 10, .inl g) := rfl
theorem zF_15 (g : Nat → Int32) : zF ad cI cC cE n ln 15 g = .inl (cI, 10, .inl g) := rfl
theorem zF_16 (g : Nat → Int32) : zF ad cI cC cE n ln 16 g = .inl (cI, 10, .inl g) := rfl
theorem zF_17 (g : Nat → Int32) : zF ad cI cC cE n ln 17 g = .inl (cI, 10, .inl g) := rfl
theorem zF_18 (g : Nat → Int32) : zF ad cI cC cE n ln 18 g = .inl (cI, 20, .inl g) := rfl
theorem zF_19 (g : Nat → Int32) : zF ad cI cC cE n ln 19 g = .inr (3, [.ref (ad 1), .ref (ad 9), .ref (ad 12), .ref (ad 20), .ref (ad 22), .int (g 5), .int (g 6), .ref (ad 23), .ref (ad 24)]) := rfl
theorem zF_20 (g : Nat → Int32) : zF ad cI cC cE n ln 20 g = .inr (7, [.int (g 0), .ref (ad 21)]) := rfl
theorem zF_21 (g : Nat → Int32) : zF ad cI cC cE n ln 21 g = .inl (cI, 50, .inl g) := rfl
theorem zF_22 (g : Nat → Int32) : zF ad cI cC cE n ln 22 g = .inl (cI, 8, .inl g) := rfl
theorem zF_23 (g : Nat → Int32) : zF ad cI cC cE n ln 23 g = .inl (cI, 2, .inl g) := rfl
theorem zF_24 (g : Nat → Int32) : zF ad cI cC cE n ln 24 g = .inl (cI, 2, .inl g) := rfl
theorem zF_25 (g : Nat → Int32) : zF ad cI cC cE n ln 25 g = .inr (8, [.ref (ad 1), .ref (ad 12), .ref (ad 26)]) := rfl
theorem zF_26 (g : Nat → Int32) : zF ad cI cC cE n ln 26 g = .inr (7, [.int (g 0), .ref (ad 27)]) := rfl
theorem zF_27 (g : Nat → Int32) : zF ad cI cC cE n ln 27 g = .inl (cI, 50, .inl g) := rfl
theorem zF_28 (g : Nat → Int32) : zF ad cI cC cE n ln 28 g = .inr (9, [.ref (ad 29), .int (g 1)]) := rfl
theorem zF_29 (g : Nat → Int32) : zF ad cI cC cE n ln 29 g = .inl (cC, 200, .inl g) := rfl
theorem zF_30 (g : Nat → Int32) : zF ad cI cC cE n ln 30 g = .inr (5, [.ref (ad 1), .ref (ad 31), .int (g 2), .ref (ad 32), .int (g 4), .int (g 5), .int (g 6), .int (g 7), .int (g 8), .int (g 9)]) := rfl
theorem zF_31 (g : Nat → Int32) : zF ad cI cC cE n ln 31 g = .inl (cC, 200, .inl g) := rfl
theorem zF_32 (g : Nat → Int32) : zF ad cI cC cE n ln 32 g = .inr (7, [.int (g 0), .ref (ad 33)]) := rfl
theorem zF_33 (g : Nat → Int32) : zF ad cI cC cE n ln 33 g = .inl (cI, 50, .inl g) := rfl
theorem zFe_0 (j : Nat) (g : Nat → Int32) : zF ad cI cC cE n ln (34 + 4 * j) g = .inr (2, [.ref (ad (34 + 4 * j + 1)), .int (g 1), .int (g 2), .int (g 3), .int (g 4), .int (g 5), .ref (ad (34 + 4 * j + 3))]) := by
  unfold zF
  rw [if_neg (by omega), show (34 + 4 * j - 34) / 4 = j by omega, show (34 + 4 * j - 34) % 4 = 0 by omega]
  rfl
theorem zFe_1 (j : Nat) (g : Nat → Int32) : zF ad cI cC cE n ln (34 + 4 * j + 1) g = .inr (7, [.int (g 0), .ref (ad (34 + 4 * j + 2))]) := by
  unfold zF
  rw [if_neg (by omega), show (34 + 4 * j + 1 - 34) / 4 = j by omega, show (34 + 4 * j + 1 - 34) % 4 = 1 by omega]
  rfl
theorem zFe_2 (j : Nat) (g : Nat → Int32) : zF ad cI cC cE n ln (34 + 4 * j + 2) g = .inl (cI, 50, .inl g) := by
  unfold zF
  rw [if_neg (by omega), show (34 + 4 * j + 2 - 34) / 4 = j by omega, show (34 + 4 * j + 2 - 34) % 4 = 2 by omega]
  rfl
theorem zFe_3 (j : Nat) (g : Nat → Int32) : zF ad cI cC cE n ln (34 + 4 * j + 3) g = .inl (cI, ln j, .inl g) := by
  unfold zF
  rw [if_neg (by omega), show (34 + 4 * j + 3 - 34) / 4 = j by omega, show (34 + 4 * j + 3 - 34) % 4 = 3 by omega]
  rfl
theorem zk {k : Nat} (h : k < 34) : k < 34 + 4 * n := Nat.lt_of_lt_of_le h (Nat.le_add_right _ _)
theorem zke (i : Nat) {j : Nat} (hj : j < n) (hi : i < 4 := by decide) : 34 + 4 * j + i < 34 + 4 * n := by omega
theorem zke0 {j : Nat} (hj : j < n) : 34 + 4 * j < 34 + 4 * n := by omega
end
def zSeq (N : Nat) (ad : Nat → Nat) (F : zSh) (cI : ClassId) (o : Nat) : Prop := o + 1 < N ∧ (∀ g, F o g = .inr (7, [.int (g 0), .ref (ad (o + 1))])) ∧ ∀ g, F (o + 1) g = .inl (cI, 50, .inl g)
section
variable {ad : Nat → Nat} {cI cC cE : ClassId} {n : Nat} {ln : Nat → Nat}
theorem zs_20 : zSeq (34 + 4 * n) ad (zF ad cI cC cE n ln) cI 20 := ⟨zk (by decide), zF_20, zF_21⟩
theorem zs_26 : zSeq (34 + 4 * n) ad (zF ad cI cC cE n ln) cI 26 := ⟨zk (by decide), zF_26, zF_27⟩
theorem zs_32 : zSeq (34 + 4 * n) ad (zF ad cI cC cE n ln) cI 32 := ⟨zk (by decide), zF_32, zF_33⟩
theorem zs_e {j : Nat} (hj : j < n) : zSeq (34 + 4 * n) ad (zF ad cI cC cE n ln) cI (34 + 4 * j + 1) := ⟨zke 2 hj, zFe_1 j, zFe_2 j⟩
end
def mF (ad : Nat → Nat) (cI : ClassId) : zSh := fun o g => ([.inr (11, [.int (g 0), .int (g 1), .ref (ad 1), .ref (ad 2), .ref (ad 3), .int (g 5), .ref (ad 4), .ref (ad 5), .ref (ad 6), .int (g 9), .ref (ad 7), .int (g 11), .ref (ad 8), .ref (ad 9), .ref (ad 10), .ref (ad 11), .ref (ad 12), .int (g 17), .ref (ad 13), .ref (ad 14), .ref (ad 15), .ref (ad 16), .ref (ad 17), .ref (ad 18), .ref (ad 19), .int (g 25), .ref (ad 20), .ref (ad 21), .ref (ad 22), .ref (ad 23), .int (g 30), .int (g 31), .int (g 32), .int (g 33), .ref (ad 24), .int (g 35), .ref (ad 25), .int (g 37), .ref (ad 26), .int (g 39), .ref (ad 27), .int (g 41), .int (g 42)]),
  .inl (cI, 5, .inl g),
  .inl (cI, 5, .inl g),
  .inl (cI, 5, .inl g),
  .inl (cI, 10, .inl g),
  .inl (cI, 10, .inl g),
  .inl (cI, 10, .inl g),
  .inl (cI, 8, .inl g),
  .inl (cI, 20, .inl g),
  .inl (cI, 40, .inl g),
  .inl (cI, 40, .inl g),
  .inl (cI, 2, .inl g),
  .inl (cI, 2, .inl g),
  .inl (cI, 41, .inl g),
  .inl (cI, 410, .inl g),
  .inl (cI, 820, .inl g),
  .inl (cI, 820, .inl g),
  .inl (cI, 41, .inl g),
  .inl (cI, 41, .inl g),
  .inl (cI, 41, .inl g),
  .inl (cI, 10, .inl g),
  .inl (cI, 10, .inl g),
  .inl (cI, 10, .inl g),
  .inl (cI, 10, .inl g),
  .inl (cI, 21, .inl g),
  .inl (cI, 21, .inl g),
  .inl (cI, 200, .inl g),
  .inl (cI, 300, .inl g)] : List va_E).getD o (.inr (0, []))
section
variable {ad : Nat → Nat} {cI : ClassId}
theorem mF_0 (g : Nat → Int32) : mF ad cI 0 g = .inr (11, [.int (g 0), .int (g 1), .ref (ad 1), .ref (ad 2), .ref (ad 3), .int (g 5), .ref (ad 4), .ref (ad 5), .ref (ad 6), .int (g 9), .ref (ad 7), .int (g 11), .ref (ad 8), .ref (ad 9), .ref (ad 10), .ref (ad 11), .ref (ad 12), .int (g 17), .ref (ad 13), .ref (ad 14), .ref (ad 15), .ref (ad 16), .ref (ad 17), .ref (ad 18), .ref (ad 19), .int (g 25), .ref (ad 20), .ref (ad 21), .ref (ad 22), .ref (ad 23), .int (g 30), .int (g 31), .int (g 32), .int (g 33), .ref (ad 24), .int (g 35), .ref (ad 25), .int (g 37), .ref (ad 26), .int (g 39), .ref (ad 27), .int (g 41), .int (g 42)]) := rfl
theorem mF_1 (g : Nat → Int32) : mF ad cI 1 g = .inl (cI, 5, .inl g) := rfl
theorem mF_2 (g : Nat → Int32) : mF ad cI 2 g = .inl (cI, 5, .inl g) := rfl
theorem mF_3 (g : Nat → Int32) : mF ad cI 3 g = .inl (cI, 5, .inl g) := rfl
theorem mF_4 (g : Nat → Int32) : mF ad cI 4 g = .inl (cI, 10, .inl g) := rfl
theorem mF_5 (g : Nat → Int32) : mF ad cI 5 g = .inl (cI, 10, .inl g) := rfl
theorem mF_6 (g : Nat → Int32) : mF ad cI 6 g = .inl (cI, 10, .inl g) := rfl
theorem mF_7 (g : Nat → Int32) : mF ad cI 7 g = .inl (cI, 8, .inl g) := rfl
theorem mF_8 (g : Nat → Int32) : mF ad cI 8 g = .inl (cI, 20, .inl g) := rfl
theorem mF_9 (g : Nat → Int32) : mF ad cI 9 g = .inl (cI, 40, .inl g) := rfl
theorem mF_10 (g : Nat → Int32) : mF ad cI 10 g = .inl (cI, 40, .inl g) := rfl
theorem mF_11 (g : Nat → Int32) : mF ad cI 11 g = .inl (cI, 2, .inl g) := rfl
theorem mF_12 (g : Nat → Int32) : mF ad cI 12 g = .inl (cI, 2, .inl g) := rfl
theorem mF_13 (g : Nat → Int32) : mF ad cI 13 g = .inl (cI, 41, .inl g) := rfl
theorem mF_14 (g : Nat → Int32) : mF ad cI 14 g = .inl (cI, 410, .inl g) := rfl
theorem mF_15 (g : Nat → Int32) : mF ad cI 15 g = .inl (cI, 820, .inl g) := rfl
theorem mF_16 (g : Nat → Int32) : mF ad cI 16 g = .inl (cI, 820, .inl g) := rfl
theorem mF_17 (g : Nat → Int32) : mF ad cI 17 g = .inl (cI, 41, .inl g) := rfl
theorem mF_18 (g : Nat → Int32) : mF ad cI 18 g = .inl (cI, 41, .inl g) := rfl
theorem mF_19 (g : Nat → Int32) : mF ad cI 19 g = .inl (cI, 41, .inl g) := rfl
theorem mF_20 (g : Nat → Int32) : mF ad cI 20 g = .inl (cI, 10, .inl g) := rfl
theorem mF_21 (g : Nat → Int32) : mF ad cI 21 g = .inl (cI, 10, .inl g) := rfl
theorem mF_22 (g : Nat → Int32) : mF ad cI 22 g = .inl (cI, 10, .inl g) := rfl
theorem mF_23 (g : Nat → Int32) : mF ad cI 23 g = .inl (cI, 10, .inl g) := rfl
theorem mF_24 (g : Nat → Int32) : mF ad cI 24 g = .inl (cI, 21, .inl g) := rfl
theorem mF_25 (g : Nat → Int32) : mF ad cI 25 g = .inl (cI, 21, .inl g) := rfl
theorem mF_26 (g : Nat → Int32) : mF ad cI 26 g = .inl (cI, 200, .inl g) := rfl
theorem mF_27 (g : Nat → Int32) : mF ad cI 27 g = .inl (cI, 300, .inl g) := rfl
end
theorem zbn {v : Int32} (h : v = 0 ∨ v = 1) : narrow .boolean (.int v) = .int v := by rcases h with rfl | rfl <;> rfl
theorem zbf {v : Int32} (h : v = 0 ∨ v = 1) : fits .boolean (.int v) = true := by rcases h with rfl | rfl <;> rfl
/-! words of the tables by their places; printed by wip/whole/gen/gen.py -/
theorem qp0 : Cond.selects "CallExplorer$Catalog" ⟨"CallExplorer$Catalog", "isClass", "(I)Z"⟩ ⟨"CallExplorer$Catalog", "isClass", "(I)Z"⟩ ∈ zt := zin (List.mem_append_left _ (List.mem_of_getElem? (i := 0) (by decide +kernel))) (by decide +kernel)
theorem qp1 : Cond.selects "CallExplorer$Catalog" ⟨"CallExplorer$Catalog", "hasPartner", "(I)Z"⟩ ⟨"CallExplorer$Catalog", "hasPartner", "(I)Z"⟩ ∈ zt := zin (List.mem_append_left _ (List.mem_of_getElem? (i := 1) (by decide +kernel))) (by decide +kernel)
theorem qp2 : Cond.selects "CallExplorer$Catalog" ⟨"CallExplorer$Catalog", "typeOf", "(III)I"⟩ ⟨"CallExplorer$Catalog", "typeOf", "(III)I"⟩ ∈ zt := zin (List.mem_append_left _ (List.mem_of_getElem? (i := 2) (by decide +kernel))) (by decide +kernel)
theorem qp3 : Cond.selects "CallExplorer$Grower" ⟨"CallExplorer$Grower", "random", "(I)I"⟩ ⟨"CallExplorer$Grower", "random", "(I)I"⟩ ∈ zt := zin (List.mem_append_left _ (List.mem_of_getElem? (i := 3) (by decide +kernel))) (by decide +kernel)
theorem qp5 : Cond.selects "CallExplorer$Grower" ⟨"CallExplorer$Grower", "choose", "(III)I"⟩ ⟨"CallExplorer$Grower", "choose", "(III)I"⟩ ∈ zt := zin (List.mem_append_left _ (List.mem_of_getElem? (i := 5) (by decide +kernel))) (by decide +kernel)
theorem qp6 : Cond.selects "CallExplorer$Grower" ⟨"CallExplorer$Grower", "chooseNumber", "(I)I"⟩ ⟨"CallExplorer$Grower", "chooseNumber", "(I)I"⟩ ∈ zt := zin (List.mem_append_left _ (List.mem_of_getElem? (i := 6) (by decide +kernel))) (by decide +kernel)
theorem qp7 : Cond.selects "CallExplorer$Grower" ⟨"CallExplorer$Grower", "take", "(II)I"⟩ ⟨"CallExplorer$Grower", "take", "(II)I"⟩ ∈ zt := zin (List.mem_append_left _ (List.mem_of_getElem? (i := 7) (by decide +kernel))) (by decide +kernel)
theorem qp8 : Cond.selects "CallExplorer$Sequence" ⟨"CallExplorer$Sequence", "moveVariables", "(III)V"⟩ ⟨"CallExplorer$Sequence", "moveVariables", "(III)V"⟩ ∈ zt := zin (List.mem_append_left _ (List.mem_of_getElem? (i := 8) (by decide +kernel))) (by decide +kernel)
theorem qp9 : Cond.selects "CallExplorer$Grower" ⟨"CallExplorer$Grower", "chooseObject", "(II)I"⟩ ⟨"CallExplorer$Grower", "chooseObject", "(II)I"⟩ ∈ zt := zin (List.mem_append_left _ (List.mem_of_getElem? (i := 9) (by decide +kernel))) (by decide +kernel)
theorem qp10 : Cond.selects "CallExplorer$Grower" ⟨"CallExplorer$Grower", "firstFits", "(I)Z"⟩ ⟨"CallExplorer$Grower", "firstFits", "(I)Z"⟩ ∈ zt := zin (List.mem_append_left _ (List.mem_of_getElem? (i := 10) (by decide +kernel))) (by decide +kernel)
theorem qp12 : Cond.selects "CallExplorer$Runner" ⟨"CallExplorer$Runner", "execute", "(LCallExplorer$Sequence;I)I"⟩ ⟨"CallExplorer$Runner", "execute", "(LCallExplorer$Sequence;I)I"⟩ ∈ zt := zin (List.mem_append_left _ (List.mem_of_getElem? (i := 12) (by decide +kernel))) (by decide +kernel)
theorem qp13 : Cond.selects "CallExplorer$Runner" ⟨"CallExplorer$Runner", "isNull", "(LCallExplorer$Sequence;II)Z"⟩ ⟨"CallExplorer$Runner", "isNull", "(LCallExplorer$Sequence;II)Z"⟩ ∈ zt := zin (List.mem_append_left _ (List.mem_of_getElem? (i := 13) (by decide +kernel))) (by decide +kernel)
theorem qp14 : Cond.selects "CallExplorer$Runner" ⟨"CallExplorer$Runner", "argumentValue", "(LCallExplorer$Sequence;II)I"⟩ ⟨"CallExplorer$Runner", "argumentValue", "(LCallExplorer$Sequence;II)I"⟩ ∈ zt := zin (List.mem_append_left _ (List.mem_of_getElem? (i := 14) (by decide +kernel))) (by decide +kernel)
theorem qp15 : Cond.selects "CallExplorer$Runner" ⟨"CallExplorer$Runner", "make", "(III)I"⟩ ⟨"CallExplorer$Runner", "make", "(III)I"⟩ ∈ zt := zin (List.mem_append_left _ (List.mem_of_getElem? (i := 15) (by decide +kernel))) (by decide +kernel)
theorem qp16 : Cond.selects "CallExplorer$Runner" ⟨"CallExplorer$Runner", "canBeValue", "(J)Z"⟩ ⟨"CallExplorer$Runner", "canBeValue", "(J)Z"⟩ ∈ zt := zin (List.mem_append_left _ (List.mem_of_getElem? (i := 16) (by decide +kernel))) (by decide +kernel)
theorem qp17 : Cond.selects "CallExplorer$Runner" ⟨"CallExplorer$Runner", "give", "(II)I"⟩ ⟨"CallExplorer$Runner", "give", "(II)I"⟩ ∈ zt := zin (List.mem_append_left _ (List.mem_of_getElem? (i := 17) (by decide +kernel))) (by decide +kernel)
theorem qp18 : Cond.selects "CallExplorer$Runner" ⟨"CallExplorer$Runner", "add", "(III)I"⟩ ⟨"CallExplorer$Runner", "add", "(III)I"⟩ ∈ zt := zin (List.mem_append_left _ (List.mem_of_getElem? (i := 18) (by decide +kernel))) (by decide +kernel)
theorem qp19 : Cond.selects "CallExplorer$Runner" ⟨"CallExplorer$Runner", "link", "(III)I"⟩ ⟨"CallExplorer$Runner", "link", "(III)I"⟩ ∈ zt := zin (List.mem_append_left _ (List.mem_of_getElem? (i := 19) (by decide +kernel))) (by decide +kernel)
theorem qp20 : Cond.selects "CallExplorer$Runner" ⟨"CallExplorer$Runner", "getNext", "(III)I"⟩ ⟨"CallExplorer$Runner", "getNext", "(III)I"⟩ ∈ zt := zin (List.mem_append_left _ (List.mem_of_getElem? (i := 20) (by decide +kernel))) (by decide +kernel)
theorem qp21 : Cond.selects "CallExplorer$Runner" ⟨"CallExplorer$Runner", "getNextValue", "(II)I"⟩ ⟨"CallExplorer$Runner", "getNextValue", "(II)I"⟩ ∈ zt := zin (List.mem_append_left _ (List.mem_of_getElem? (i := 21) (by decide +kernel))) (by decide +kernel)
theorem qp22 : Cond.selects "CallExplorer$Runner" ⟨"CallExplorer$Runner", "endWithTrouble", "(LCallExplorer$Sequence;II)V"⟩ ⟨"CallExplorer$Runner", "endWithTrouble", "(LCallExplorer$Sequence;II)V"⟩ ∈ zt := zin (List.mem_append_left _ (List.mem_of_getElem? (i := 22) (by decide +kernel))) (by decide +kernel)
theorem qp23 : Cond.selects "CallExplorer$Runner" ⟨"CallExplorer$Runner", "keepResult", "(LCallExplorer$Sequence;)V"⟩ ⟨"CallExplorer$Runner", "keepResult", "(LCallExplorer$Sequence;)V"⟩ ∈ zt := zin (List.mem_append_left _ (List.mem_of_getElem? (i := 23) (by decide +kernel))) (by decide +kernel)
theorem qp24 : Cond.selects "CallExplorer$Runner" ⟨"CallExplorer$Runner", "keepRow", "(I)V"⟩ ⟨"CallExplorer$Runner", "keepRow", "(I)V"⟩ ∈ zt := zin (List.mem_append_left _ (List.mem_of_getElem? (i := 24) (by decide +kernel))) (by decide +kernel)
theorem qp25 : Cond.selects "CallExplorer$Heap" ⟨"CallExplorer$Heap", "faultOfPair", "(II)I"⟩ ⟨"CallExplorer$Heap", "faultOfPair", "(II)I"⟩ ∈ zt := zin (List.mem_append_left _ (List.mem_of_getElem? (i := 25) (by decide +kernel))) (by decide +kernel)
theorem qp26 : Cond.selects "CallExplorer$Heap" ⟨"CallExplorer$Heap", "code", "(I)I"⟩ ⟨"CallExplorer$Heap", "code", "(I)I"⟩ ∈ zt := zin (List.mem_append_left _ (List.mem_of_getElem? (i := 26) (by decide +kernel))) (by decide +kernel)
theorem qp28 : Cond.selects "CallExplorer$Shortener" ⟨"CallExplorer$Shortener", "lowerInTrial", "(LCallExplorer$Sequence;II)Z"⟩ ⟨"CallExplorer$Shortener", "lowerInTrial", "(LCallExplorer$Sequence;II)Z"⟩ ∈ zt := zin (List.mem_append_left _ (List.mem_of_getElem? (i := 28) (by decide +kernel))) (by decide +kernel)
theorem qp29 : Cond.selects "CallExplorer$Shortener" ⟨"CallExplorer$Shortener", "keepIfSame", "(LCallExplorer$Entry;)V"⟩ ⟨"CallExplorer$Shortener", "keepIfSame", "(LCallExplorer$Entry;)V"⟩ ∈ zt := zin (List.mem_append_left _ (List.mem_of_getElem? (i := 29) (by decide +kernel))) (by decide +kernel)
theorem qp30 : Cond.selects "CallExplorer$Writer" ⟨"CallExplorer$Writer", "writeCall", "(LCallExplorer$Sequence;I)V"⟩ ⟨"CallExplorer$Writer", "writeCall", "(LCallExplorer$Sequence;I)V"⟩ ∈ zt := zin (List.mem_append_left _ (List.mem_of_getElem? (i := 30) (by decide +kernel))) (by decide +kernel)
theorem qp31 : Cond.selects "CallExplorer$Writer" ⟨"CallExplorer$Writer", "put", "(C)V"⟩ ⟨"CallExplorer$Writer", "put", "(C)V"⟩ ∈ zt := zin (List.mem_append_left _ (List.mem_of_getElem? (i := 31) (by decide +kernel))) (by decide +kernel)
theorem qp32 : Cond.selects "CallExplorer$Writer" ⟨"CallExplorer$Writer", "writeArgument", "(II)V"⟩ ⟨"CallExplorer$Writer", "writeArgument", "(II)V"⟩ ∈ zt := zin (List.mem_append_left _ (List.mem_of_getElem? (i := 32) (by decide +kernel))) (by decide +kernel)
theorem qp33 : Cond.selects "CallExplorer$Writer" ⟨"CallExplorer$Writer", "writeNumber", "(I)V"⟩ ⟨"CallExplorer$Writer", "writeNumber", "(I)V"⟩ ∈ zt := zin (List.mem_append_left _ (List.mem_of_getElem? (i := 33) (by decide +kernel))) (by decide +kernel)
theorem qp34 : Cond.selects "CallExplorer$Writer" ⟨"CallExplorer$Writer", "writeEnd", "(LCallExplorer$Entry;)V"⟩ ⟨"CallExplorer$Writer", "writeEnd", "(LCallExplorer$Entry;)V"⟩ ∈ zt := zin (List.mem_append_left _ (List.mem_of_getElem? (i := 34) (by decide +kernel))) (by decide +kernel)
theorem qp35 : Cond.selects "CallExplorer$Writer" ⟨"CallExplorer$Writer", "writeResult", "(LCallExplorer$Entry;)V"⟩ ⟨"CallExplorer$Writer", "writeResult", "(LCallExplorer$Entry;)V"⟩ ∈ zt := zin (List.mem_append_left _ (List.mem_of_getElem? (i := 35) (by decide +kernel))) (by decide +kernel)
theorem qp36 : Cond.selects "CallExplorer$Reader" ⟨"CallExplorer$Reader", "countBytes", "(J)I"⟩ ⟨"CallExplorer$Reader", "countBytes", "(J)I"⟩ ∈ zt := zin (List.mem_append_left _ (List.mem_of_getElem? (i := 36) (by decide +kernel))) (by decide +kernel)
theorem qp37 : Cond.selects "CallExplorer$Reader" ⟨"CallExplorer$Reader", "byteOf", "(JI)I"⟩ ⟨"CallExplorer$Reader", "byteOf", "(JI)I"⟩ ∈ zt := zin (List.mem_append_left _ (List.mem_of_getElem? (i := 37) (by decide +kernel))) (by decide +kernel)
theorem qp38 : Cond.selects "CallExplorer$Reader" ⟨"CallExplorer$Reader", "isAtEnd", "()Z"⟩ ⟨"CallExplorer$Reader", "isAtEnd", "()Z"⟩ ∈ zt := zin (List.mem_append_left _ (List.mem_of_getElem? (i := 38) (by decide +kernel))) (by decide +kernel)
theorem qp39 : Cond.selects "CallExplorer$Reader" ⟨"CallExplorer$Reader", "peek", "()C"⟩ ⟨"CallExplorer$Reader", "peek", "()C"⟩ ∈ zt := zin (List.mem_append_left _ (List.mem_of_getElem? (i := 39) (by decide +kernel))) (by decide +kernel)
theorem qp40 : Cond.selects "CallExplorer$Reader" ⟨"CallExplorer$Reader", "readCall", "()Z"⟩ ⟨"CallExplorer$Reader", "readCall", "()Z"⟩ ∈ zt := zin (List.mem_append_left _ (List.mem_of_getElem? (i := 40) (by decide +kernel))) (by decide +kernel)
theorem qp41 : Cond.selects "CallExplorer$Reader" ⟨"CallExplorer$Reader", "accept", "(C)Z"⟩ ⟨"CallExplorer$Reader", "accept", "(C)Z"⟩ ∈ zt := zin (List.mem_append_left _ (List.mem_of_getElem? (i := 41) (by decide +kernel))) (by decide +kernel)
theorem qp42 : Cond.selects "CallExplorer$Reader" ⟨"CallExplorer$Reader", "readArgument", "(II)Z"⟩ ⟨"CallExplorer$Reader", "readArgument", "(II)Z"⟩ ∈ zt := zin (List.mem_append_left _ (List.mem_of_getElem? (i := 42) (by decide +kernel))) (by decide +kernel)
theorem qp43 : Cond.selects "CallExplorer$Reader" ⟨"CallExplorer$Reader", "readVariable", "(III)Z"⟩ ⟨"CallExplorer$Reader", "readVariable", "(III)Z"⟩ ∈ zt := zin (List.mem_append_left _ (List.mem_of_getElem? (i := 43) (by decide +kernel))) (by decide +kernel)
theorem qp44 : Cond.selects "CallExplorer$Reader" ⟨"CallExplorer$Reader", "isAtDigit", "()Z"⟩ ⟨"CallExplorer$Reader", "isAtDigit", "()Z"⟩ ∈ zt := zin (List.mem_append_left _ (List.mem_of_getElem? (i := 44) (by decide +kernel))) (by decide +kernel)
theorem qp45 : Cond.selects "CallExplorer$Reader" ⟨"CallExplorer$Reader", "readNumber", "()Z"⟩ ⟨"CallExplorer$Reader", "readNumber", "()Z"⟩ ∈ zt := zin (List.mem_append_left _ (List.mem_of_getElem? (i := 45) (by decide +kernel))) (by decide +kernel)
theorem qp46 : Cond.selects "CallExplorer$Reader" ⟨"CallExplorer$Reader", "readEnd", "()Z"⟩ ⟨"CallExplorer$Reader", "readEnd", "()Z"⟩ ∈ zt := zin (List.mem_append_left _ (List.mem_of_getElem? (i := 46) (by decide +kernel))) (by decide +kernel)
theorem qp47 : Cond.selects "CallExplorer$Reader" ⟨"CallExplorer$Reader", "readDetail", "(I)Z"⟩ ⟨"CallExplorer$Reader", "readDetail", "(I)Z"⟩ ∈ zt := zin (List.mem_append_left _ (List.mem_of_getElem? (i := 47) (by decide +kernel))) (by decide +kernel)
theorem qp48 : Cond.selects "CallExplorer$Reader" ⟨"CallExplorer$Reader", "readResult", "()Z"⟩ ⟨"CallExplorer$Reader", "readResult", "()Z"⟩ ∈ zt := zin (List.mem_append_left _ (List.mem_of_getElem? (i := 48) (by decide +kernel))) (by decide +kernel)
theorem qp49 : Cond.selects "CallExplorerModel" ⟨"CallExplorerModel", "isClass", "(I)Z"⟩ ⟨"CallExplorerModel", "isClass", "(I)Z"⟩ ∈ zt := zin (List.mem_append_left _ (List.mem_of_getElem? (i := 49) (by decide +kernel))) (by decide +kernel)
theorem qp50 : Cond.selects "CallExplorerModel" ⟨"CallExplorerModel", "random", "(I)I"⟩ ⟨"CallExplorerModel", "random", "(I)I"⟩ ∈ zt := zin (List.mem_append_left _ (List.mem_of_getElem? (i := 50) (by decide +kernel))) (by decide +kernel)
theorem qp51 : Cond.selects "CallExplorerModel" ⟨"CallExplorerModel", "wants", "(II)I"⟩ ⟨"CallExplorerModel", "wants", "(II)I"⟩ ∈ zt := zin (List.mem_append_left _ (List.mem_of_getElem? (i := 51) (by decide +kernel))) (by decide +kernel)
theorem qp52 : Cond.selects "CallExplorerModel" ⟨"CallExplorerModel", "chosen", "(II)I"⟩ ⟨"CallExplorerModel", "chosen", "(II)I"⟩ ∈ zt := zin (List.mem_append_left _ (List.mem_of_getElem? (i := 52) (by decide +kernel))) (by decide +kernel)
theorem qp53 : Cond.selects "CallExplorerModel" ⟨"CallExplorerModel", "offered", "(I)I"⟩ ⟨"CallExplorerModel", "offered", "(I)I"⟩ ∈ zt := zin (List.mem_append_left _ (List.mem_of_getElem? (i := 53) (by decide +kernel))) (by decide +kernel)
theorem qp54 : Cond.selects "CallExplorerModel" ⟨"CallExplorerModel", "offers", "(II)Z"⟩ ⟨"CallExplorerModel", "offers", "(II)Z"⟩ ∈ zt := zin (List.mem_append_left _ (List.mem_of_getElem? (i := 54) (by decide +kernel))) (by decide +kernel)
theorem qp55 : Cond.selects "CallExplorerModel" ⟨"CallExplorerModel", "typeOf", "(I)I"⟩ ⟨"CallExplorerModel", "typeOf", "(I)I"⟩ ∈ zt := zin (List.mem_append_left _ (List.mem_of_getElem? (i := 55) (by decide +kernel))) (by decide +kernel)
theorem qp56 : Cond.selects "CallExplorerModel" ⟨"CallExplorerModel", "gives", "(I)I"⟩ ⟨"CallExplorerModel", "gives", "(I)I"⟩ ∈ zt := zin (List.mem_append_left _ (List.mem_of_getElem? (i := 56) (by decide +kernel))) (by decide +kernel)
theorem qp57 : Cond.selects "CallExplorerModel" ⟨"CallExplorerModel", "is", "(II)Z"⟩ ⟨"CallExplorerModel", "is", "(II)Z"⟩ ∈ zt := zin (List.mem_append_left _ (List.mem_of_getElem? (i := 57) (by decide +kernel))) (by decide +kernel)
theorem qp58 : Cond.selects "CallExplorerModel" ⟨"CallExplorerModel", "take", "(III)V"⟩ ⟨"CallExplorerModel", "take", "(III)V"⟩ ∈ zt := zin (List.mem_append_left _ (List.mem_of_getElem? (i := 58) (by decide +kernel))) (by decide +kernel)
theorem qp59 : Cond.selects "CallExplorerModel" ⟨"CallExplorerModel", "copyFrom", "(II)V"⟩ ⟨"CallExplorerModel", "copyFrom", "(II)V"⟩ ∈ zt := zin (List.mem_append_left _ (List.mem_of_getElem? (i := 59) (by decide +kernel))) (by decide +kernel)
theorem qp60 : Cond.selects "CallExplorerModel" ⟨"CallExplorerModel", "choose", "(III)V"⟩ ⟨"CallExplorerModel", "choose", "(III)V"⟩ ∈ zt := zin (List.mem_append_left _ (List.mem_of_getElem? (i := 60) (by decide +kernel))) (by decide +kernel)
theorem qp61 : Cond.selects "CallExplorerModel" ⟨"CallExplorerModel", "put", "(I)V"⟩ ⟨"CallExplorerModel", "put", "(I)V"⟩ ∈ zt := zin (List.mem_append_left _ (List.mem_of_getElem? (i := 61) (by decide +kernel))) (by decide +kernel)
theorem qp62 : Cond.selects "CallExplorerModel" ⟨"CallExplorerModel", "known", "()Z"⟩ ⟨"CallExplorerModel", "known", "()Z"⟩ ∈ zt := zin (List.mem_append_left _ (List.mem_of_getElem? (i := 62) (by decide +kernel))) (by decide +kernel)
theorem qp63 : Cond.selects "CallExplorerModel" ⟨"CallExplorerModel", "alike", "(II)Z"⟩ ⟨"CallExplorerModel", "alike", "(II)Z"⟩ ∈ zt := zin (List.mem_append_left _ (List.mem_of_getElem? (i := 63) (by decide +kernel))) (by decide +kernel)
theorem qp64 : Cond.selects "CallExplorerModel" ⟨"CallExplorerModel", "entered", "()I"⟩ ⟨"CallExplorerModel", "entered", "()I"⟩ ∈ zt := zin (List.mem_append_left _ (List.mem_of_getElem? (i := 64) (by decide +kernel))) (by decide +kernel)
theorem qp65 : Cond.selects "CallExplorerModel" ⟨"CallExplorerModel", "store", "(I)V"⟩ ⟨"CallExplorerModel", "store", "(I)V"⟩ ∈ zt := zin (List.mem_append_left _ (List.mem_of_getElem? (i := 65) (by decide +kernel))) (by decide +kernel)
theorem qp66 : Cond.selects "CallExplorerModel" ⟨"CallExplorerModel", "run", "()V"⟩ ⟨"CallExplorerModel", "run", "()V"⟩ ∈ zt := zin (List.mem_append_left _ (List.mem_of_getElem? (i := 66) (by decide +kernel))) (by decide +kernel)
theorem qp67 : Cond.selects "CallExplorerModel" ⟨"CallExplorerModel", "perform", "(I)I"⟩ ⟨"CallExplorerModel", "perform", "(I)I"⟩ ∈ zt := zin (List.mem_append_left _ (List.mem_of_getElem? (i := 67) (by decide +kernel))) (by decide +kernel)
theorem qp68 : Cond.selects "CallExplorerModel" ⟨"CallExplorerModel", "valueOf", "(II)I"⟩ ⟨"CallExplorerModel", "valueOf", "(II)I"⟩ ∈ zt := zin (List.mem_append_left _ (List.mem_of_getElem? (i := 68) (by decide +kernel))) (by decide +kernel)
theorem qp69 : Cond.selects "CallExplorerModel" ⟨"CallExplorerModel", "made", "(III)I"⟩ ⟨"CallExplorerModel", "made", "(III)I"⟩ ∈ zt := zin (List.mem_append_left _ (List.mem_of_getElem? (i := 69) (by decide +kernel))) (by decide +kernel)
theorem qp70 : Cond.selects "CallExplorerModel" ⟨"CallExplorerModel", "reaches", "(II)Z"⟩ ⟨"CallExplorerModel", "reaches", "(II)Z"⟩ ∈ zt := zin (List.mem_append_left _ (List.mem_of_getElem? (i := 70) (by decide +kernel))) (by decide +kernel)
theorem qp71 : Cond.selects "CallExplorerModel" ⟨"CallExplorerModel", "count", "(I)I"⟩ ⟨"CallExplorerModel", "count", "(I)I"⟩ ∈ zt := zin (List.mem_append_left _ (List.mem_of_getElem? (i := 71) (by decide +kernel))) (by decide +kernel)
theorem qp72 : Cond.selects "CallExplorerModel" ⟨"CallExplorerModel", "equal", "(II)Z"⟩ ⟨"CallExplorerModel", "equal", "(II)Z"⟩ ∈ zt := zin (List.mem_append_left _ (List.mem_of_getElem? (i := 72) (by decide +kernel))) (by decide +kernel)
theorem qp73 : Cond.selects "CallExplorerModel" ⟨"CallExplorerModel", "hadNull", "(I)Z"⟩ ⟨"CallExplorerModel", "hadNull", "(I)Z"⟩ ∈ zt := zin (List.mem_append_left _ (List.mem_of_getElem? (i := 73) (by decide +kernel))) (by decide +kernel)
theorem qp74 : Cond.selects "CallExplorerModel" ⟨"CallExplorerModel", "unsound", "()I"⟩ ⟨"CallExplorerModel", "unsound", "()I"⟩ ∈ zt := zin (List.mem_append_left _ (List.mem_of_getElem? (i := 74) (by decide +kernel))) (by decide +kernel)
theorem qp75 : Cond.selects "CallExplorerModel" ⟨"CallExplorerModel", "codeOf", "(I)I"⟩ ⟨"CallExplorerModel", "codeOf", "(I)I"⟩ ∈ zt := zin (List.mem_append_left _ (List.mem_of_getElem? (i := 75) (by decide +kernel))) (by decide +kernel)
theorem qp76 : Cond.selects "CallExplorerModel" ⟨"CallExplorerModel", "form", "()V"⟩ ⟨"CallExplorerModel", "form", "()V"⟩ ∈ zt := zin (List.mem_append_left _ (List.mem_of_getElem? (i := 76) (by decide +kernel))) (by decide +kernel)
theorem qp77 : Cond.selects "CallExplorerModel" ⟨"CallExplorerModel", "seen", "()Z"⟩ ⟨"CallExplorerModel", "seen", "()Z"⟩ ∈ zt := zin (List.mem_append_left _ (List.mem_of_getElem? (i := 77) (by decide +kernel))) (by decide +kernel)
theorem qp78 : Cond.selects "CallExplorerModel" ⟨"CallExplorerModel", "load", "(I)V"⟩ ⟨"CallExplorerModel", "load", "(I)V"⟩ ∈ zt := zin (List.mem_append_left _ (List.mem_of_getElem? (i := 78) (by decide +kernel))) (by decide +kernel)
theorem qp79 : Cond.selects "CallExplorerModel" ⟨"CallExplorerModel", "simpler", "(II)V"⟩ ⟨"CallExplorerModel", "simpler", "(II)V"⟩ ∈ zt := zin (List.mem_append_left _ (List.mem_of_getElem? (i := 79) (by decide +kernel))) (by decide +kernel)
theorem qp80 : Cond.selects "CallExplorerModel" ⟨"CallExplorerModel", "settle", "(I)V"⟩ ⟨"CallExplorerModel", "settle", "(I)V"⟩ ∈ zt := zin (List.mem_append_left _ (List.mem_of_getElem? (i := 80) (by decide +kernel))) (by decide +kernel)
theorem qp81 : Cond.selects "CallExplorerModel" ⟨"CallExplorerModel", "used", "(I)Z"⟩ ⟨"CallExplorerModel", "used", "(I)Z"⟩ ∈ zt := zin (List.mem_append_left _ (List.mem_of_getElem? (i := 81) (by decide +kernel))) (by decide +kernel)
theorem qp82 : Cond.selects "CallExplorerModel" ⟨"CallExplorerModel", "without", "(I)V"⟩ ⟨"CallExplorerModel", "without", "(I)V"⟩ ∈ zt := zin (List.mem_append_left _ (List.mem_of_getElem? (i := 82) (by decide +kernel))) (by decide +kernel)
theorem qp83 : Cond.selects "CallExplorerModel" ⟨"CallExplorerModel", "writeAll", "(I)V"⟩ ⟨"CallExplorerModel", "writeAll", "(I)V"⟩ ∈ zt := zin (List.mem_append_left _ (List.mem_of_getElem? (i := 83) (by decide +kernel))) (by decide +kernel)
theorem qp84 : Cond.selects "CallExplorerModel" ⟨"CallExplorerModel", "write", "(I)V"⟩ ⟨"CallExplorerModel", "write", "(I)V"⟩ ∈ zt := zin (List.mem_append_left _ (List.mem_of_getElem? (i := 84) (by decide +kernel))) (by decide +kernel)
theorem qp85 : Cond.selects "CallExplorerModel" ⟨"CallExplorerModel", "writeNumber", "(I)V"⟩ ⟨"CallExplorerModel", "writeNumber", "(I)V"⟩ ∈ zt := zin (List.mem_append_left _ (List.mem_of_getElem? (i := 85) (by decide +kernel))) (by decide +kernel)
theorem qp86 : Cond.selects "CallExplorerModel" ⟨"CallExplorerModel", "peek", "()I"⟩ ⟨"CallExplorerModel", "peek", "()I"⟩ ∈ zt := zin (List.mem_append_left _ (List.mem_of_getElem? (i := 86) (by decide +kernel))) (by decide +kernel)
theorem qp87 : Cond.selects "CallExplorerModel" ⟨"CallExplorerModel", "readStatement", "()V"⟩ ⟨"CallExplorerModel", "readStatement", "()V"⟩ ∈ zt := zin (List.mem_append_left _ (List.mem_of_getElem? (i := 87) (by decide +kernel))) (by decide +kernel)
theorem qp88 : Cond.selects "CallExplorerModel" ⟨"CallExplorerModel", "expect", "(I)V"⟩ ⟨"CallExplorerModel", "expect", "(I)V"⟩ ∈ zt := zin (List.mem_append_left _ (List.mem_of_getElem? (i := 88) (by decide +kernel))) (by decide +kernel)
theorem qp89 : Cond.selects "CallExplorerModel" ⟨"CallExplorerModel", "readArgument", "(II)V"⟩ ⟨"CallExplorerModel", "readArgument", "(II)V"⟩ ∈ zt := zin (List.mem_append_left _ (List.mem_of_getElem? (i := 89) (by decide +kernel))) (by decide +kernel)
theorem qp90 : Cond.selects "CallExplorerModel" ⟨"CallExplorerModel", "number", "(Z)I"⟩ ⟨"CallExplorerModel", "number", "(Z)I"⟩ ∈ zt := zin (List.mem_append_left _ (List.mem_of_getElem? (i := 90) (by decide +kernel))) (by decide +kernel)
theorem qp91 : Cond.selects "CallExplorerModel" ⟨"CallExplorerModel", "rightEnd", "()Z"⟩ ⟨"CallExplorerModel", "rightEnd", "()Z"⟩ ∈ zt := zin (List.mem_append_left _ (List.mem_of_getElem? (i := 91) (by decide +kernel))) (by decide +kernel)
theorem q2 : Cond.initialized "CallExplorer$Catalog" ∈ zt := zin (List.mem_append_right _ (List.mem_of_getElem? (i := 2) (by decide +kernel))) (by decide +kernel)
theorem q3 : Cond.initialized "CallExplorer$Book" ∈ zt := zin (List.mem_append_right _ (List.mem_of_getElem? (i := 3) (by decide +kernel))) (by decide +kernel)
theorem q4 : Cond.initialized "CallExplorer$Runner" ∈ zt := zin (List.mem_append_right _ (List.mem_of_getElem? (i := 4) (by decide +kernel))) (by decide +kernel)
theorem q5 : Cond.initialized "CallExplorer$Heap" ∈ zt := zin (List.mem_append_right _ (List.mem_of_getElem? (i := 5) (by decide +kernel))) (by decide +kernel)
theorem q6 : Cond.initialized "CallExplorer$Grower" ∈ zt := zin (List.mem_append_right _ (List.mem_of_getElem? (i := 6) (by decide +kernel))) (by decide +kernel)
theorem q7 : Cond.initialized "CallExplorer$Sequence" ∈ zt := zin (List.mem_append_right _ (List.mem_of_getElem? (i := 7) (by decide +kernel))) (by decide +kernel)
theorem q8 : Cond.initialized "CallExplorer$Shortener" ∈ zt := zin (List.mem_append_right _ (List.mem_of_getElem? (i := 8) (by decide +kernel))) (by decide +kernel)
theorem q9 : Cond.initialized "CallExplorer$Writer" ∈ zt := zin (List.mem_append_right _ (List.mem_of_getElem? (i := 9) (by decide +kernel))) (by decide +kernel)
theorem q10 : Cond.initialized "CallExplorer$Reader" ∈ zt := zin (List.mem_append_right _ (List.mem_of_getElem? (i := 10) (by decide +kernel))) (by decide +kernel)
theorem q11 : Cond.initialized "CallExplorerModel" ∈ zt := zin (List.mem_append_right _ (List.mem_of_getElem? (i := 11) (by decide +kernel))) (by decide +kernel)
theorem q12 : Cond.initialized "java/lang/System" ∈ zt := zin (List.mem_append_right _ (List.mem_of_getElem? (i := 12) (by decide +kernel))) (by decide +kernel)
theorem q13 : Cond.initialized "CallExplorer$Entry" ∈ zt := zin (List.mem_append_right _ (List.mem_of_getElem? (i := 13) (by decide +kernel))) (by decide +kernel)
theorem q30 : Cond.fieldLink "CallExplorer$Catalog" (33 : Nat) "CallExplorer$Catalog" "classes" "I" ∈ zt := zin (List.mem_append_right _ (List.mem_of_getElem? (i := 30) (by decide +kernel))) (by decide +kernel)
theorem q31 : Cond.fieldLink "CallExplorer$Catalog" (37 : Nat) "CallExplorer$Catalog" "operations" "I" ∈ zt := zin (List.mem_append_right _ (List.mem_of_getElem? (i := 31) (by decide +kernel))) (by decide +kernel)
theorem q33 : Cond.fieldLink "CallExplorer$Reader" (81 : Nat) "CallExplorer$Catalog" "operations" "I" ∈ zt := zin (List.mem_append_right _ (List.mem_of_getElem? (i := 33) (by decide +kernel))) (by decide +kernel)
theorem q34 : Cond.fieldLink "CallExplorer$Catalog" (9 : Nat) "CallExplorer$Catalog" "parents" "[I" ∈ zt := zin (List.mem_append_right _ (List.mem_of_getElem? (i := 34) (by decide +kernel))) (by decide +kernel)
theorem q35 : Cond.fieldLink "CallExplorer$Catalog" (15 : Nat) "CallExplorer$Catalog" "senses" "[I" ∈ zt := zin (List.mem_append_right _ (List.mem_of_getElem? (i := 35) (by decide +kernel))) (by decide +kernel)
theorem q36 : Cond.fieldLink "CallExplorer$Heap" (29 : Nat) "CallExplorer$Catalog" "senses" "[I" ∈ zt := zin (List.mem_append_right _ (List.mem_of_getElem? (i := 36) (by decide +kernel))) (by decide +kernel)
theorem q37 : Cond.fieldLink "CallExplorer$Catalog" (18 : Nat) "CallExplorer$Catalog" "marks" "[I" ∈ zt := zin (List.mem_append_right _ (List.mem_of_getElem? (i := 37) (by decide +kernel))) (by decide +kernel)
theorem q38 : Cond.fieldLink "CallExplorer$Heap" (38 : Nat) "CallExplorer$Catalog" "marks" "[I" ∈ zt := zin (List.mem_append_right _ (List.mem_of_getElem? (i := 38) (by decide +kernel))) (by decide +kernel)
theorem q39 : Cond.fieldLink "CallExplorer$Catalog" (21 : Nat) "CallExplorer$Catalog" "kinds" "[I" ∈ zt := zin (List.mem_append_right _ (List.mem_of_getElem? (i := 39) (by decide +kernel))) (by decide +kernel)
theorem q40 : Cond.fieldLink "CallExplorer$Runner" (95 : Nat) "CallExplorer$Catalog" "kinds" "[I" ∈ zt := zin (List.mem_append_right _ (List.mem_of_getElem? (i := 40) (by decide +kernel))) (by decide +kernel)
theorem q41 : Cond.fieldLink "CallExplorer$Catalog" (24 : Nat) "CallExplorer$Catalog" "firstTypes" "[I" ∈ zt := zin (List.mem_append_right _ (List.mem_of_getElem? (i := 41) (by decide +kernel))) (by decide +kernel)
theorem q42 : Cond.fieldLink "CallExplorer$Catalog" (27 : Nat) "CallExplorer$Catalog" "secondTypes" "[I" ∈ zt := zin (List.mem_append_right _ (List.mem_of_getElem? (i := 42) (by decide +kernel))) (by decide +kernel)
theorem q43 : Cond.fieldLink "CallExplorer$Catalog" (30 : Nat) "CallExplorer$Catalog" "resultTypes" "[I" ∈ zt := zin (List.mem_append_right _ (List.mem_of_getElem? (i := 43) (by decide +kernel))) (by decide +kernel)
theorem q44 : Cond.fieldLink "CallExplorer$Shortener" (68 : Nat) "CallExplorer$Catalog" "resultTypes" "[I" ∈ zt := zin (List.mem_append_right _ (List.mem_of_getElem? (i := 44) (by decide +kernel))) (by decide +kernel)
theorem q46 : Cond.fieldLink "CallExplorer$Runner" (98 : Nat) "CallExplorer$Catalog" "resultTypes" "[I" ∈ zt := zin (List.mem_append_right _ (List.mem_of_getElem? (i := 46) (by decide +kernel))) (by decide +kernel)
theorem q47 : Cond.fieldLink "CallExplorer$Grower" (114 : Nat) "CallExplorer$Catalog" "resultTypes" "[I" ∈ zt := zin (List.mem_append_right _ (List.mem_of_getElem? (i := 47) (by decide +kernel))) (by decide +kernel)
theorem q48 : Cond.fieldLink "CallExplorer$Reader" (122 : Nat) "CallExplorer$Catalog" "resultTypes" "[I" ∈ zt := zin (List.mem_append_right _ (List.mem_of_getElem? (i := 48) (by decide +kernel))) (by decide +kernel)
theorem q77 : Cond.fieldLink "CallExplorer$Book" (21 : Nat) "CallExplorer$Book" "catalog" "LCallExplorer$Catalog;" ∈ zt := zin (List.mem_append_right _ (List.mem_of_getElem? (i := 77) (by decide +kernel))) (by decide +kernel)
theorem q78 : Cond.fieldLink "CallExplorer$Book" (25 : Nat) "CallExplorer$Book" "size" "I" ∈ zt := zin (List.mem_append_right _ (List.mem_of_getElem? (i := 78) (by decide +kernel))) (by decide +kernel)
theorem q79 : Cond.fieldLink "CallExplorer" (89 : Nat) "CallExplorer$Book" "size" "I" ∈ zt := zin (List.mem_append_right _ (List.mem_of_getElem? (i := 79) (by decide +kernel))) (by decide +kernel)
theorem q80 : Cond.fieldLink "CallExplorer$Book" (11 : Nat) "CallExplorer$Book" "rows" "[LCallExplorer$Entry;" ∈ zt := zin (List.mem_append_right _ (List.mem_of_getElem? (i := 80) (by decide +kernel))) (by decide +kernel)
theorem q81 : Cond.fieldLink "CallExplorer$Book" (17 : Nat) "CallExplorer$Book" "listed" "[I" ∈ zt := zin (List.mem_append_right _ (List.mem_of_getElem? (i := 81) (by decide +kernel))) (by decide +kernel)
theorem q82 : Cond.fieldLink "CallExplorer$Grower" (124 : Nat) "CallExplorer$Book" "listed" "[I" ∈ zt := zin (List.mem_append_right _ (List.mem_of_getElem? (i := 82) (by decide +kernel))) (by decide +kernel)
theorem q104 : Cond.fieldLink "CallExplorer$Heap" (21 : Nat) "CallExplorer$Heap" "catalog" "LCallExplorer$Catalog;" ∈ zt := zin (List.mem_append_right _ (List.mem_of_getElem? (i := 104) (by decide +kernel))) (by decide +kernel)
theorem q105 : Cond.fieldLink "CallExplorer$Heap" (25 : Nat) "CallExplorer$Heap" "count" "I" ∈ zt := zin (List.mem_append_right _ (List.mem_of_getElem? (i := 105) (by decide +kernel))) (by decide +kernel)
theorem q106 : Cond.fieldLink "CallExplorer$Runner" (31 : Nat) "CallExplorer$Heap" "count" "I" ∈ zt := zin (List.mem_append_right _ (List.mem_of_getElem? (i := 106) (by decide +kernel))) (by decide +kernel)
theorem q107 : Cond.fieldLink "CallExplorer$Heap" (9 : Nat) "CallExplorer$Heap" "classes" "[I" ∈ zt := zin (List.mem_append_right _ (List.mem_of_getElem? (i := 107) (by decide +kernel))) (by decide +kernel)
theorem q108 : Cond.fieldLink "CallExplorer$Runner" (141 : Nat) "CallExplorer$Heap" "classes" "[I" ∈ zt := zin (List.mem_append_right _ (List.mem_of_getElem? (i := 108) (by decide +kernel))) (by decide +kernel)
theorem q109 : Cond.fieldLink "CallExplorer$Heap" (15 : Nat) "CallExplorer$Heap" "values" "[I" ∈ zt := zin (List.mem_append_right _ (List.mem_of_getElem? (i := 109) (by decide +kernel))) (by decide +kernel)
theorem q110 : Cond.fieldLink "CallExplorer$Runner" (105 : Nat) "CallExplorer$Heap" "values" "[I" ∈ zt := zin (List.mem_append_right _ (List.mem_of_getElem? (i := 110) (by decide +kernel))) (by decide +kernel)
theorem q111 : Cond.fieldLink "CallExplorer$Heap" (18 : Nat) "CallExplorer$Heap" "nexts" "[I" ∈ zt := zin (List.mem_append_right _ (List.mem_of_getElem? (i := 111) (by decide +kernel))) (by decide +kernel)
theorem q112 : Cond.fieldLink "CallExplorer$Runner" (138 : Nat) "CallExplorer$Heap" "nexts" "[I" ∈ zt := zin (List.mem_append_right _ (List.mem_of_getElem? (i := 112) (by decide +kernel))) (by decide +kernel)
theorem q124 : Cond.fieldLink "CallExplorer$Runner" (18 : Nat) "CallExplorer$Runner" "catalog" "LCallExplorer$Catalog;" ∈ zt := zin (List.mem_append_right _ (List.mem_of_getElem? (i := 124) (by decide +kernel))) (by decide +kernel)
theorem q125 : Cond.fieldLink "CallExplorer$Runner" (27 : Nat) "CallExplorer$Runner" "heap" "LCallExplorer$Heap;" ∈ zt := zin (List.mem_append_right _ (List.mem_of_getElem? (i := 125) (by decide +kernel))) (by decide +kernel)
theorem q126 : Cond.fieldLink "CallExplorer$Runner" (9 : Nat) "CallExplorer$Runner" "results" "[I" ∈ zt := zin (List.mem_append_right _ (List.mem_of_getElem? (i := 126) (by decide +kernel))) (by decide +kernel)
theorem q127 : Cond.fieldLink "CallExplorer$Runner" (68 : Nat) "CallExplorer$Runner" "outcome" "I" ∈ zt := zin (List.mem_append_right _ (List.mem_of_getElem? (i := 127) (by decide +kernel))) (by decide +kernel)
theorem q130 : Cond.fieldLink "CallExplorer$Reader" (62 : Nat) "CallExplorer$Runner" "outcome" "I" ∈ zt := zin (List.mem_append_right _ (List.mem_of_getElem? (i := 130) (by decide +kernel))) (by decide +kernel)
theorem q131 : Cond.fieldLink "CallExplorer$Shortener" (91 : Nat) "CallExplorer$Runner" "outcome" "I" ∈ zt := zin (List.mem_append_right _ (List.mem_of_getElem? (i := 131) (by decide +kernel))) (by decide +kernel)
theorem q133 : Cond.fieldLink "CallExplorer$Runner" (65 : Nat) "CallExplorer$Runner" "detail" "I" ∈ zt := zin (List.mem_append_right _ (List.mem_of_getElem? (i := 133) (by decide +kernel))) (by decide +kernel)
theorem q134 : Cond.fieldLink "CallExplorer$Reader" (68 : Nat) "CallExplorer$Runner" "detail" "I" ∈ zt := zin (List.mem_append_right _ (List.mem_of_getElem? (i := 134) (by decide +kernel))) (by decide +kernel)
theorem q135 : Cond.fieldLink "CallExplorer$Shortener" (95 : Nat) "CallExplorer$Runner" "detail" "I" ∈ zt := zin (List.mem_append_right _ (List.mem_of_getElem? (i := 135) (by decide +kernel))) (by decide +kernel)
theorem q136 : Cond.fieldLink "CallExplorer$Entry" (33 : Nat) "CallExplorer$Runner" "gave" "I" ∈ zt := zin (List.mem_append_right _ (List.mem_of_getElem? (i := 136) (by decide +kernel))) (by decide +kernel)
theorem q137 : Cond.fieldLink "CallExplorer$Runner" (35 : Nat) "CallExplorer$Runner" "gave" "I" ∈ zt := zin (List.mem_append_right _ (List.mem_of_getElem? (i := 137) (by decide +kernel))) (by decide +kernel)
theorem q138 : Cond.fieldLink "CallExplorer$Reader" (72 : Nat) "CallExplorer$Runner" "gave" "I" ∈ zt := zin (List.mem_append_right _ (List.mem_of_getElem? (i := 138) (by decide +kernel))) (by decide +kernel)
theorem q139 : Cond.fieldLink "CallExplorer$Entry" (37 : Nat) "CallExplorer$Runner" "number" "I" ∈ zt := zin (List.mem_append_right _ (List.mem_of_getElem? (i := 139) (by decide +kernel))) (by decide +kernel)
theorem q140 : Cond.fieldLink "CallExplorer$Runner" (38 : Nat) "CallExplorer$Runner" "number" "I" ∈ zt := zin (List.mem_append_right _ (List.mem_of_getElem? (i := 140) (by decide +kernel))) (by decide +kernel)
theorem q141 : Cond.fieldLink "CallExplorer$Reader" (76 : Nat) "CallExplorer$Runner" "number" "I" ∈ zt := zin (List.mem_append_right _ (List.mem_of_getElem? (i := 141) (by decide +kernel))) (by decide +kernel)
theorem q142 : Cond.fieldLink "CallExplorer$Entry" (45 : Nat) "CallExplorer$Runner" "rowLength" "I" ∈ zt := zin (List.mem_append_right _ (List.mem_of_getElem? (i := 142) (by decide +kernel))) (by decide +kernel)
theorem q143 : Cond.fieldLink "CallExplorer$Runner" (41 : Nat) "CallExplorer$Runner" "rowLength" "I" ∈ zt := zin (List.mem_append_right _ (List.mem_of_getElem? (i := 143) (by decide +kernel))) (by decide +kernel)
theorem q144 : Cond.fieldLink "CallExplorer$Runner" (15 : Nat) "CallExplorer$Runner" "row" "[I" ∈ zt := zin (List.mem_append_right _ (List.mem_of_getElem? (i := 144) (by decide +kernel))) (by decide +kernel)
theorem q145 : Cond.fieldLink "CallExplorer$Entry" (41 : Nat) "CallExplorer$Runner" "row" "[I" ∈ zt := zin (List.mem_append_right _ (List.mem_of_getElem? (i := 145) (by decide +kernel))) (by decide +kernel)
theorem q177 : Cond.fieldLink "CallExplorer$Shortener" (31 : Nat) "CallExplorer$Sequence" "size" "I" ∈ zt := zin (List.mem_append_right _ (List.mem_of_getElem? (i := 177) (by decide +kernel))) (by decide +kernel)
theorem q178 : Cond.fieldLink "CallExplorer$Writer" (25 : Nat) "CallExplorer$Sequence" "size" "I" ∈ zt := zin (List.mem_append_right _ (List.mem_of_getElem? (i := 178) (by decide +kernel))) (by decide +kernel)
theorem q179 : Cond.fieldLink "CallExplorer$Runner" (44 : Nat) "CallExplorer$Sequence" "size" "I" ∈ zt := zin (List.mem_append_right _ (List.mem_of_getElem? (i := 179) (by decide +kernel))) (by decide +kernel)
theorem q181 : Cond.fieldLink "CallExplorer$Reader" (53 : Nat) "CallExplorer$Sequence" "size" "I" ∈ zt := zin (List.mem_append_right _ (List.mem_of_getElem? (i := 181) (by decide +kernel))) (by decide +kernel)
theorem q182 : Cond.fieldLink "CallExplorer$Sequence" (15 : Nat) "CallExplorer$Sequence" "size" "I" ∈ zt := zin (List.mem_append_right _ (List.mem_of_getElem? (i := 182) (by decide +kernel))) (by decide +kernel)
theorem q183 : Cond.fieldLink "CallExplorer" (106 : Nat) "CallExplorer$Sequence" "size" "I" ∈ zt := zin (List.mem_append_right _ (List.mem_of_getElem? (i := 183) (by decide +kernel))) (by decide +kernel)
theorem q184 : Cond.fieldLink "CallExplorer$Grower" (131 : Nat) "CallExplorer$Sequence" "size" "I" ∈ zt := zin (List.mem_append_right _ (List.mem_of_getElem? (i := 184) (by decide +kernel))) (by decide +kernel)
theorem q185 : Cond.fieldLink "CallExplorer$Sequence" (9 : Nat) "CallExplorer$Sequence" "cells" "[I" ∈ zt := zin (List.mem_append_right _ (List.mem_of_getElem? (i := 185) (by decide +kernel))) (by decide +kernel)
theorem q186 : Cond.fieldLink "CallExplorer" (118 : Nat) "CallExplorer$Sequence" "cells" "[I" ∈ zt := zin (List.mem_append_right _ (List.mem_of_getElem? (i := 186) (by decide +kernel))) (by decide +kernel)
theorem q192 : Cond.fieldLink "CallExplorer$Grower" (28 : Nat) "CallExplorer$Grower" "catalog" "LCallExplorer$Catalog;" ∈ zt := zin (List.mem_append_right _ (List.mem_of_getElem? (i := 192) (by decide +kernel))) (by decide +kernel)
theorem q193 : Cond.fieldLink "CallExplorer$Grower" (32 : Nat) "CallExplorer$Grower" "book" "LCallExplorer$Book;" ∈ zt := zin (List.mem_append_right _ (List.mem_of_getElem? (i := 193) (by decide +kernel))) (by decide +kernel)
theorem q195 : Cond.fieldLink "CallExplorer$Grower" (12 : Nat) "CallExplorer$Grower" "sequence" "LCallExplorer$Sequence;" ∈ zt := zin (List.mem_append_right _ (List.mem_of_getElem? (i := 195) (by decide +kernel))) (by decide +kernel)
theorem q196 : Cond.fieldLink "CallExplorer$Grower" (18 : Nat) "CallExplorer$Grower" "literals" "[I" ∈ zt := zin (List.mem_append_right _ (List.mem_of_getElem? (i := 196) (by decide +kernel))) (by decide +kernel)
theorem q197 : Cond.fieldLink "CallExplorer$Grower" (44 : Nat) "CallExplorer$Grower" "literalCount" "I" ∈ zt := zin (List.mem_append_right _ (List.mem_of_getElem? (i := 197) (by decide +kernel))) (by decide +kernel)
theorem q198 : Cond.fieldLink "CallExplorer$Grower" (40 : Nat) "CallExplorer$Grower" "seed" "I" ∈ zt := zin (List.mem_append_right _ (List.mem_of_getElem? (i := 198) (by decide +kernel))) (by decide +kernel)
theorem q199 : Cond.fieldLink "CallExplorer" (149 : Nat) "CallExplorer$Grower" "seed" "I" ∈ zt := zin (List.mem_append_right _ (List.mem_of_getElem? (i := 199) (by decide +kernel))) (by decide +kernel)
theorem q200 : Cond.fieldLink "CallExplorer$Grower" (22 : Nat) "CallExplorer$Grower" "forms" "[I" ∈ zt := zin (List.mem_append_right _ (List.mem_of_getElem? (i := 200) (by decide +kernel))) (by decide +kernel)
theorem q201 : Cond.fieldLink "CallExplorer$Grower" (25 : Nat) "CallExplorer$Grower" "contents" "[I" ∈ zt := zin (List.mem_append_right _ (List.mem_of_getElem? (i := 201) (by decide +kernel))) (by decide +kernel)
theorem q229 : Cond.fieldLink "CallExplorer$Shortener" (18 : Nat) "CallExplorer$Shortener" "catalog" "LCallExplorer$Catalog;" ∈ zt := zin (List.mem_append_right _ (List.mem_of_getElem? (i := 229) (by decide +kernel))) (by decide +kernel)
theorem q230 : Cond.fieldLink "CallExplorer$Shortener" (22 : Nat) "CallExplorer$Shortener" "runner" "LCallExplorer$Runner;" ∈ zt := zin (List.mem_append_right _ (List.mem_of_getElem? (i := 230) (by decide +kernel))) (by decide +kernel)
theorem q231 : Cond.fieldLink "CallExplorer$Shortener" (12 : Nat) "CallExplorer$Shortener" "trial" "LCallExplorer$Sequence;" ∈ zt := zin (List.mem_append_right _ (List.mem_of_getElem? (i := 231) (by decide +kernel))) (by decide +kernel)
theorem q245 : Cond.fieldLink "CallExplorer$Writer" (9 : Nat) "CallExplorer$Writer" "letters" "[C" ∈ zt := zin (List.mem_append_right _ (List.mem_of_getElem? (i := 245) (by decide +kernel))) (by decide +kernel)
theorem q246 : Cond.fieldLink "CallExplorer" (128 : Nat) "CallExplorer$Writer" "letters" "[C" ∈ zt := zin (List.mem_append_right _ (List.mem_of_getElem? (i := 246) (by decide +kernel))) (by decide +kernel)
theorem q247 : Cond.fieldLink "CallExplorer$Writer" (15 : Nat) "CallExplorer$Writer" "length" "I" ∈ zt := zin (List.mem_append_right _ (List.mem_of_getElem? (i := 247) (by decide +kernel))) (by decide +kernel)
theorem q248 : Cond.fieldLink "CallExplorer" (125 : Nat) "CallExplorer$Writer" "length" "I" ∈ zt := zin (List.mem_append_right _ (List.mem_of_getElem? (i := 248) (by decide +kernel))) (by decide +kernel)
theorem q263 : Cond.fieldLink "CallExplorer$Reader" (22 : Nat) "CallExplorer$Reader" "catalog" "LCallExplorer$Catalog;" ∈ zt := zin (List.mem_append_right _ (List.mem_of_getElem? (i := 263) (by decide +kernel))) (by decide +kernel)
theorem q264 : Cond.fieldLink "CallExplorer$Reader" (9 : Nat) "CallExplorer$Reader" "letters" "[C" ∈ zt := zin (List.mem_append_right _ (List.mem_of_getElem? (i := 264) (by decide +kernel))) (by decide +kernel)
theorem q265 : Cond.fieldLink "CallExplorer$Reader" (26 : Nat) "CallExplorer$Reader" "length" "I" ∈ zt := zin (List.mem_append_right _ (List.mem_of_getElem? (i := 265) (by decide +kernel))) (by decide +kernel)
theorem q266 : Cond.fieldLink "CallExplorer$Reader" (18 : Nat) "CallExplorer$Reader" "sequence" "LCallExplorer$Sequence;" ∈ zt := zin (List.mem_append_right _ (List.mem_of_getElem? (i := 266) (by decide +kernel))) (by decide +kernel)
theorem q267 : Cond.fieldLink "CallExplorer" (140 : Nat) "CallExplorer$Reader" "sequence" "LCallExplorer$Sequence;" ∈ zt := zin (List.mem_append_right _ (List.mem_of_getElem? (i := 267) (by decide +kernel))) (by decide +kernel)
theorem q268 : Cond.fieldLink "CallExplorer$Reader" (40 : Nat) "CallExplorer$Reader" "at" "I" ∈ zt := zin (List.mem_append_right _ (List.mem_of_getElem? (i := 268) (by decide +kernel))) (by decide +kernel)
theorem q269 : Cond.fieldLink "CallExplorer$Reader" (116 : Nat) "CallExplorer$Reader" "numberRead" "I" ∈ zt := zin (List.mem_append_right _ (List.mem_of_getElem? (i := 269) (by decide +kernel))) (by decide +kernel)
theorem q270 : Cond.fieldLink "CallExplorer$Reader" (59 : Nat) "CallExplorer$Reader" "outcome" "I" ∈ zt := zin (List.mem_append_right _ (List.mem_of_getElem? (i := 270) (by decide +kernel))) (by decide +kernel)
theorem q271 : Cond.fieldLink "CallExplorer$Reader" (65 : Nat) "CallExplorer$Reader" "detail" "I" ∈ zt := zin (List.mem_append_right _ (List.mem_of_getElem? (i := 271) (by decide +kernel))) (by decide +kernel)
theorem q272 : Cond.fieldLink "CallExplorer$Reader" (69 : Nat) "CallExplorer$Reader" "gave" "I" ∈ zt := zin (List.mem_append_right _ (List.mem_of_getElem? (i := 272) (by decide +kernel))) (by decide +kernel)
theorem q273 : Cond.fieldLink "CallExplorer$Reader" (73 : Nat) "CallExplorer$Reader" "number" "I" ∈ zt := zin (List.mem_append_right _ (List.mem_of_getElem? (i := 273) (by decide +kernel))) (by decide +kernel)
theorem q295 : Cond.fieldLink "CallExplorer" (10 : Nat) "CallExplorer" "catalog" "LCallExplorer$Catalog;" ∈ zt := zin (List.mem_append_right _ (List.mem_of_getElem? (i := 295) (by decide +kernel))) (by decide +kernel)
theorem q296 : Cond.fieldLink "CallExplorer" (21 : Nat) "CallExplorer" "book" "LCallExplorer$Book;" ∈ zt := zin (List.mem_append_right _ (List.mem_of_getElem? (i := 296) (by decide +kernel))) (by decide +kernel)
theorem q297 : Cond.fieldLink "CallExplorer" (28 : Nat) "CallExplorer" "runner" "LCallExplorer$Runner;" ∈ zt := zin (List.mem_append_right _ (List.mem_of_getElem? (i := 297) (by decide +kernel))) (by decide +kernel)
theorem q298 : Cond.fieldLink "CallExplorer" (37 : Nat) "CallExplorer" "grower" "LCallExplorer$Grower;" ∈ zt := zin (List.mem_append_right _ (List.mem_of_getElem? (i := 298) (by decide +kernel))) (by decide +kernel)
theorem q299 : Cond.fieldLink "CallExplorer" (46 : Nat) "CallExplorer" "shortener" "LCallExplorer$Shortener;" ∈ zt := zin (List.mem_append_right _ (List.mem_of_getElem? (i := 299) (by decide +kernel))) (by decide +kernel)
theorem q300 : Cond.fieldLink "CallExplorer" (53 : Nat) "CallExplorer" "writer" "LCallExplorer$Writer;" ∈ zt := zin (List.mem_append_right _ (List.mem_of_getElem? (i := 300) (by decide +kernel))) (by decide +kernel)
theorem q301 : Cond.fieldLink "CallExplorer" (60 : Nat) "CallExplorer" "reader" "LCallExplorer$Reader;" ∈ zt := zin (List.mem_append_right _ (List.mem_of_getElem? (i := 301) (by decide +kernel))) (by decide +kernel)
theorem q321 : Cond.methodLink "CallExplorer" (64 : Nat) ({ cls := "CallExplorer$Catalog", name := "addClass", desc := "(III)I" } : MethodName) ∈ zt := zin (List.mem_append_right _ (List.mem_of_getElem? (i := 321) (by decide +kernel))) (by decide +kernel)
theorem q322 : Cond.instanceMethod ({ cls := "CallExplorer$Catalog", name := "addClass", desc := "(III)I" } : MethodName) ∈ zt := zin (List.mem_append_right _ (List.mem_of_getElem? (i := 322) (by decide +kernel))) (by decide +kernel)
theorem q323 : Cond.selects "CallExplorer$Catalog" ({ cls := "CallExplorer$Catalog", name := "addClass", desc := "(III)I" } : MethodName) ({ cls := "CallExplorer$Catalog", name := "addClass", desc := "(III)I" } : MethodName) ∈ zt := zin (List.mem_append_right _ (List.mem_of_getElem? (i := 323) (by decide +kernel))) (by decide +kernel)
set_option maxRecDepth 100000 in
theorem q324 : Cond.code ({ cls := "CallExplorer$Catalog", name := "addClass", desc := "(III)I" } : MethodName) prog_3_method_2_code (5 : Nat) (Option.some FieldType.int) ∈ zt := zin (List.mem_append_right _ (List.mem_of_getElem? (i := 324) (rfl))) (by rfl)
theorem q325 : Cond.methodLink "CallExplorer$Catalog" (40 : Nat) ({ cls := "CallExplorer$Catalog", name := "isClass", desc := "(I)Z" } : MethodName) ∈ zt := zin (List.mem_append_right _ (List.mem_of_getElem? (i := 325) (by decide +kernel))) (by decide +kernel)
theorem q327 : Cond.instanceMethod ({ cls := "CallExplorer$Catalog", name := "isClass", desc := "(I)Z" } : MethodName) ∈ zt := zin (List.mem_append_right _ (List.mem_of_getElem? (i := 327) (by decide +kernel))) (by decide +kernel)
set_option maxRecDepth 100000 in
theorem q328 : Cond.code ({ cls := "CallExplorer$Catalog", name := "isClass", desc := "(I)Z" } : MethodName) prog_3_method_4_code (2 : Nat) (Option.some FieldType.boolean) ∈ zt := zin (List.mem_append_right _ (List.mem_of_getElem? (i := 328) (rfl))) (by rfl)
theorem q333 : Cond.methodLink "CallExplorer" (68 : Nat) ({ cls := "CallExplorer$Catalog", name := "addOperation", desc := "(III)I" } : MethodName) ∈ zt := zin (List.mem_append_right _ (List.mem_of_getElem? (i := 333) (by decide +kernel))) (by decide +kernel)
theorem q334 : Cond.instanceMethod ({ cls := "CallExplorer$Catalog", name := "addOperation", desc := "(III)I" } : MethodName) ∈ zt := zin (List.mem_append_right _ (List.mem_of_getElem? (i := 334) (by decide +kernel))) (by decide +kernel)
theorem q335 : Cond.selects "CallExplorer$Catalog" ({ cls := "CallExplorer$Catalog", name := "addOperation", desc := "(III)I" } : MethodName) ({ cls := "CallExplorer$Catalog", name := "addOperation", desc := "(III)I" } : MethodName) ∈ zt := zin (List.mem_append_right _ (List.mem_of_getElem? (i := 335) (by decide +kernel))) (by decide +kernel)
set_option maxRecDepth 100000 in
theorem q336 : Cond.code ({ cls := "CallExplorer$Catalog", name := "addOperation", desc := "(III)I" } : MethodName) prog_3_method_3_code (4 : Nat) (Option.some FieldType.int) ∈ zt := zin (List.mem_append_right _ (List.mem_of_getElem? (i := 336) (rfl))) (by rfl)
theorem q337 : Cond.methodLink "CallExplorer$Catalog" (44 : Nat) ({ cls := "CallExplorer$Catalog", name := "hasPartner", desc := "(I)Z" } : MethodName) ∈ zt := zin (List.mem_append_right _ (List.mem_of_getElem? (i := 337) (by decide +kernel))) (by decide +kernel)
theorem q339 : Cond.instanceMethod ({ cls := "CallExplorer$Catalog", name := "hasPartner", desc := "(I)Z" } : MethodName) ∈ zt := zin (List.mem_append_right _ (List.mem_of_getElem? (i := 339) (by decide +kernel))) (by decide +kernel)
set_option maxRecDepth 100000 in
theorem q340 : Cond.code ({ cls := "CallExplorer$Catalog", name := "hasPartner", desc := "(I)Z" } : MethodName) prog_3_method_5_code (2 : Nat) (Option.some FieldType.boolean) ∈ zt := zin (List.mem_append_right _ (List.mem_of_getElem? (i := 340) (rfl))) (by rfl)
theorem q347 : Cond.methodLink "CallExplorer$Catalog" (50 : Nat) ({ cls := "CallExplorer$Catalog", name := "typeOf", desc := "(III)I" } : MethodName) ∈ zt := zin (List.mem_append_right _ (List.mem_of_getElem? (i := 347) (by decide +kernel))) (by decide +kernel)
theorem q349 : Cond.instanceMethod ({ cls := "CallExplorer$Catalog", name := "typeOf", desc := "(III)I" } : MethodName) ∈ zt := zin (List.mem_append_right _ (List.mem_of_getElem? (i := 349) (by decide +kernel))) (by decide +kernel)
set_option maxRecDepth 100000 in
theorem q350 : Cond.code ({ cls := "CallExplorer$Catalog", name := "typeOf", desc := "(III)I" } : MethodName) prog_3_method_6_code (4 : Nat) (Option.some FieldType.int) ∈ zt := zin (List.mem_append_right _ (List.mem_of_getElem? (i := 350) (rfl))) (by rfl)
theorem q355 : Cond.methodLink "CallExplorer" (71 : Nat) ({ cls := "CallExplorer$Grower", name := "addLiteral", desc := "(I)I" } : MethodName) ∈ zt := zin (List.mem_append_right _ (List.mem_of_getElem? (i := 355) (by decide +kernel))) (by decide +kernel)
theorem q356 : Cond.instanceMethod ({ cls := "CallExplorer$Grower", name := "addLiteral", desc := "(I)I" } : MethodName) ∈ zt := zin (List.mem_append_right _ (List.mem_of_getElem? (i := 356) (by decide +kernel))) (by decide +kernel)
theorem q357 : Cond.selects "CallExplorer$Grower" ({ cls := "CallExplorer$Grower", name := "addLiteral", desc := "(I)I" } : MethodName) ({ cls := "CallExplorer$Grower", name := "addLiteral", desc := "(I)I" } : MethodName) ∈ zt := zin (List.mem_append_right _ (List.mem_of_getElem? (i := 357) (by decide +kernel))) (by decide +kernel)
set_option maxRecDepth 100000 in
theorem q358 : Cond.code ({ cls := "CallExplorer$Grower", name := "addLiteral", desc := "(I)I" } : MethodName) prog_5_method_2_code (3 : Nat) (Option.some FieldType.int) ∈ zt := zin (List.mem_append_right _ (List.mem_of_getElem? (i := 358) (rfl))) (by rfl)
theorem q371 : Cond.methodLink "CallExplorer$Grower" (59 : Nat) ({ cls := "CallExplorer$Grower", name := "random", desc := "(I)I" } : MethodName) ∈ zt := zin (List.mem_append_right _ (List.mem_of_getElem? (i := 371) (by decide +kernel))) (by decide +kernel)
theorem q373 : Cond.instanceMethod ({ cls := "CallExplorer$Grower", name := "random", desc := "(I)I" } : MethodName) ∈ zt := zin (List.mem_append_right _ (List.mem_of_getElem? (i := 373) (by decide +kernel))) (by decide +kernel)
set_option maxRecDepth 100000 in
theorem q374 : Cond.code ({ cls := "CallExplorer$Grower", name := "random", desc := "(I)I" } : MethodName) prog_5_method_3_code (2 : Nat) (Option.some FieldType.int) ∈ zt := zin (List.mem_append_right _ (List.mem_of_getElem? (i := 374) (rfl))) (by rfl)
theorem q375 : Cond.constant "CallExplorer$Grower" (47 : Nat) (1103515245 : Int32) ∈ zt := zin (List.mem_append_right _ (List.mem_of_getElem? (i := 375) (by decide +kernel))) (by decide +kernel)
theorem q377 : Cond.instanceMethod ({ cls := "CallExplorer$Sequence", name := "clear", desc := "()V" } : MethodName) ∈ zt := zin (List.mem_append_right _ (List.mem_of_getElem? (i := 377) (by decide +kernel))) (by decide +kernel)
theorem q378 : Cond.selects "CallExplorer$Sequence" ({ cls := "CallExplorer$Sequence", name := "clear", desc := "()V" } : MethodName) ({ cls := "CallExplorer$Sequence", name := "clear", desc := "()V" } : MethodName) ∈ zt := zin (List.mem_append_right _ (List.mem_of_getElem? (i := 378) (by decide +kernel))) (by decide +kernel)
set_option maxRecDepth 100000 in
theorem q379 : Cond.code ({ cls := "CallExplorer$Sequence", name := "clear", desc := "()V" } : MethodName) prog_9_method_7_code (1 : Nat) (Option.none : Option FieldType) ∈ zt := zin (List.mem_append_right _ (List.mem_of_getElem? (i := 379) (rfl))) (by rfl)
theorem q381 : Cond.instanceMethod ({ cls := "CallExplorer$Catalog", name := "argumentType", desc := "(II)I" } : MethodName) ∈ zt := zin (List.mem_append_right _ (List.mem_of_getElem? (i := 381) (by decide +kernel))) (by decide +kernel)
theorem q382 : Cond.selects "CallExplorer$Catalog" ({ cls := "CallExplorer$Catalog", name := "argumentType", desc := "(II)I" } : MethodName) ({ cls := "CallExplorer$Catalog", name := "argumentType", desc := "(II)I" } : MethodName) ∈ zt := zin (List.mem_append_right _ (List.mem_of_getElem? (i := 382) (by decide +kernel))) (by decide +kernel)
set_option maxRecDepth 100000 in
theorem q383 : Cond.code ({ cls := "CallExplorer$Catalog", name := "argumentType", desc := "(II)I" } : MethodName) prog_3_method_7_code (3 : Nat) (Option.some FieldType.int) ∈ zt := zin (List.mem_append_right _ (List.mem_of_getElem? (i := 383) (rfl))) (by rfl)
theorem q388 : Cond.methodLink "CallExplorer$Grower" (94 : Nat) ({ cls := "CallExplorer$Grower", name := "choose", desc := "(III)I" } : MethodName) ∈ zt := zin (List.mem_append_right _ (List.mem_of_getElem? (i := 388) (by decide +kernel))) (by decide +kernel)
theorem q390 : Cond.instanceMethod ({ cls := "CallExplorer$Grower", name := "choose", desc := "(III)I" } : MethodName) ∈ zt := zin (List.mem_append_right _ (List.mem_of_getElem? (i := 390) (by decide +kernel))) (by decide +kernel)
set_option maxRecDepth 100000 in
theorem q391 : Cond.code ({ cls := "CallExplorer$Grower", name := "choose", desc := "(III)I" } : MethodName) prog_5_method_6_code (4 : Nat) (Option.some FieldType.int) ∈ zt := zin (List.mem_append_right _ (List.mem_of_getElem? (i := 391) (rfl))) (by rfl)
theorem q392 : Cond.methodLink "CallExplorer$Grower" (98 : Nat) ({ cls := "CallExplorer$Grower", name := "chooseNumber", desc := "(I)I" } : MethodName) ∈ zt := zin (List.mem_append_right _ (List.mem_of_getElem? (i := 392) (by decide +kernel))) (by decide +kernel)
theorem q394 : Cond.instanceMethod ({ cls := "CallExplorer$Grower", name := "chooseNumber", desc := "(I)I" } : MethodName) ∈ zt := zin (List.mem_append_right _ (List.mem_of_getElem? (i := 394) (by decide +kernel))) (by decide +kernel)
set_option maxRecDepth 100000 in
theorem q395 : Cond.code ({ cls := "CallExplorer$Grower", name := "chooseNumber", desc := "(I)I" } : MethodName) prog_5_method_7_code (2 : Nat) (Option.some FieldType.int) ∈ zt := zin (List.mem_append_right _ (List.mem_of_getElem? (i := 395) (rfl))) (by rfl)
theorem q396 : Cond.methodLink "CallExplorer$Grower" (104 : Nat) ({ cls := "CallExplorer$Book", name := "listFresh", desc := "(I)I" } : MethodName) ∈ zt := zin (List.mem_append_right _ (List.mem_of_getElem? (i := 396) (by decide +kernel))) (by decide +kernel)
theorem q397 : Cond.instanceMethod ({ cls := "CallExplorer$Book", name := "listFresh", desc := "(I)I" } : MethodName) ∈ zt := zin (List.mem_append_right _ (List.mem_of_getElem? (i := 397) (by decide +kernel))) (by decide +kernel)
theorem q398 : Cond.selects "CallExplorer$Book" ({ cls := "CallExplorer$Book", name := "listFresh", desc := "(I)I" } : MethodName) ({ cls := "CallExplorer$Book", name := "listFresh", desc := "(I)I" } : MethodName) ∈ zt := zin (List.mem_append_right _ (List.mem_of_getElem? (i := 398) (by decide +kernel))) (by decide +kernel)
set_option maxRecDepth 100000 in
theorem q399 : Cond.code ({ cls := "CallExplorer$Book", name := "listFresh", desc := "(I)I" } : MethodName) prog_2_method_7_code (4 : Nat) (Option.some FieldType.int) ∈ zt := zin (List.mem_append_right _ (List.mem_of_getElem? (i := 399) (rfl))) (by rfl)
theorem q400 : Cond.methodLink "CallExplorer$Book" (68 : Nat) ({ cls := "CallExplorer$Catalog", name := "is", desc := "(II)Z" } : MethodName) ∈ zt := zin (List.mem_append_right _ (List.mem_of_getElem? (i := 400) (by decide +kernel))) (by decide +kernel)
theorem q401 : Cond.instanceMethod ({ cls := "CallExplorer$Catalog", name := "is", desc := "(II)Z" } : MethodName) ∈ zt := zin (List.mem_append_right _ (List.mem_of_getElem? (i := 401) (by decide +kernel))) (by decide +kernel)
theorem q402 : Cond.selects "CallExplorer$Catalog" ({ cls := "CallExplorer$Catalog", name := "is", desc := "(II)Z" } : MethodName) ({ cls := "CallExplorer$Catalog", name := "is", desc := "(II)Z" } : MethodName) ∈ zt := zin (List.mem_append_right _ (List.mem_of_getElem? (i := 402) (by decide +kernel))) (by decide +kernel)
set_option maxRecDepth 100000 in
theorem q403 : Cond.code ({ cls := "CallExplorer$Catalog", name := "is", desc := "(II)Z" } : MethodName) prog_3_method_8_code (5 : Nat) (Option.some FieldType.boolean) ∈ zt := zin (List.mem_append_right _ (List.mem_of_getElem? (i := 403) (rfl))) (by rfl)
theorem q404 : Cond.methodLink "CallExplorer$Grower" (107 : Nat) ({ cls := "CallExplorer$Grower", name := "take", desc := "(II)I" } : MethodName) ∈ zt := zin (List.mem_append_right _ (List.mem_of_getElem? (i := 404) (by decide +kernel))) (by decide +kernel)
theorem q406 : Cond.instanceMethod ({ cls := "CallExplorer$Grower", name := "take", desc := "(II)I" } : MethodName) ∈ zt := zin (List.mem_append_right _ (List.mem_of_getElem? (i := 406) (by decide +kernel))) (by decide +kernel)
set_option maxRecDepth 100000 in
theorem q407 : Cond.code ({ cls := "CallExplorer$Grower", name := "take", desc := "(II)I" } : MethodName) prog_5_method_10_code (5 : Nat) (Option.some FieldType.int) ∈ zt := zin (List.mem_append_right _ (List.mem_of_getElem? (i := 407) (rfl))) (by rfl)
theorem q408 : Cond.methodLink "CallExplorer$Grower" (127 : Nat) ({ cls := "CallExplorer$Book", name := "get", desc := "(I)LCallExplorer$Entry;" } : MethodName) ∈ zt := zin (List.mem_append_right _ (List.mem_of_getElem? (i := 408) (by decide +kernel))) (by decide +kernel)
theorem q409 : Cond.instanceMethod ({ cls := "CallExplorer$Book", name := "get", desc := "(I)LCallExplorer$Entry;" } : MethodName) ∈ zt := zin (List.mem_append_right _ (List.mem_of_getElem? (i := 409) (by decide +kernel))) (by decide +kernel)
theorem q410 : Cond.selects "CallExplorer$Book" ({ cls := "CallExplorer$Book", name := "get", desc := "(I)LCallExplorer$Entry;" } : MethodName) ({ cls := "CallExplorer$Book", name := "get", desc := "(I)LCallExplorer$Entry;" } : MethodName) ∈ zt := zin (List.mem_append_right _ (List.mem_of_getElem? (i := 410) (by decide +kernel))) (by decide +kernel)
set_option maxRecDepth 100000 in
theorem q411 : Cond.code ({ cls := "CallExplorer$Book", name := "get", desc := "(I)LCallExplorer$Entry;" } : MethodName) prog_2_method_3_code (2 : Nat) (Option.some (FieldType.object "CallExplorer$Entry")) ∈ zt := zin (List.mem_append_right _ (List.mem_of_getElem? (i := 411) (rfl))) (by rfl)
theorem q412 : Cond.methodLink "CallExplorer$Grower" (137 : Nat) ({ cls := "CallExplorer$Sequence", name := "append", desc := "(LCallExplorer$Sequence;)V" } : MethodName) ∈ zt := zin (List.mem_append_right _ (List.mem_of_getElem? (i := 412) (by decide +kernel))) (by decide +kernel)
theorem q413 : Cond.instanceMethod ({ cls := "CallExplorer$Sequence", name := "append", desc := "(LCallExplorer$Sequence;)V" } : MethodName) ∈ zt := zin (List.mem_append_right _ (List.mem_of_getElem? (i := 413) (by decide +kernel))) (by decide +kernel)
theorem q414 : Cond.selects "CallExplorer$Sequence" ({ cls := "CallExplorer$Sequence", name := "append", desc := "(LCallExplorer$Sequence;)V" } : MethodName) ({ cls := "CallExplorer$Sequence", name := "append", desc := "(LCallExplorer$Sequence;)V" } : MethodName) ∈ zt := zin (List.mem_append_right _ (List.mem_of_getElem? (i := 414) (by decide +kernel))) (by decide +kernel)
set_option maxRecDepth 100000 in
theorem q415 : Cond.code ({ cls := "CallExplorer$Sequence", name := "append", desc := "(LCallExplorer$Sequence;)V" } : MethodName) prog_9_method_9_code (3 : Nat) (Option.none : Option FieldType) ∈ zt := zin (List.mem_append_right _ (List.mem_of_getElem? (i := 415) (rfl))) (by rfl)
theorem q416 : Cond.methodLink "CallExplorer$Sequence" (23 : Nat) ({ cls := "java/lang/System", name := "arraycopy", desc := "(Ljava/lang/Object;ILjava/lang/Object;II)V" } : MethodName) ∈ zt := zin (List.mem_append_right _ (List.mem_of_getElem? (i := 416) (by decide +kernel))) (by decide +kernel)
theorem q417 : Cond.static ({ cls := "java/lang/System", name := "arraycopy", desc := "(Ljava/lang/Object;ILjava/lang/Object;II)V" } : MethodName) ∈ zt := zin (List.mem_append_right _ (List.mem_of_getElem? (i := 417) (by decide +kernel))) (by decide +kernel)
theorem q418 : Cond.native ({ cls := "java/lang/System", name := "arraycopy", desc := "(Ljava/lang/Object;ILjava/lang/Object;II)V" } : MethodName) ∈ zt := zin (List.mem_append_right _ (List.mem_of_getElem? (i := 418) (by decide +kernel))) (by decide +kernel)
theorem q419 : Cond.methodLink "CallExplorer$Sequence" (29 : Nat) ({ cls := "CallExplorer$Sequence", name := "moveVariables", desc := "(III)V" } : MethodName) ∈ zt := zin (List.mem_append_right _ (List.mem_of_getElem? (i := 419) (by decide +kernel))) (by decide +kernel)
theorem q421 : Cond.instanceMethod ({ cls := "CallExplorer$Sequence", name := "moveVariables", desc := "(III)V" } : MethodName) ∈ zt := zin (List.mem_append_right _ (List.mem_of_getElem? (i := 421) (by decide +kernel))) (by decide +kernel)
set_option maxRecDepth 100000 in
theorem q422 : Cond.code ({ cls := "CallExplorer$Sequence", name := "moveVariables", desc := "(III)V" } : MethodName) prog_9_method_14_code (6 : Nat) (Option.none : Option FieldType) ∈ zt := zin (List.mem_append_right _ (List.mem_of_getElem? (i := 422) (rfl))) (by rfl)
theorem q423 : Cond.methodLink "CallExplorer$Sequence" (33 : Nat) ({ cls := "CallExplorer$Sequence", name := "isVariable", desc := "(II)Z" } : MethodName) ∈ zt := zin (List.mem_append_right _ (List.mem_of_getElem? (i := 423) (by decide +kernel))) (by decide +kernel)
theorem q424 : Cond.instanceMethod ({ cls := "CallExplorer$Sequence", name := "isVariable", desc := "(II)Z" } : MethodName) ∈ zt := zin (List.mem_append_right _ (List.mem_of_getElem? (i := 424) (by decide +kernel))) (by decide +kernel)
theorem q425 : Cond.selects "CallExplorer$Sequence" ({ cls := "CallExplorer$Sequence", name := "isVariable", desc := "(II)Z" } : MethodName) ({ cls := "CallExplorer$Sequence", name := "isVariable", desc := "(II)Z" } : MethodName) ∈ zt := zin (List.mem_append_right _ (List.mem_of_getElem? (i := 425) (by decide +kernel))) (by decide +kernel)
set_option maxRecDepth 100000 in
theorem q426 : Cond.code ({ cls := "CallExplorer$Sequence", name := "isVariable", desc := "(II)Z" } : MethodName) prog_9_method_6_code (3 : Nat) (Option.some FieldType.boolean) ∈ zt := zin (List.mem_append_right _ (List.mem_of_getElem? (i := 426) (rfl))) (by rfl)
theorem q427 : Cond.methodLink "CallExplorer$Sequence" (37 : Nat) ({ cls := "CallExplorer$Sequence", name := "content", desc := "(II)I" } : MethodName) ∈ zt := zin (List.mem_append_right _ (List.mem_of_getElem? (i := 427) (by decide +kernel))) (by decide +kernel)
theorem q428 : Cond.instanceMethod ({ cls := "CallExplorer$Sequence", name := "content", desc := "(II)I" } : MethodName) ∈ zt := zin (List.mem_append_right _ (List.mem_of_getElem? (i := 428) (by decide +kernel))) (by decide +kernel)
theorem q429 : Cond.selects "CallExplorer$Sequence" ({ cls := "CallExplorer$Sequence", name := "content", desc := "(II)I" } : MethodName) ({ cls := "CallExplorer$Sequence", name := "content", desc := "(II)I" } : MethodName) ∈ zt := zin (List.mem_append_right _ (List.mem_of_getElem? (i := 429) (by decide +kernel))) (by decide +kernel)
set_option maxRecDepth 100000 in
theorem q430 : Cond.code ({ cls := "CallExplorer$Sequence", name := "content", desc := "(II)I" } : MethodName) prog_9_method_4_code (3 : Nat) (Option.some FieldType.int) ∈ zt := zin (List.mem_append_right _ (List.mem_of_getElem? (i := 430) (rfl))) (by rfl)
theorem q431 : Cond.methodLink "CallExplorer$Sequence" (19 : Nat) ({ cls := "CallExplorer$Sequence", name := "setArgument", desc := "(IIII)V" } : MethodName) ∈ zt := zin (List.mem_append_right _ (List.mem_of_getElem? (i := 431) (by decide +kernel))) (by decide +kernel)
theorem q432 : Cond.instanceMethod ({ cls := "CallExplorer$Sequence", name := "setArgument", desc := "(IIII)V" } : MethodName) ∈ zt := zin (List.mem_append_right _ (List.mem_of_getElem? (i := 432) (by decide +kernel))) (by decide +kernel)
theorem q433 : Cond.selects "CallExplorer$Sequence" ({ cls := "CallExplorer$Sequence", name := "setArgument", desc := "(IIII)V" } : MethodName) ({ cls := "CallExplorer$Sequence", name := "setArgument", desc := "(IIII)V" } : MethodName) ∈ zt := zin (List.mem_append_right _ (List.mem_of_getElem? (i := 433) (by decide +kernel))) (by decide +kernel)
set_option maxRecDepth 100000 in
theorem q434 : Cond.code ({ cls := "CallExplorer$Sequence", name := "setArgument", desc := "(IIII)V" } : MethodName) prog_9_method_5_code (5 : Nat) (Option.none : Option FieldType) ∈ zt := zin (List.mem_append_right _ (List.mem_of_getElem? (i := 434) (rfl))) (by rfl)
theorem q435 : Cond.methodLink "CallExplorer$Grower" (101 : Nat) ({ cls := "CallExplorer$Grower", name := "chooseObject", desc := "(II)I" } : MethodName) ∈ zt := zin (List.mem_append_right _ (List.mem_of_getElem? (i := 435) (by decide +kernel))) (by decide +kernel)
theorem q437 : Cond.instanceMethod ({ cls := "CallExplorer$Grower", name := "chooseObject", desc := "(II)I" } : MethodName) ∈ zt := zin (List.mem_append_right _ (List.mem_of_getElem? (i := 437) (by decide +kernel))) (by decide +kernel)
set_option maxRecDepth 100000 in
theorem q438 : Cond.code ({ cls := "CallExplorer$Grower", name := "chooseObject", desc := "(II)I" } : MethodName) prog_5_method_8_code (3 : Nat) (Option.some FieldType.int) ∈ zt := zin (List.mem_append_right _ (List.mem_of_getElem? (i := 438) (rfl))) (by rfl)
theorem q439 : Cond.methodLink "CallExplorer$Grower" (110 : Nat) ({ cls := "CallExplorer$Grower", name := "firstFits", desc := "(I)Z" } : MethodName) ∈ zt := zin (List.mem_append_right _ (List.mem_of_getElem? (i := 439) (by decide +kernel))) (by decide +kernel)
theorem q441 : Cond.instanceMethod ({ cls := "CallExplorer$Grower", name := "firstFits", desc := "(I)Z" } : MethodName) ∈ zt := zin (List.mem_append_right _ (List.mem_of_getElem? (i := 441) (by decide +kernel))) (by decide +kernel)
set_option maxRecDepth 100000 in
theorem q442 : Cond.code ({ cls := "CallExplorer$Grower", name := "firstFits", desc := "(I)Z" } : MethodName) prog_5_method_9_code (2 : Nat) (Option.some FieldType.boolean) ∈ zt := zin (List.mem_append_right _ (List.mem_of_getElem? (i := 442) (rfl))) (by rfl)
theorem q443 : Cond.methodLink "CallExplorer$Grower" (117 : Nat) ({ cls := "CallExplorer$Sequence", name := "operationOf", desc := "(I)I" } : MethodName) ∈ zt := zin (List.mem_append_right _ (List.mem_of_getElem? (i := 443) (by decide +kernel))) (by decide +kernel)
theorem q444 : Cond.instanceMethod ({ cls := "CallExplorer$Sequence", name := "operationOf", desc := "(I)I" } : MethodName) ∈ zt := zin (List.mem_append_right _ (List.mem_of_getElem? (i := 444) (by decide +kernel))) (by decide +kernel)
theorem q445 : Cond.selects "CallExplorer$Sequence" ({ cls := "CallExplorer$Sequence", name := "operationOf", desc := "(I)I" } : MethodName) ({ cls := "CallExplorer$Sequence", name := "operationOf", desc := "(I)I" } : MethodName) ∈ zt := zin (List.mem_append_right _ (List.mem_of_getElem? (i := 445) (by decide +kernel))) (by decide +kernel)
set_option maxRecDepth 100000 in
theorem q446 : Cond.code ({ cls := "CallExplorer$Sequence", name := "operationOf", desc := "(I)I" } : MethodName) prog_9_method_2_code (2 : Nat) (Option.some FieldType.int) ∈ zt := zin (List.mem_append_right _ (List.mem_of_getElem? (i := 446) (rfl))) (by rfl)
theorem q447 : Cond.methodLink "CallExplorer$Grower" (120 : Nat) ({ cls := "CallExplorer$Catalog", name := "is", desc := "(II)Z" } : MethodName) ∈ zt := zin (List.mem_append_right _ (List.mem_of_getElem? (i := 447) (by decide +kernel))) (by decide +kernel)
theorem q452 : Cond.methodLink "CallExplorer$Grower" (140 : Nat) ({ cls := "CallExplorer$Sequence", name := "push", desc := "(I)I" } : MethodName) ∈ zt := zin (List.mem_append_right _ (List.mem_of_getElem? (i := 452) (by decide +kernel))) (by decide +kernel)
theorem q453 : Cond.instanceMethod ({ cls := "CallExplorer$Sequence", name := "push", desc := "(I)I" } : MethodName) ∈ zt := zin (List.mem_append_right _ (List.mem_of_getElem? (i := 453) (by decide +kernel))) (by decide +kernel)
theorem q454 : Cond.selects "CallExplorer$Sequence" ({ cls := "CallExplorer$Sequence", name := "push", desc := "(I)I" } : MethodName) ({ cls := "CallExplorer$Sequence", name := "push", desc := "(I)I" } : MethodName) ∈ zt := zin (List.mem_append_right _ (List.mem_of_getElem? (i := 454) (by decide +kernel))) (by decide +kernel)
set_option maxRecDepth 100000 in
theorem q455 : Cond.code ({ cls := "CallExplorer$Sequence", name := "push", desc := "(I)I" } : MethodName) prog_9_method_8_code (3 : Nat) (Option.some FieldType.int) ∈ zt := zin (List.mem_append_right _ (List.mem_of_getElem? (i := 455) (rfl))) (by rfl)
theorem q456 : Cond.methodLink "CallExplorer$Grower" (143 : Nat) ({ cls := "CallExplorer$Sequence", name := "setArgument", desc := "(IIII)V" } : MethodName) ∈ zt := zin (List.mem_append_right _ (List.mem_of_getElem? (i := 456) (by decide +kernel))) (by decide +kernel)
theorem q461 : Cond.methodLink "CallExplorer$Book" (61 : Nat) ({ cls := "CallExplorer$Sequence", name := "same", desc := "(LCallExplorer$Sequence;)Z" } : MethodName) ∈ zt := zin (List.mem_append_right _ (List.mem_of_getElem? (i := 461) (by decide +kernel))) (by decide +kernel)
theorem q462 : Cond.instanceMethod ({ cls := "CallExplorer$Sequence", name := "same", desc := "(LCallExplorer$Sequence;)Z" } : MethodName) ∈ zt := zin (List.mem_append_right _ (List.mem_of_getElem? (i := 462) (by decide +kernel))) (by decide +kernel)
theorem q463 : Cond.selects "CallExplorer$Sequence" ({ cls := "CallExplorer$Sequence", name := "same", desc := "(LCallExplorer$Sequence;)Z" } : MethodName) ({ cls := "CallExplorer$Sequence", name := "same", desc := "(LCallExplorer$Sequence;)Z" } : MethodName) ∈ zt := zin (List.mem_append_right _ (List.mem_of_getElem? (i := 463) (by decide +kernel))) (by decide +kernel)
set_option maxRecDepth 100000 in
theorem q464 : Cond.code ({ cls := "CallExplorer$Sequence", name := "same", desc := "(LCallExplorer$Sequence;)Z" } : MethodName) prog_9_method_11_code (3 : Nat) (Option.some FieldType.boolean) ∈ zt := zin (List.mem_append_right _ (List.mem_of_getElem? (i := 464) (rfl))) (by rfl)
theorem q466 : Cond.instanceMethod ({ cls := "CallExplorer$Runner", name := "run", desc := "(LCallExplorer$Sequence;)V" } : MethodName) ∈ zt := zin (List.mem_append_right _ (List.mem_of_getElem? (i := 466) (by decide +kernel))) (by decide +kernel)
theorem q467 : Cond.selects "CallExplorer$Runner" ({ cls := "CallExplorer$Runner", name := "run", desc := "(LCallExplorer$Sequence;)V" } : MethodName) ({ cls := "CallExplorer$Runner", name := "run", desc := "(LCallExplorer$Sequence;)V" } : MethodName) ∈ zt := zin (List.mem_append_right _ (List.mem_of_getElem? (i := 467) (by decide +kernel))) (by decide +kernel)
set_option maxRecDepth 100000 in
theorem q468 : Cond.code ({ cls := "CallExplorer$Runner", name := "run", desc := "(LCallExplorer$Sequence;)V" } : MethodName) prog_8_method_2_code (4 : Nat) (Option.none : Option FieldType) ∈ zt := zin (List.mem_append_right _ (List.mem_of_getElem? (i := 468) (rfl))) (by rfl)
theorem q469 : Cond.methodLink "CallExplorer$Runner" (49 : Nat) ({ cls := "CallExplorer$Runner", name := "execute", desc := "(LCallExplorer$Sequence;I)I" } : MethodName) ∈ zt := zin (List.mem_append_right _ (List.mem_of_getElem? (i := 469) (by decide +kernel))) (by decide +kernel)
theorem q471 : Cond.instanceMethod ({ cls := "CallExplorer$Runner", name := "execute", desc := "(LCallExplorer$Sequence;I)I" } : MethodName) ∈ zt := zin (List.mem_append_right _ (List.mem_of_getElem? (i := 471) (by decide +kernel))) (by decide +kernel)
set_option maxRecDepth 100000 in
theorem q472 : Cond.code ({ cls := "CallExplorer$Runner", name := "execute", desc := "(LCallExplorer$Sequence;I)I" } : MethodName) prog_8_method_6_code (6 : Nat) (Option.some FieldType.int) ∈ zt := zin (List.mem_append_right _ (List.mem_of_getElem? (i := 472) (rfl))) (by rfl)
theorem q473 : Cond.methodLink "CallExplorer$Runner" (71 : Nat) ({ cls := "CallExplorer$Runner", name := "isNull", desc := "(LCallExplorer$Sequence;II)Z" } : MethodName) ∈ zt := zin (List.mem_append_right _ (List.mem_of_getElem? (i := 473) (by decide +kernel))) (by decide +kernel)
theorem q475 : Cond.instanceMethod ({ cls := "CallExplorer$Runner", name := "isNull", desc := "(LCallExplorer$Sequence;II)Z" } : MethodName) ∈ zt := zin (List.mem_append_right _ (List.mem_of_getElem? (i := 475) (by decide +kernel))) (by decide +kernel)
set_option maxRecDepth 100000 in
theorem q476 : Cond.code ({ cls := "CallExplorer$Runner", name := "isNull", desc := "(LCallExplorer$Sequence;II)Z" } : MethodName) prog_8_method_4_code (5 : Nat) (Option.some FieldType.boolean) ∈ zt := zin (List.mem_append_right _ (List.mem_of_getElem? (i := 476) (rfl))) (by rfl)
theorem q477 : Cond.methodLink "CallExplorer$Runner" (75 : Nat) ({ cls := "CallExplorer$Sequence", name := "operationOf", desc := "(I)I" } : MethodName) ∈ zt := zin (List.mem_append_right _ (List.mem_of_getElem? (i := 477) (by decide +kernel))) (by decide +kernel)
theorem q478 : Cond.methodLink "CallExplorer$Runner" (79 : Nat) ({ cls := "CallExplorer$Catalog", name := "argumentType", desc := "(II)I" } : MethodName) ∈ zt := zin (List.mem_append_right _ (List.mem_of_getElem? (i := 478) (by decide +kernel))) (by decide +kernel)
theorem q479 : Cond.methodLink "CallExplorer$Runner" (85 : Nat) ({ cls := "CallExplorer$Runner", name := "argumentValue", desc := "(LCallExplorer$Sequence;II)I" } : MethodName) ∈ zt := zin (List.mem_append_right _ (List.mem_of_getElem? (i := 479) (by decide +kernel))) (by decide +kernel)
theorem q481 : Cond.instanceMethod ({ cls := "CallExplorer$Runner", name := "argumentValue", desc := "(LCallExplorer$Sequence;II)I" } : MethodName) ∈ zt := zin (List.mem_append_right _ (List.mem_of_getElem? (i := 481) (by decide +kernel))) (by decide +kernel)
set_option maxRecDepth 100000 in
theorem q482 : Cond.code ({ cls := "CallExplorer$Runner", name := "argumentValue", desc := "(LCallExplorer$Sequence;II)I" } : MethodName) prog_8_method_5_code (5 : Nat) (Option.some FieldType.int) ∈ zt := zin (List.mem_append_right _ (List.mem_of_getElem? (i := 482) (rfl))) (by rfl)
theorem q483 : Cond.methodLink "CallExplorer$Runner" (89 : Nat) ({ cls := "CallExplorer$Sequence", name := "content", desc := "(II)I" } : MethodName) ∈ zt := zin (List.mem_append_right _ (List.mem_of_getElem? (i := 483) (by decide +kernel))) (by decide +kernel)
theorem q484 : Cond.methodLink "CallExplorer$Runner" (92 : Nat) ({ cls := "CallExplorer$Sequence", name := "form", desc := "(II)I" } : MethodName) ∈ zt := zin (List.mem_append_right _ (List.mem_of_getElem? (i := 484) (by decide +kernel))) (by decide +kernel)
theorem q485 : Cond.instanceMethod ({ cls := "CallExplorer$Sequence", name := "form", desc := "(II)I" } : MethodName) ∈ zt := zin (List.mem_append_right _ (List.mem_of_getElem? (i := 485) (by decide +kernel))) (by decide +kernel)
theorem q486 : Cond.selects "CallExplorer$Sequence" ({ cls := "CallExplorer$Sequence", name := "form", desc := "(II)I" } : MethodName) ({ cls := "CallExplorer$Sequence", name := "form", desc := "(II)I" } : MethodName) ∈ zt := zin (List.mem_append_right _ (List.mem_of_getElem? (i := 486) (by decide +kernel))) (by decide +kernel)
set_option maxRecDepth 100000 in
theorem q487 : Cond.code ({ cls := "CallExplorer$Sequence", name := "form", desc := "(II)I" } : MethodName) prog_9_method_3_code (3 : Nat) (Option.some FieldType.int) ∈ zt := zin (List.mem_append_right _ (List.mem_of_getElem? (i := 487) (rfl))) (by rfl)
theorem q488 : Cond.methodLink "CallExplorer$Runner" (101 : Nat) ({ cls := "CallExplorer$Runner", name := "make", desc := "(III)I" } : MethodName) ∈ zt := zin (List.mem_append_right _ (List.mem_of_getElem? (i := 488) (by decide +kernel))) (by decide +kernel)
theorem q490 : Cond.instanceMethod ({ cls := "CallExplorer$Runner", name := "make", desc := "(III)I" } : MethodName) ∈ zt := zin (List.mem_append_right _ (List.mem_of_getElem? (i := 490) (by decide +kernel))) (by decide +kernel)
set_option maxRecDepth 100000 in
theorem q491 : Cond.code ({ cls := "CallExplorer$Runner", name := "make", desc := "(III)I" } : MethodName) prog_8_method_8_code (4 : Nat) (Option.some FieldType.int) ∈ zt := zin (List.mem_append_right _ (List.mem_of_getElem? (i := 491) (rfl))) (by rfl)
theorem q492 : Cond.methodLink "CallExplorer$Runner" (131 : Nat) ({ cls := "CallExplorer$Runner", name := "canBeValue", desc := "(J)Z" } : MethodName) ∈ zt := zin (List.mem_append_right _ (List.mem_of_getElem? (i := 492) (by decide +kernel))) (by decide +kernel)
theorem q494 : Cond.instanceMethod ({ cls := "CallExplorer$Runner", name := "canBeValue", desc := "(J)Z" } : MethodName) ∈ zt := zin (List.mem_append_right _ (List.mem_of_getElem? (i := 494) (by decide +kernel))) (by decide +kernel)
set_option maxRecDepth 100000 in
theorem q495 : Cond.code ({ cls := "CallExplorer$Runner", name := "canBeValue", desc := "(J)Z" } : MethodName) prog_8_method_13_code (3 : Nat) (Option.some FieldType.boolean) ∈ zt := zin (List.mem_append_right _ (List.mem_of_getElem? (i := 495) (rfl))) (by rfl)
theorem q496 : Cond.constantLong "CallExplorer$Runner" (147 : Nat) (-100 : Int64) ∈ zt := zin (List.mem_append_right _ (List.mem_of_getElem? (i := 496) (by decide +kernel))) (by decide +kernel)
theorem q497 : Cond.constantLong "CallExplorer$Runner" (149 : Nat) (100 : Int64) ∈ zt := zin (List.mem_append_right _ (List.mem_of_getElem? (i := 497) (by decide +kernel))) (by decide +kernel)
theorem q498 : Cond.methodLink "CallExplorer$Runner" (108 : Nat) ({ cls := "CallExplorer$Heap", name := "make", desc := "(III)I" } : MethodName) ∈ zt := zin (List.mem_append_right _ (List.mem_of_getElem? (i := 498) (by decide +kernel))) (by decide +kernel)
theorem q499 : Cond.instanceMethod ({ cls := "CallExplorer$Heap", name := "make", desc := "(III)I" } : MethodName) ∈ zt := zin (List.mem_append_right _ (List.mem_of_getElem? (i := 499) (by decide +kernel))) (by decide +kernel)
theorem q500 : Cond.selects "CallExplorer$Heap" ({ cls := "CallExplorer$Heap", name := "make", desc := "(III)I" } : MethodName) ({ cls := "CallExplorer$Heap", name := "make", desc := "(III)I" } : MethodName) ∈ zt := zin (List.mem_append_right _ (List.mem_of_getElem? (i := 500) (by decide +kernel))) (by decide +kernel)
set_option maxRecDepth 100000 in
theorem q501 : Cond.code ({ cls := "CallExplorer$Heap", name := "make", desc := "(III)I" } : MethodName) prog_6_method_2_code (5 : Nat) (Option.some FieldType.int) ∈ zt := zin (List.mem_append_right _ (List.mem_of_getElem? (i := 501) (rfl))) (by rfl)
theorem q502 : Cond.methodLink "CallExplorer$Runner" (109 : Nat) ({ cls := "CallExplorer$Runner", name := "give", desc := "(II)I" } : MethodName) ∈ zt := zin (List.mem_append_right _ (List.mem_of_getElem? (i := 502) (by decide +kernel))) (by decide +kernel)
theorem q504 : Cond.instanceMethod ({ cls := "CallExplorer$Runner", name := "give", desc := "(II)I" } : MethodName) ∈ zt := zin (List.mem_append_right _ (List.mem_of_getElem? (i := 504) (by decide +kernel))) (by decide +kernel)
set_option maxRecDepth 100000 in
theorem q505 : Cond.code ({ cls := "CallExplorer$Runner", name := "give", desc := "(II)I" } : MethodName) prog_8_method_7_code (3 : Nat) (Option.some FieldType.int) ∈ zt := zin (List.mem_append_right _ (List.mem_of_getElem? (i := 505) (rfl))) (by rfl)
theorem q506 : Cond.methodLink "CallExplorer$Runner" (112 : Nat) ({ cls := "CallExplorer$Runner", name := "add", desc := "(III)I" } : MethodName) ∈ zt := zin (List.mem_append_right _ (List.mem_of_getElem? (i := 506) (by decide +kernel))) (by decide +kernel)
theorem q508 : Cond.instanceMethod ({ cls := "CallExplorer$Runner", name := "add", desc := "(III)I" } : MethodName) ∈ zt := zin (List.mem_append_right _ (List.mem_of_getElem? (i := 508) (by decide +kernel))) (by decide +kernel)
set_option maxRecDepth 100000 in
theorem q509 : Cond.code ({ cls := "CallExplorer$Runner", name := "add", desc := "(III)I" } : MethodName) prog_8_method_9_code (6 : Nat) (Option.some FieldType.int) ∈ zt := zin (List.mem_append_right _ (List.mem_of_getElem? (i := 509) (rfl))) (by rfl)
theorem q510 : Cond.methodLink "CallExplorer$Runner" (115 : Nat) ({ cls := "CallExplorer$Runner", name := "link", desc := "(III)I" } : MethodName) ∈ zt := zin (List.mem_append_right _ (List.mem_of_getElem? (i := 510) (by decide +kernel))) (by decide +kernel)
theorem q512 : Cond.instanceMethod ({ cls := "CallExplorer$Runner", name := "link", desc := "(III)I" } : MethodName) ∈ zt := zin (List.mem_append_right _ (List.mem_of_getElem? (i := 512) (by decide +kernel))) (by decide +kernel)
set_option maxRecDepth 100000 in
theorem q513 : Cond.code ({ cls := "CallExplorer$Runner", name := "link", desc := "(III)I" } : MethodName) prog_8_method_10_code (4 : Nat) (Option.some FieldType.int) ∈ zt := zin (List.mem_append_right _ (List.mem_of_getElem? (i := 513) (rfl))) (by rfl)
theorem q514 : Cond.methodLink "CallExplorer$Runner" (135 : Nat) ({ cls := "CallExplorer$Heap", name := "reaches", desc := "(II)Z" } : MethodName) ∈ zt := zin (List.mem_append_right _ (List.mem_of_getElem? (i := 514) (by decide +kernel))) (by decide +kernel)
theorem q515 : Cond.instanceMethod ({ cls := "CallExplorer$Heap", name := "reaches", desc := "(II)Z" } : MethodName) ∈ zt := zin (List.mem_append_right _ (List.mem_of_getElem? (i := 515) (by decide +kernel))) (by decide +kernel)
theorem q516 : Cond.selects "CallExplorer$Heap" ({ cls := "CallExplorer$Heap", name := "reaches", desc := "(II)Z" } : MethodName) ({ cls := "CallExplorer$Heap", name := "reaches", desc := "(II)Z" } : MethodName) ∈ zt := zin (List.mem_append_right _ (List.mem_of_getElem? (i := 516) (by decide +kernel))) (by decide +kernel)
set_option maxRecDepth 100000 in
theorem q517 : Cond.code ({ cls := "CallExplorer$Heap", name := "reaches", desc := "(II)Z" } : MethodName) prog_6_method_3_code (5 : Nat) (Option.some FieldType.boolean) ∈ zt := zin (List.mem_append_right _ (List.mem_of_getElem? (i := 517) (rfl))) (by rfl)
theorem q518 : Cond.methodLink "CallExplorer$Runner" (118 : Nat) ({ cls := "CallExplorer$Runner", name := "getNext", desc := "(III)I" } : MethodName) ∈ zt := zin (List.mem_append_right _ (List.mem_of_getElem? (i := 518) (by decide +kernel))) (by decide +kernel)
theorem q520 : Cond.instanceMethod ({ cls := "CallExplorer$Runner", name := "getNext", desc := "(III)I" } : MethodName) ∈ zt := zin (List.mem_append_right _ (List.mem_of_getElem? (i := 520) (by decide +kernel))) (by decide +kernel)
set_option maxRecDepth 100000 in
theorem q521 : Cond.code ({ cls := "CallExplorer$Runner", name := "getNext", desc := "(III)I" } : MethodName) prog_8_method_11_code (5 : Nat) (Option.some FieldType.int) ∈ zt := zin (List.mem_append_right _ (List.mem_of_getElem? (i := 521) (rfl))) (by rfl)
theorem q522 : Cond.methodLink "CallExplorer$Runner" (144 : Nat) ({ cls := "CallExplorer$Catalog", name := "is", desc := "(II)Z" } : MethodName) ∈ zt := zin (List.mem_append_right _ (List.mem_of_getElem? (i := 522) (by decide +kernel))) (by decide +kernel)
theorem q523 : Cond.methodLink "CallExplorer$Runner" (121 : Nat) ({ cls := "CallExplorer$Runner", name := "getNextValue", desc := "(II)I" } : MethodName) ∈ zt := zin (List.mem_append_right _ (List.mem_of_getElem? (i := 523) (by decide +kernel))) (by decide +kernel)
theorem q525 : Cond.instanceMethod ({ cls := "CallExplorer$Runner", name := "getNextValue", desc := "(II)I" } : MethodName) ∈ zt := zin (List.mem_append_right _ (List.mem_of_getElem? (i := 525) (by decide +kernel))) (by decide +kernel)
set_option maxRecDepth 100000 in
theorem q526 : Cond.code ({ cls := "CallExplorer$Runner", name := "getNextValue", desc := "(II)I" } : MethodName) prog_8_method_12_code (4 : Nat) (Option.some FieldType.int) ∈ zt := zin (List.mem_append_right _ (List.mem_of_getElem? (i := 526) (rfl))) (by rfl)
theorem q527 : Cond.methodLink "CallExplorer$Runner" (124 : Nat) ({ cls := "CallExplorer$Heap", name := "chainLength", desc := "(I)I" } : MethodName) ∈ zt := zin (List.mem_append_right _ (List.mem_of_getElem? (i := 527) (by decide +kernel))) (by decide +kernel)
theorem q528 : Cond.instanceMethod ({ cls := "CallExplorer$Heap", name := "chainLength", desc := "(I)I" } : MethodName) ∈ zt := zin (List.mem_append_right _ (List.mem_of_getElem? (i := 528) (by decide +kernel))) (by decide +kernel)
theorem q529 : Cond.selects "CallExplorer$Heap" ({ cls := "CallExplorer$Heap", name := "chainLength", desc := "(I)I" } : MethodName) ({ cls := "CallExplorer$Heap", name := "chainLength", desc := "(I)I" } : MethodName) ∈ zt := zin (List.mem_append_right _ (List.mem_of_getElem? (i := 529) (by decide +kernel))) (by decide +kernel)
set_option maxRecDepth 100000 in
theorem q530 : Cond.code ({ cls := "CallExplorer$Heap", name := "chainLength", desc := "(I)I" } : MethodName) prog_6_method_4_code (5 : Nat) (Option.some FieldType.int) ∈ zt := zin (List.mem_append_right _ (List.mem_of_getElem? (i := 530) (rfl))) (by rfl)
theorem q531 : Cond.methodLink "CallExplorer$Runner" (127 : Nat) ({ cls := "CallExplorer$Heap", name := "equal", desc := "(II)Z" } : MethodName) ∈ zt := zin (List.mem_append_right _ (List.mem_of_getElem? (i := 531) (by decide +kernel))) (by decide +kernel)
theorem q532 : Cond.instanceMethod ({ cls := "CallExplorer$Heap", name := "equal", desc := "(II)Z" } : MethodName) ∈ zt := zin (List.mem_append_right _ (List.mem_of_getElem? (i := 532) (by decide +kernel))) (by decide +kernel)
theorem q533 : Cond.selects "CallExplorer$Heap" ({ cls := "CallExplorer$Heap", name := "equal", desc := "(II)Z" } : MethodName) ({ cls := "CallExplorer$Heap", name := "equal", desc := "(II)Z" } : MethodName) ∈ zt := zin (List.mem_append_right _ (List.mem_of_getElem? (i := 533) (by decide +kernel))) (by decide +kernel)
set_option maxRecDepth 100000 in
theorem q534 : Cond.code ({ cls := "CallExplorer$Heap", name := "equal", desc := "(II)Z" } : MethodName) prog_6_method_5_code (7 : Nat) (Option.some FieldType.boolean) ∈ zt := zin (List.mem_append_right _ (List.mem_of_getElem? (i := 534) (rfl))) (by rfl)
theorem q535 : Cond.methodLink "CallExplorer$Heap" (34 : Nat) ({ cls := "CallExplorer$Catalog", name := "is", desc := "(II)Z" } : MethodName) ∈ zt := zin (List.mem_append_right _ (List.mem_of_getElem? (i := 535) (by decide +kernel))) (by decide +kernel)
theorem q536 : Cond.methodLink "CallExplorer$Runner" (53 : Nat) ({ cls := "CallExplorer$Runner", name := "endWithTrouble", desc := "(LCallExplorer$Sequence;II)V" } : MethodName) ∈ zt := zin (List.mem_append_right _ (List.mem_of_getElem? (i := 536) (by decide +kernel))) (by decide +kernel)
theorem q538 : Cond.instanceMethod ({ cls := "CallExplorer$Runner", name := "endWithTrouble", desc := "(LCallExplorer$Sequence;II)V" } : MethodName) ∈ zt := zin (List.mem_append_right _ (List.mem_of_getElem? (i := 538) (by decide +kernel))) (by decide +kernel)
set_option maxRecDepth 100000 in
theorem q539 : Cond.code ({ cls := "CallExplorer$Runner", name := "endWithTrouble", desc := "(LCallExplorer$Sequence;II)V" } : MethodName) prog_8_method_3_code (5 : Nat) (Option.none : Option FieldType) ∈ zt := zin (List.mem_append_right _ (List.mem_of_getElem? (i := 539) (rfl))) (by rfl)
theorem q540 : Cond.methodLink "CallExplorer$Runner" (57 : Nat) ({ cls := "CallExplorer$Runner", name := "keepResult", desc := "(LCallExplorer$Sequence;)V" } : MethodName) ∈ zt := zin (List.mem_append_right _ (List.mem_of_getElem? (i := 540) (by decide +kernel))) (by decide +kernel)
theorem q542 : Cond.instanceMethod ({ cls := "CallExplorer$Runner", name := "keepResult", desc := "(LCallExplorer$Sequence;)V" } : MethodName) ∈ zt := zin (List.mem_append_right _ (List.mem_of_getElem? (i := 542) (by decide +kernel))) (by decide +kernel)
set_option maxRecDepth 100000 in
theorem q543 : Cond.code ({ cls := "CallExplorer$Runner", name := "keepResult", desc := "(LCallExplorer$Sequence;)V" } : MethodName) prog_8_method_14_code (3 : Nat) (Option.none : Option FieldType) ∈ zt := zin (List.mem_append_right _ (List.mem_of_getElem? (i := 543) (rfl))) (by rfl)
theorem q544 : Cond.methodLink "CallExplorer$Runner" (151 : Nat) ({ cls := "CallExplorer$Runner", name := "keepRow", desc := "(I)V" } : MethodName) ∈ zt := zin (List.mem_append_right _ (List.mem_of_getElem? (i := 544) (by decide +kernel))) (by decide +kernel)
theorem q546 : Cond.instanceMethod ({ cls := "CallExplorer$Runner", name := "keepRow", desc := "(I)V" } : MethodName) ∈ zt := zin (List.mem_append_right _ (List.mem_of_getElem? (i := 546) (by decide +kernel))) (by decide +kernel)
set_option maxRecDepth 100000 in
theorem q547 : Cond.code ({ cls := "CallExplorer$Runner", name := "keepRow", desc := "(I)V" } : MethodName) prog_8_method_15_code (4 : Nat) (Option.none : Option FieldType) ∈ zt := zin (List.mem_append_right _ (List.mem_of_getElem? (i := 547) (rfl))) (by rfl)
theorem q548 : Cond.methodLink "CallExplorer$Runner" (61 : Nat) ({ cls := "CallExplorer$Heap", name := "findFault", desc := "()I" } : MethodName) ∈ zt := zin (List.mem_append_right _ (List.mem_of_getElem? (i := 548) (by decide +kernel))) (by decide +kernel)
theorem q549 : Cond.instanceMethod ({ cls := "CallExplorer$Heap", name := "findFault", desc := "()I" } : MethodName) ∈ zt := zin (List.mem_append_right _ (List.mem_of_getElem? (i := 549) (by decide +kernel))) (by decide +kernel)
theorem q550 : Cond.selects "CallExplorer$Heap" ({ cls := "CallExplorer$Heap", name := "findFault", desc := "()I" } : MethodName) ({ cls := "CallExplorer$Heap", name := "findFault", desc := "()I" } : MethodName) ∈ zt := zin (List.mem_append_right _ (List.mem_of_getElem? (i := 550) (by decide +kernel))) (by decide +kernel)
set_option maxRecDepth 100000 in
theorem q551 : Cond.code ({ cls := "CallExplorer$Heap", name := "findFault", desc := "()I" } : MethodName) prog_6_method_7_code (4 : Nat) (Option.some FieldType.int) ∈ zt := zin (List.mem_append_right _ (List.mem_of_getElem? (i := 551) (rfl))) (by rfl)
theorem q552 : Cond.methodLink "CallExplorer$Heap" (41 : Nat) ({ cls := "CallExplorer$Heap", name := "equal", desc := "(II)Z" } : MethodName) ∈ zt := zin (List.mem_append_right _ (List.mem_of_getElem? (i := 552) (by decide +kernel))) (by decide +kernel)
theorem q553 : Cond.methodLink "CallExplorer$Heap" (44 : Nat) ({ cls := "CallExplorer$Heap", name := "faultOfPair", desc := "(II)I" } : MethodName) ∈ zt := zin (List.mem_append_right _ (List.mem_of_getElem? (i := 553) (by decide +kernel))) (by decide +kernel)
theorem q555 : Cond.instanceMethod ({ cls := "CallExplorer$Heap", name := "faultOfPair", desc := "(II)I" } : MethodName) ∈ zt := zin (List.mem_append_right _ (List.mem_of_getElem? (i := 555) (by decide +kernel))) (by decide +kernel)
set_option maxRecDepth 100000 in
theorem q556 : Cond.code ({ cls := "CallExplorer$Heap", name := "faultOfPair", desc := "(II)I" } : MethodName) prog_6_method_8_code (5 : Nat) (Option.some FieldType.int) ∈ zt := zin (List.mem_append_right _ (List.mem_of_getElem? (i := 556) (rfl))) (by rfl)
theorem q557 : Cond.methodLink "CallExplorer$Heap" (48 : Nat) ({ cls := "CallExplorer$Heap", name := "code", desc := "(I)I" } : MethodName) ∈ zt := zin (List.mem_append_right _ (List.mem_of_getElem? (i := 557) (by decide +kernel))) (by decide +kernel)
theorem q559 : Cond.instanceMethod ({ cls := "CallExplorer$Heap", name := "code", desc := "(I)I" } : MethodName) ∈ zt := zin (List.mem_append_right _ (List.mem_of_getElem? (i := 559) (by decide +kernel))) (by decide +kernel)
set_option maxRecDepth 100000 in
theorem q560 : Cond.code ({ cls := "CallExplorer$Heap", name := "code", desc := "(I)I" } : MethodName) prog_6_method_6_code (2 : Nat) (Option.some FieldType.int) ∈ zt := zin (List.mem_append_right _ (List.mem_of_getElem? (i := 560) (rfl))) (by rfl)
theorem q570 : Cond.methodLink "CallExplorer$Book" (54 : Nat) ({ cls := "CallExplorer$Entry", name := "hasShapeOf", desc := "(LCallExplorer$Runner;)Z" } : MethodName) ∈ zt := zin (List.mem_append_right _ (List.mem_of_getElem? (i := 570) (by decide +kernel))) (by decide +kernel)
theorem q571 : Cond.instanceMethod ({ cls := "CallExplorer$Entry", name := "hasShapeOf", desc := "(LCallExplorer$Runner;)Z" } : MethodName) ∈ zt := zin (List.mem_append_right _ (List.mem_of_getElem? (i := 571) (by decide +kernel))) (by decide +kernel)
theorem q572 : Cond.selects "CallExplorer$Entry" ({ cls := "CallExplorer$Entry", name := "hasShapeOf", desc := "(LCallExplorer$Runner;)Z" } : MethodName) ({ cls := "CallExplorer$Entry", name := "hasShapeOf", desc := "(LCallExplorer$Runner;)Z" } : MethodName) ∈ zt := zin (List.mem_append_right _ (List.mem_of_getElem? (i := 572) (by decide +kernel))) (by decide +kernel)
set_option maxRecDepth 100000 in
theorem q573 : Cond.code ({ cls := "CallExplorer$Entry", name := "hasShapeOf", desc := "(LCallExplorer$Runner;)Z" } : MethodName) prog_4_method_2_code (3 : Nat) (Option.some FieldType.boolean) ∈ zt := zin (List.mem_append_right _ (List.mem_of_getElem? (i := 573) (rfl))) (by rfl)
theorem q582 : Cond.instanceMethod ({ cls := "CallExplorer$Sequence", name := "copy", desc := "(LCallExplorer$Sequence;)V" } : MethodName) ∈ zt := zin (List.mem_append_right _ (List.mem_of_getElem? (i := 582) (by decide +kernel))) (by decide +kernel)
theorem q583 : Cond.selects "CallExplorer$Sequence" ({ cls := "CallExplorer$Sequence", name := "copy", desc := "(LCallExplorer$Sequence;)V" } : MethodName) ({ cls := "CallExplorer$Sequence", name := "copy", desc := "(LCallExplorer$Sequence;)V" } : MethodName) ∈ zt := zin (List.mem_append_right _ (List.mem_of_getElem? (i := 583) (by decide +kernel))) (by decide +kernel)
set_option maxRecDepth 100000 in
theorem q584 : Cond.code ({ cls := "CallExplorer$Sequence", name := "copy", desc := "(LCallExplorer$Sequence;)V" } : MethodName) prog_9_method_10_code (2 : Nat) (Option.none : Option FieldType) ∈ zt := zin (List.mem_append_right _ (List.mem_of_getElem? (i := 584) (rfl))) (by rfl)
theorem q600 : Cond.fieldLink "CallExplorer$Shortener" (26 : Nat) "CallExplorer$Entry" "sequence" "LCallExplorer$Sequence;" ∈ zt := zin (List.mem_append_right _ (List.mem_of_getElem? (i := 600) (by decide +kernel))) (by decide +kernel)
theorem q601 : Cond.fieldLink "CallExplorer$Writer" (19 : Nat) "CallExplorer$Entry" "sequence" "LCallExplorer$Sequence;" ∈ zt := zin (List.mem_append_right _ (List.mem_of_getElem? (i := 601) (by decide +kernel))) (by decide +kernel)
theorem q602 : Cond.fieldLink "CallExplorer$Book" (57 : Nat) "CallExplorer$Entry" "sequence" "LCallExplorer$Sequence;" ∈ zt := zin (List.mem_append_right _ (List.mem_of_getElem? (i := 602) (by decide +kernel))) (by decide +kernel)
theorem q603 : Cond.fieldLink "CallExplorer" (102 : Nat) "CallExplorer$Entry" "sequence" "LCallExplorer$Sequence;" ∈ zt := zin (List.mem_append_right _ (List.mem_of_getElem? (i := 603) (by decide +kernel))) (by decide +kernel)
theorem q604 : Cond.fieldLink "CallExplorer$Grower" (134 : Nat) "CallExplorer$Entry" "sequence" "LCallExplorer$Sequence;" ∈ zt := zin (List.mem_append_right _ (List.mem_of_getElem? (i := 604) (by decide +kernel))) (by decide +kernel)
theorem q606 : Cond.fieldLink "CallExplorer$Book" (53 : Nat) "CallExplorer$Entry" "outcome" "I" ∈ zt := zin (List.mem_append_right _ (List.mem_of_getElem? (i := 606) (by decide +kernel))) (by decide +kernel)
theorem q607 : Cond.fieldLink "CallExplorer$Writer" (61 : Nat) "CallExplorer$Entry" "outcome" "I" ∈ zt := zin (List.mem_append_right _ (List.mem_of_getElem? (i := 607) (by decide +kernel))) (by decide +kernel)
theorem q608 : Cond.fieldLink "CallExplorer$Shortener" (94 : Nat) "CallExplorer$Entry" "outcome" "I" ∈ zt := zin (List.mem_append_right _ (List.mem_of_getElem? (i := 608) (by decide +kernel))) (by decide +kernel)
theorem q609 : Cond.fieldLink "CallExplorer" (83 : Nat) "CallExplorer$Entry" "outcome" "I" ∈ zt := zin (List.mem_append_right _ (List.mem_of_getElem? (i := 609) (by decide +kernel))) (by decide +kernel)
theorem q611 : Cond.fieldLink "CallExplorer$Shortener" (98 : Nat) "CallExplorer$Entry" "detail" "I" ∈ zt := zin (List.mem_append_right _ (List.mem_of_getElem? (i := 611) (by decide +kernel))) (by decide +kernel)
theorem q612 : Cond.fieldLink "CallExplorer$Writer" (64 : Nat) "CallExplorer$Entry" "detail" "I" ∈ zt := zin (List.mem_append_right _ (List.mem_of_getElem? (i := 612) (by decide +kernel))) (by decide +kernel)
theorem q613 : Cond.fieldLink "CallExplorer" (109 : Nat) "CallExplorer$Entry" "detail" "I" ∈ zt := zin (List.mem_append_right _ (List.mem_of_getElem? (i := 613) (by decide +kernel))) (by decide +kernel)
theorem q615 : Cond.fieldLink "CallExplorer$Book" (65 : Nat) "CallExplorer$Entry" "type" "I" ∈ zt := zin (List.mem_append_right _ (List.mem_of_getElem? (i := 615) (by decide +kernel))) (by decide +kernel)
theorem q616 : Cond.fieldLink "CallExplorer" (112 : Nat) "CallExplorer$Entry" "type" "I" ∈ zt := zin (List.mem_append_right _ (List.mem_of_getElem? (i := 616) (by decide +kernel))) (by decide +kernel)
theorem q617 : Cond.fieldLink "CallExplorer$Entry" (36 : Nat) "CallExplorer$Entry" "gave" "I" ∈ zt := zin (List.mem_append_right _ (List.mem_of_getElem? (i := 617) (by decide +kernel))) (by decide +kernel)
theorem q618 : Cond.fieldLink "CallExplorer$Writer" (70 : Nat) "CallExplorer$Entry" "gave" "I" ∈ zt := zin (List.mem_append_right _ (List.mem_of_getElem? (i := 618) (by decide +kernel))) (by decide +kernel)
theorem q619 : Cond.fieldLink "CallExplorer$Entry" (40 : Nat) "CallExplorer$Entry" "number" "I" ∈ zt := zin (List.mem_append_right _ (List.mem_of_getElem? (i := 619) (by decide +kernel))) (by decide +kernel)
theorem q620 : Cond.fieldLink "CallExplorer$Writer" (73 : Nat) "CallExplorer$Entry" "number" "I" ∈ zt := zin (List.mem_append_right _ (List.mem_of_getElem? (i := 620) (by decide +kernel))) (by decide +kernel)
theorem q621 : Cond.fieldLink "CallExplorer" (115 : Nat) "CallExplorer$Entry" "number" "I" ∈ zt := zin (List.mem_append_right _ (List.mem_of_getElem? (i := 621) (by decide +kernel))) (by decide +kernel)
theorem q622 : Cond.fieldLink "CallExplorer$Entry" (54 : Nat) "CallExplorer$Entry" "row" "[I" ∈ zt := zin (List.mem_append_right _ (List.mem_of_getElem? (i := 622) (by decide +kernel))) (by decide +kernel)
theorem q642 : Cond.methodLink "CallExplorer" (79 : Nat) ({ cls := "CallExplorer$Book", name := "get", desc := "(I)LCallExplorer$Entry;" } : MethodName) ∈ zt := zin (List.mem_append_right _ (List.mem_of_getElem? (i := 642) (by decide +kernel))) (by decide +kernel)
theorem q647 : Cond.methodLink "CallExplorer" (92 : Nat) ({ cls := "CallExplorer$Shortener", name := "lowerVariables", desc := "(LCallExplorer$Entry;)V" } : MethodName) ∈ zt := zin (List.mem_append_right _ (List.mem_of_getElem? (i := 647) (by decide +kernel))) (by decide +kernel)
theorem q648 : Cond.instanceMethod ({ cls := "CallExplorer$Shortener", name := "lowerVariables", desc := "(LCallExplorer$Entry;)V" } : MethodName) ∈ zt := zin (List.mem_append_right _ (List.mem_of_getElem? (i := 648) (by decide +kernel))) (by decide +kernel)
theorem q649 : Cond.selects "CallExplorer$Shortener" ({ cls := "CallExplorer$Shortener", name := "lowerVariables", desc := "(LCallExplorer$Entry;)V" } : MethodName) ({ cls := "CallExplorer$Shortener", name := "lowerVariables", desc := "(LCallExplorer$Entry;)V" } : MethodName) ∈ zt := zin (List.mem_append_right _ (List.mem_of_getElem? (i := 649) (by decide +kernel))) (by decide +kernel)
set_option maxRecDepth 100000 in
theorem q650 : Cond.code ({ cls := "CallExplorer$Shortener", name := "lowerVariables", desc := "(LCallExplorer$Entry;)V" } : MethodName) prog_10_method_2_code (5 : Nat) (Option.none : Option FieldType) ∈ zt := zin (List.mem_append_right _ (List.mem_of_getElem? (i := 650) (rfl))) (by rfl)
theorem q651 : Cond.methodLink "CallExplorer$Shortener" (35 : Nat) ({ cls := "CallExplorer$Sequence", name := "isVariable", desc := "(II)Z" } : MethodName) ∈ zt := zin (List.mem_append_right _ (List.mem_of_getElem? (i := 651) (by decide +kernel))) (by decide +kernel)
theorem q652 : Cond.methodLink "CallExplorer$Shortener" (39 : Nat) ({ cls := "CallExplorer$Shortener", name := "lowerInTrial", desc := "(LCallExplorer$Sequence;II)Z" } : MethodName) ∈ zt := zin (List.mem_append_right _ (List.mem_of_getElem? (i := 652) (by decide +kernel))) (by decide +kernel)
theorem q654 : Cond.instanceMethod ({ cls := "CallExplorer$Shortener", name := "lowerInTrial", desc := "(LCallExplorer$Sequence;II)Z" } : MethodName) ∈ zt := zin (List.mem_append_right _ (List.mem_of_getElem? (i := 654) (by decide +kernel))) (by decide +kernel)
set_option maxRecDepth 100000 in
theorem q655 : Cond.code ({ cls := "CallExplorer$Shortener", name := "lowerInTrial", desc := "(LCallExplorer$Sequence;II)Z" } : MethodName) prog_10_method_3_code (7 : Nat) (Option.some FieldType.boolean) ∈ zt := zin (List.mem_append_right _ (List.mem_of_getElem? (i := 655) (rfl))) (by rfl)
theorem q656 : Cond.methodLink "CallExplorer$Shortener" (47 : Nat) ({ cls := "CallExplorer$Sequence", name := "operationOf", desc := "(I)I" } : MethodName) ∈ zt := zin (List.mem_append_right _ (List.mem_of_getElem? (i := 656) (by decide +kernel))) (by decide +kernel)
theorem q657 : Cond.methodLink "CallExplorer$Shortener" (51 : Nat) ({ cls := "CallExplorer$Catalog", name := "argumentType", desc := "(II)I" } : MethodName) ∈ zt := zin (List.mem_append_right _ (List.mem_of_getElem? (i := 657) (by decide +kernel))) (by decide +kernel)
theorem q658 : Cond.methodLink "CallExplorer$Shortener" (57 : Nat) ({ cls := "CallExplorer$Sequence", name := "copy", desc := "(LCallExplorer$Sequence;)V" } : MethodName) ∈ zt := zin (List.mem_append_right _ (List.mem_of_getElem? (i := 658) (by decide +kernel))) (by decide +kernel)
theorem q659 : Cond.methodLink "CallExplorer$Shortener" (61 : Nat) ({ cls := "CallExplorer$Sequence", name := "setArgument", desc := "(IIII)V" } : MethodName) ∈ zt := zin (List.mem_append_right _ (List.mem_of_getElem? (i := 659) (by decide +kernel))) (by decide +kernel)
theorem q660 : Cond.methodLink "CallExplorer$Shortener" (65 : Nat) ({ cls := "CallExplorer$Sequence", name := "content", desc := "(II)I" } : MethodName) ∈ zt := zin (List.mem_append_right _ (List.mem_of_getElem? (i := 660) (by decide +kernel))) (by decide +kernel)
theorem q661 : Cond.methodLink "CallExplorer$Shortener" (72 : Nat) ({ cls := "CallExplorer$Catalog", name := "is", desc := "(II)Z" } : MethodName) ∈ zt := zin (List.mem_append_right _ (List.mem_of_getElem? (i := 661) (by decide +kernel))) (by decide +kernel)
theorem q662 : Cond.methodLink "CallExplorer$Shortener" (43 : Nat) ({ cls := "CallExplorer$Shortener", name := "keepIfSame", desc := "(LCallExplorer$Entry;)V" } : MethodName) ∈ zt := zin (List.mem_append_right _ (List.mem_of_getElem? (i := 662) (by decide +kernel))) (by decide +kernel)
theorem q664 : Cond.instanceMethod ({ cls := "CallExplorer$Shortener", name := "keepIfSame", desc := "(LCallExplorer$Entry;)V" } : MethodName) ∈ zt := zin (List.mem_append_right _ (List.mem_of_getElem? (i := 664) (by decide +kernel))) (by decide +kernel)
set_option maxRecDepth 100000 in
theorem q665 : Cond.code ({ cls := "CallExplorer$Shortener", name := "keepIfSame", desc := "(LCallExplorer$Entry;)V" } : MethodName) prog_10_method_6_code (2 : Nat) (Option.none : Option FieldType) ∈ zt := zin (List.mem_append_right _ (List.mem_of_getElem? (i := 665) (rfl))) (by rfl)
theorem q666 : Cond.methodLink "CallExplorer$Shortener" (86 : Nat) ({ cls := "CallExplorer$Runner", name := "run", desc := "(LCallExplorer$Sequence;)V" } : MethodName) ∈ zt := zin (List.mem_append_right _ (List.mem_of_getElem? (i := 666) (by decide +kernel))) (by decide +kernel)
theorem q667 : Cond.methodLink "CallExplorer" (96 : Nat) ({ cls := "CallExplorer$Shortener", name := "dropStatements", desc := "(LCallExplorer$Entry;)V" } : MethodName) ∈ zt := zin (List.mem_append_right _ (List.mem_of_getElem? (i := 667) (by decide +kernel))) (by decide +kernel)
theorem q668 : Cond.instanceMethod ({ cls := "CallExplorer$Shortener", name := "dropStatements", desc := "(LCallExplorer$Entry;)V" } : MethodName) ∈ zt := zin (List.mem_append_right _ (List.mem_of_getElem? (i := 668) (by decide +kernel))) (by decide +kernel)
theorem q669 : Cond.selects "CallExplorer$Shortener" ({ cls := "CallExplorer$Shortener", name := "dropStatements", desc := "(LCallExplorer$Entry;)V" } : MethodName) ({ cls := "CallExplorer$Shortener", name := "dropStatements", desc := "(LCallExplorer$Entry;)V" } : MethodName) ∈ zt := zin (List.mem_append_right _ (List.mem_of_getElem? (i := 669) (by decide +kernel))) (by decide +kernel)
set_option maxRecDepth 100000 in
theorem q670 : Cond.code ({ cls := "CallExplorer$Shortener", name := "dropStatements", desc := "(LCallExplorer$Entry;)V" } : MethodName) prog_10_method_4_code (3 : Nat) (Option.none : Option FieldType) ∈ zt := zin (List.mem_append_right _ (List.mem_of_getElem? (i := 670) (rfl))) (by rfl)
theorem q671 : Cond.methodLink "CallExplorer$Shortener" (75 : Nat) ({ cls := "CallExplorer$Sequence", name := "usesLater", desc := "(I)Z" } : MethodName) ∈ zt := zin (List.mem_append_right _ (List.mem_of_getElem? (i := 671) (by decide +kernel))) (by decide +kernel)
theorem q672 : Cond.instanceMethod ({ cls := "CallExplorer$Sequence", name := "usesLater", desc := "(I)Z" } : MethodName) ∈ zt := zin (List.mem_append_right _ (List.mem_of_getElem? (i := 672) (by decide +kernel))) (by decide +kernel)
theorem q673 : Cond.selects "CallExplorer$Sequence" ({ cls := "CallExplorer$Sequence", name := "usesLater", desc := "(I)Z" } : MethodName) ({ cls := "CallExplorer$Sequence", name := "usesLater", desc := "(I)Z" } : MethodName) ∈ zt := zin (List.mem_append_right _ (List.mem_of_getElem? (i := 673) (by decide +kernel))) (by decide +kernel)
set_option maxRecDepth 100000 in
theorem q674 : Cond.code ({ cls := "CallExplorer$Sequence", name := "usesLater", desc := "(I)Z" } : MethodName) prog_9_method_12_code (4 : Nat) (Option.some FieldType.boolean) ∈ zt := zin (List.mem_append_right _ (List.mem_of_getElem? (i := 674) (rfl))) (by rfl)
theorem q675 : Cond.methodLink "CallExplorer$Shortener" (79 : Nat) ({ cls := "CallExplorer$Sequence", name := "remove", desc := "(I)V" } : MethodName) ∈ zt := zin (List.mem_append_right _ (List.mem_of_getElem? (i := 675) (by decide +kernel))) (by decide +kernel)
theorem q676 : Cond.instanceMethod ({ cls := "CallExplorer$Sequence", name := "remove", desc := "(I)V" } : MethodName) ∈ zt := zin (List.mem_append_right _ (List.mem_of_getElem? (i := 676) (by decide +kernel))) (by decide +kernel)
theorem q677 : Cond.selects "CallExplorer$Sequence" ({ cls := "CallExplorer$Sequence", name := "remove", desc := "(I)V" } : MethodName) ({ cls := "CallExplorer$Sequence", name := "remove", desc := "(I)V" } : MethodName) ∈ zt := zin (List.mem_append_right _ (List.mem_of_getElem? (i := 677) (by decide +kernel))) (by decide +kernel)
set_option maxRecDepth 100000 in
theorem q678 : Cond.code ({ cls := "CallExplorer$Sequence", name := "remove", desc := "(I)V" } : MethodName) prog_9_method_13_code (3 : Nat) (Option.none : Option FieldType) ∈ zt := zin (List.mem_append_right _ (List.mem_of_getElem? (i := 678) (rfl))) (by rfl)
theorem q679 : Cond.methodLink "CallExplorer" (99 : Nat) ({ cls := "CallExplorer$Shortener", name := "zeroLiterals", desc := "(LCallExplorer$Entry;)V" } : MethodName) ∈ zt := zin (List.mem_append_right _ (List.mem_of_getElem? (i := 679) (by decide +kernel))) (by decide +kernel)
theorem q680 : Cond.instanceMethod ({ cls := "CallExplorer$Shortener", name := "zeroLiterals", desc := "(LCallExplorer$Entry;)V" } : MethodName) ∈ zt := zin (List.mem_append_right _ (List.mem_of_getElem? (i := 680) (by decide +kernel))) (by decide +kernel)
theorem q681 : Cond.selects "CallExplorer$Shortener" ({ cls := "CallExplorer$Shortener", name := "zeroLiterals", desc := "(LCallExplorer$Entry;)V" } : MethodName) ({ cls := "CallExplorer$Shortener", name := "zeroLiterals", desc := "(LCallExplorer$Entry;)V" } : MethodName) ∈ zt := zin (List.mem_append_right _ (List.mem_of_getElem? (i := 681) (by decide +kernel))) (by decide +kernel)
set_option maxRecDepth 100000 in
theorem q682 : Cond.code ({ cls := "CallExplorer$Shortener", name := "zeroLiterals", desc := "(LCallExplorer$Entry;)V" } : MethodName) prog_10_method_5_code (5 : Nat) (Option.none : Option FieldType) ∈ zt := zin (List.mem_append_right _ (List.mem_of_getElem? (i := 682) (rfl))) (by rfl)
theorem q683 : Cond.methodLink "CallExplorer$Shortener" (83 : Nat) ({ cls := "CallExplorer$Sequence", name := "form", desc := "(II)I" } : MethodName) ∈ zt := zin (List.mem_append_right _ (List.mem_of_getElem? (i := 683) (by decide +kernel))) (by decide +kernel)
theorem q700 : Cond.methodLink "CallExplorer" (122 : Nat) ({ cls := "CallExplorer$Writer", name := "write", desc := "(LCallExplorer$Entry;)V" } : MethodName) ∈ zt := zin (List.mem_append_right _ (List.mem_of_getElem? (i := 700) (by decide +kernel))) (by decide +kernel)
theorem q701 : Cond.instanceMethod ({ cls := "CallExplorer$Writer", name := "write", desc := "(LCallExplorer$Entry;)V" } : MethodName) ∈ zt := zin (List.mem_append_right _ (List.mem_of_getElem? (i := 701) (by decide +kernel))) (by decide +kernel)
theorem q702 : Cond.selects "CallExplorer$Writer" ({ cls := "CallExplorer$Writer", name := "write", desc := "(LCallExplorer$Entry;)V" } : MethodName) ({ cls := "CallExplorer$Writer", name := "write", desc := "(LCallExplorer$Entry;)V" } : MethodName) ∈ zt := zin (List.mem_append_right _ (List.mem_of_getElem? (i := 702) (by decide +kernel))) (by decide +kernel)
set_option maxRecDepth 100000 in
theorem q703 : Cond.code ({ cls := "CallExplorer$Writer", name := "write", desc := "(LCallExplorer$Entry;)V" } : MethodName) prog_11_method_2_code (3 : Nat) (Option.none : Option FieldType) ∈ zt := zin (List.mem_append_right _ (List.mem_of_getElem? (i := 703) (rfl))) (by rfl)
theorem q704 : Cond.methodLink "CallExplorer$Writer" (30 : Nat) ({ cls := "CallExplorer$Writer", name := "writeCall", desc := "(LCallExplorer$Sequence;I)V" } : MethodName) ∈ zt := zin (List.mem_append_right _ (List.mem_of_getElem? (i := 704) (by decide +kernel))) (by decide +kernel)
theorem q706 : Cond.instanceMethod ({ cls := "CallExplorer$Writer", name := "writeCall", desc := "(LCallExplorer$Sequence;I)V" } : MethodName) ∈ zt := zin (List.mem_append_right _ (List.mem_of_getElem? (i := 706) (by decide +kernel))) (by decide +kernel)
set_option maxRecDepth 100000 in
theorem q707 : Cond.code ({ cls := "CallExplorer$Writer", name := "writeCall", desc := "(LCallExplorer$Sequence;I)V" } : MethodName) prog_11_method_4_code (4 : Nat) (Option.none : Option FieldType) ∈ zt := zin (List.mem_append_right _ (List.mem_of_getElem? (i := 707) (rfl))) (by rfl)
theorem q708 : Cond.methodLink "CallExplorer$Writer" (38 : Nat) ({ cls := "CallExplorer$Sequence", name := "operationOf", desc := "(I)I" } : MethodName) ∈ zt := zin (List.mem_append_right _ (List.mem_of_getElem? (i := 708) (by decide +kernel))) (by decide +kernel)
theorem q709 : Cond.methodLink "CallExplorer$Writer" (42 : Nat) ({ cls := "CallExplorer$Writer", name := "put", desc := "(C)V" } : MethodName) ∈ zt := zin (List.mem_append_right _ (List.mem_of_getElem? (i := 709) (by decide +kernel))) (by decide +kernel)
theorem q711 : Cond.instanceMethod ({ cls := "CallExplorer$Writer", name := "put", desc := "(C)V" } : MethodName) ∈ zt := zin (List.mem_append_right _ (List.mem_of_getElem? (i := 711) (by decide +kernel))) (by decide +kernel)
set_option maxRecDepth 100000 in
theorem q712 : Cond.code ({ cls := "CallExplorer$Writer", name := "put", desc := "(C)V" } : MethodName) prog_11_method_3_code (2 : Nat) (Option.none : Option FieldType) ∈ zt := zin (List.mem_append_right _ (List.mem_of_getElem? (i := 712) (rfl))) (by rfl)
theorem q713 : Cond.methodLink "CallExplorer$Writer" (46 : Nat) ({ cls := "CallExplorer$Sequence", name := "form", desc := "(II)I" } : MethodName) ∈ zt := zin (List.mem_append_right _ (List.mem_of_getElem? (i := 713) (by decide +kernel))) (by decide +kernel)
theorem q714 : Cond.methodLink "CallExplorer$Writer" (50 : Nat) ({ cls := "CallExplorer$Sequence", name := "content", desc := "(II)I" } : MethodName) ∈ zt := zin (List.mem_append_right _ (List.mem_of_getElem? (i := 714) (by decide +kernel))) (by decide +kernel)
theorem q715 : Cond.methodLink "CallExplorer$Writer" (53 : Nat) ({ cls := "CallExplorer$Writer", name := "writeArgument", desc := "(II)V" } : MethodName) ∈ zt := zin (List.mem_append_right _ (List.mem_of_getElem? (i := 715) (by decide +kernel))) (by decide +kernel)
theorem q717 : Cond.instanceMethod ({ cls := "CallExplorer$Writer", name := "writeArgument", desc := "(II)V" } : MethodName) ∈ zt := zin (List.mem_append_right _ (List.mem_of_getElem? (i := 717) (by decide +kernel))) (by decide +kernel)
set_option maxRecDepth 100000 in
theorem q718 : Cond.code ({ cls := "CallExplorer$Writer", name := "writeArgument", desc := "(II)V" } : MethodName) prog_11_method_5_code (3 : Nat) (Option.none : Option FieldType) ∈ zt := zin (List.mem_append_right _ (List.mem_of_getElem? (i := 718) (rfl))) (by rfl)
theorem q719 : Cond.methodLink "CallExplorer$Writer" (57 : Nat) ({ cls := "CallExplorer$Writer", name := "writeNumber", desc := "(I)V" } : MethodName) ∈ zt := zin (List.mem_append_right _ (List.mem_of_getElem? (i := 719) (by decide +kernel))) (by decide +kernel)
theorem q721 : Cond.instanceMethod ({ cls := "CallExplorer$Writer", name := "writeNumber", desc := "(I)V" } : MethodName) ∈ zt := zin (List.mem_append_right _ (List.mem_of_getElem? (i := 721) (by decide +kernel))) (by decide +kernel)
set_option maxRecDepth 100000 in
theorem q722 : Cond.code ({ cls := "CallExplorer$Writer", name := "writeNumber", desc := "(I)V" } : MethodName) prog_11_method_8_code (7 : Nat) (Option.none : Option FieldType) ∈ zt := zin (List.mem_append_right _ (List.mem_of_getElem? (i := 722) (rfl))) (by rfl)
theorem q725 : Cond.constantLong "CallExplorer$Writer" (80 : Nat) (10 : Int64) ∈ zt := zin (List.mem_append_right _ (List.mem_of_getElem? (i := 725) (by decide +kernel))) (by decide +kernel)
theorem q726 : Cond.methodLink "CallExplorer$Writer" (34 : Nat) ({ cls := "CallExplorer$Writer", name := "writeEnd", desc := "(LCallExplorer$Entry;)V" } : MethodName) ∈ zt := zin (List.mem_append_right _ (List.mem_of_getElem? (i := 726) (by decide +kernel))) (by decide +kernel)
theorem q728 : Cond.instanceMethod ({ cls := "CallExplorer$Writer", name := "writeEnd", desc := "(LCallExplorer$Entry;)V" } : MethodName) ∈ zt := zin (List.mem_append_right _ (List.mem_of_getElem? (i := 728) (by decide +kernel))) (by decide +kernel)
set_option maxRecDepth 100000 in
theorem q729 : Cond.code ({ cls := "CallExplorer$Writer", name := "writeEnd", desc := "(LCallExplorer$Entry;)V" } : MethodName) prog_11_method_6_code (2 : Nat) (Option.none : Option FieldType) ∈ zt := zin (List.mem_append_right _ (List.mem_of_getElem? (i := 729) (rfl))) (by rfl)
theorem q730 : Cond.methodLink "CallExplorer$Writer" (67 : Nat) ({ cls := "CallExplorer$Writer", name := "writeResult", desc := "(LCallExplorer$Entry;)V" } : MethodName) ∈ zt := zin (List.mem_append_right _ (List.mem_of_getElem? (i := 730) (by decide +kernel))) (by decide +kernel)
theorem q732 : Cond.instanceMethod ({ cls := "CallExplorer$Writer", name := "writeResult", desc := "(LCallExplorer$Entry;)V" } : MethodName) ∈ zt := zin (List.mem_append_right _ (List.mem_of_getElem? (i := 732) (by decide +kernel))) (by decide +kernel)
set_option maxRecDepth 100000 in
theorem q733 : Cond.code ({ cls := "CallExplorer$Writer", name := "writeResult", desc := "(LCallExplorer$Entry;)V" } : MethodName) prog_11_method_7_code (2 : Nat) (Option.none : Option FieldType) ∈ zt := zin (List.mem_append_right _ (List.mem_of_getElem? (i := 733) (rfl))) (by rfl)
theorem q738 : Cond.methodLink "CallExplorer" (132 : Nat) ({ cls := "CallExplorer$Reader", name := "addToDraft", desc := "(J)Z" } : MethodName) ∈ zt := zin (List.mem_append_right _ (List.mem_of_getElem? (i := 738) (by decide +kernel))) (by decide +kernel)
theorem q739 : Cond.instanceMethod ({ cls := "CallExplorer$Reader", name := "addToDraft", desc := "(J)Z" } : MethodName) ∈ zt := zin (List.mem_append_right _ (List.mem_of_getElem? (i := 739) (by decide +kernel))) (by decide +kernel)
theorem q740 : Cond.selects "CallExplorer$Reader" ({ cls := "CallExplorer$Reader", name := "addToDraft", desc := "(J)Z" } : MethodName) ({ cls := "CallExplorer$Reader", name := "addToDraft", desc := "(J)Z" } : MethodName) ∈ zt := zin (List.mem_append_right _ (List.mem_of_getElem? (i := 740) (by decide +kernel))) (by decide +kernel)
set_option maxRecDepth 100000 in
theorem q741 : Cond.code ({ cls := "CallExplorer$Reader", name := "addToDraft", desc := "(J)Z" } : MethodName) prog_7_method_2_code (5 : Nat) (Option.some FieldType.boolean) ∈ zt := zin (List.mem_append_right _ (List.mem_of_getElem? (i := 741) (rfl))) (by rfl)
theorem q742 : Cond.methodLink "CallExplorer$Reader" (30 : Nat) ({ cls := "CallExplorer$Reader", name := "countBytes", desc := "(J)I" } : MethodName) ∈ zt := zin (List.mem_append_right _ (List.mem_of_getElem? (i := 742) (by decide +kernel))) (by decide +kernel)
theorem q744 : Cond.instanceMethod ({ cls := "CallExplorer$Reader", name := "countBytes", desc := "(J)I" } : MethodName) ∈ zt := zin (List.mem_append_right _ (List.mem_of_getElem? (i := 744) (by decide +kernel))) (by decide +kernel)
set_option maxRecDepth 100000 in
theorem q745 : Cond.code ({ cls := "CallExplorer$Reader", name := "countBytes", desc := "(J)I" } : MethodName) prog_7_method_3_code (4 : Nat) (Option.some FieldType.int) ∈ zt := zin (List.mem_append_right _ (List.mem_of_getElem? (i := 745) (rfl))) (by rfl)
theorem q746 : Cond.methodLink "CallExplorer$Reader" (34 : Nat) ({ cls := "CallExplorer$Reader", name := "byteOf", desc := "(JI)I" } : MethodName) ∈ zt := zin (List.mem_append_right _ (List.mem_of_getElem? (i := 746) (by decide +kernel))) (by decide +kernel)
theorem q748 : Cond.instanceMethod ({ cls := "CallExplorer$Reader", name := "byteOf", desc := "(JI)I" } : MethodName) ∈ zt := zin (List.mem_append_right _ (List.mem_of_getElem? (i := 748) (by decide +kernel))) (by decide +kernel)
set_option maxRecDepth 100000 in
theorem q749 : Cond.code ({ cls := "CallExplorer$Reader", name := "byteOf", desc := "(JI)I" } : MethodName) prog_7_method_4_code (4 : Nat) (Option.some FieldType.int) ∈ zt := zin (List.mem_append_right _ (List.mem_of_getElem? (i := 749) (rfl))) (by rfl)
theorem q750 : Cond.constantLong "CallExplorer$Reader" (38 : Nat) (255 : Int64) ∈ zt := zin (List.mem_append_right _ (List.mem_of_getElem? (i := 750) (by decide +kernel))) (by decide +kernel)
theorem q755 : Cond.methodLink "CallExplorer" (136 : Nat) ({ cls := "CallExplorer$Reader", name := "read", desc := "()Z" } : MethodName) ∈ zt := zin (List.mem_append_right _ (List.mem_of_getElem? (i := 755) (by decide +kernel))) (by decide +kernel)
theorem q756 : Cond.instanceMethod ({ cls := "CallExplorer$Reader", name := "read", desc := "()Z" } : MethodName) ∈ zt := zin (List.mem_append_right _ (List.mem_of_getElem? (i := 756) (by decide +kernel))) (by decide +kernel)
theorem q757 : Cond.selects "CallExplorer$Reader" ({ cls := "CallExplorer$Reader", name := "read", desc := "()Z" } : MethodName) ({ cls := "CallExplorer$Reader", name := "read", desc := "()Z" } : MethodName) ∈ zt := zin (List.mem_append_right _ (List.mem_of_getElem? (i := 757) (by decide +kernel))) (by decide +kernel)
set_option maxRecDepth 100000 in
theorem q758 : Cond.code ({ cls := "CallExplorer$Reader", name := "read", desc := "()Z" } : MethodName) prog_7_method_5_code (2 : Nat) (Option.some FieldType.boolean) ∈ zt := zin (List.mem_append_right _ (List.mem_of_getElem? (i := 758) (rfl))) (by rfl)
theorem q759 : Cond.methodLink "CallExplorer$Reader" (43 : Nat) ({ cls := "CallExplorer$Sequence", name := "clear", desc := "()V" } : MethodName) ∈ zt := zin (List.mem_append_right _ (List.mem_of_getElem? (i := 759) (by decide +kernel))) (by decide +kernel)
theorem q760 : Cond.methodLink "CallExplorer$Reader" (46 : Nat) ({ cls := "CallExplorer$Reader", name := "isAtEnd", desc := "()Z" } : MethodName) ∈ zt := zin (List.mem_append_right _ (List.mem_of_getElem? (i := 760) (by decide +kernel))) (by decide +kernel)
theorem q762 : Cond.instanceMethod ({ cls := "CallExplorer$Reader", name := "isAtEnd", desc := "()Z" } : MethodName) ∈ zt := zin (List.mem_append_right _ (List.mem_of_getElem? (i := 762) (by decide +kernel))) (by decide +kernel)
set_option maxRecDepth 100000 in
theorem q763 : Cond.code ({ cls := "CallExplorer$Reader", name := "isAtEnd", desc := "()Z" } : MethodName) prog_7_method_9_code (2 : Nat) (Option.some FieldType.boolean) ∈ zt := zin (List.mem_append_right _ (List.mem_of_getElem? (i := 763) (rfl))) (by rfl)
theorem q764 : Cond.methodLink "CallExplorer$Reader" (77 : Nat) ({ cls := "CallExplorer$Reader", name := "peek", desc := "()C" } : MethodName) ∈ zt := zin (List.mem_append_right _ (List.mem_of_getElem? (i := 764) (by decide +kernel))) (by decide +kernel)
theorem q766 : Cond.instanceMethod ({ cls := "CallExplorer$Reader", name := "peek", desc := "()C" } : MethodName) ∈ zt := zin (List.mem_append_right _ (List.mem_of_getElem? (i := 766) (by decide +kernel))) (by decide +kernel)
set_option maxRecDepth 100000 in
theorem q767 : Cond.code ({ cls := "CallExplorer$Reader", name := "peek", desc := "()C" } : MethodName) prog_7_method_7_code (1 : Nat) (Option.some FieldType.char) ∈ zt := zin (List.mem_append_right _ (List.mem_of_getElem? (i := 767) (rfl))) (by rfl)
theorem q768 : Cond.methodLink "CallExplorer$Reader" (50 : Nat) ({ cls := "CallExplorer$Reader", name := "readCall", desc := "()Z" } : MethodName) ∈ zt := zin (List.mem_append_right _ (List.mem_of_getElem? (i := 768) (by decide +kernel))) (by decide +kernel)
theorem q770 : Cond.instanceMethod ({ cls := "CallExplorer$Reader", name := "readCall", desc := "()Z" } : MethodName) ∈ zt := zin (List.mem_append_right _ (List.mem_of_getElem? (i := 770) (by decide +kernel))) (by decide +kernel)
set_option maxRecDepth 100000 in
theorem q771 : Cond.code ({ cls := "CallExplorer$Reader", name := "readCall", desc := "()Z" } : MethodName) prog_7_method_11_code (3 : Nat) (Option.some FieldType.boolean) ∈ zt := zin (List.mem_append_right _ (List.mem_of_getElem? (i := 771) (rfl))) (by rfl)
theorem q772 : Cond.methodLink "CallExplorer$Reader" (86 : Nat) ({ cls := "CallExplorer$Sequence", name := "push", desc := "(I)I" } : MethodName) ∈ zt := zin (List.mem_append_right _ (List.mem_of_getElem? (i := 772) (by decide +kernel))) (by decide +kernel)
theorem q773 : Cond.methodLink "CallExplorer$Reader" (90 : Nat) ({ cls := "CallExplorer$Reader", name := "accept", desc := "(C)Z" } : MethodName) ∈ zt := zin (List.mem_append_right _ (List.mem_of_getElem? (i := 773) (by decide +kernel))) (by decide +kernel)
theorem q775 : Cond.instanceMethod ({ cls := "CallExplorer$Reader", name := "accept", desc := "(C)Z" } : MethodName) ∈ zt := zin (List.mem_append_right _ (List.mem_of_getElem? (i := 775) (by decide +kernel))) (by decide +kernel)
set_option maxRecDepth 100000 in
theorem q776 : Cond.code ({ cls := "CallExplorer$Reader", name := "accept", desc := "(C)Z" } : MethodName) prog_7_method_8_code (2 : Nat) (Option.some FieldType.boolean) ∈ zt := zin (List.mem_append_right _ (List.mem_of_getElem? (i := 776) (rfl))) (by rfl)
theorem q777 : Cond.methodLink "CallExplorer$Reader" (94 : Nat) ({ cls := "CallExplorer$Reader", name := "readArgument", desc := "(II)Z" } : MethodName) ∈ zt := zin (List.mem_append_right _ (List.mem_of_getElem? (i := 777) (by decide +kernel))) (by decide +kernel)
theorem q779 : Cond.instanceMethod ({ cls := "CallExplorer$Reader", name := "readArgument", desc := "(II)Z" } : MethodName) ∈ zt := zin (List.mem_append_right _ (List.mem_of_getElem? (i := 779) (by decide +kernel))) (by decide +kernel)
set_option maxRecDepth 100000 in
theorem q780 : Cond.code ({ cls := "CallExplorer$Reader", name := "readArgument", desc := "(II)Z" } : MethodName) prog_7_method_12_code (5 : Nat) (Option.some FieldType.boolean) ∈ zt := zin (List.mem_append_right _ (List.mem_of_getElem? (i := 780) (rfl))) (by rfl)
theorem q781 : Cond.methodLink "CallExplorer$Reader" (102 : Nat) ({ cls := "CallExplorer$Sequence", name := "operationOf", desc := "(I)I" } : MethodName) ∈ zt := zin (List.mem_append_right _ (List.mem_of_getElem? (i := 781) (by decide +kernel))) (by decide +kernel)
theorem q782 : Cond.methodLink "CallExplorer$Reader" (98 : Nat) ({ cls := "CallExplorer$Catalog", name := "argumentType", desc := "(II)I" } : MethodName) ∈ zt := zin (List.mem_append_right _ (List.mem_of_getElem? (i := 782) (by decide +kernel))) (by decide +kernel)
theorem q783 : Cond.methodLink "CallExplorer$Reader" (105 : Nat) ({ cls := "CallExplorer$Reader", name := "readVariable", desc := "(III)Z" } : MethodName) ∈ zt := zin (List.mem_append_right _ (List.mem_of_getElem? (i := 783) (by decide +kernel))) (by decide +kernel)
theorem q785 : Cond.instanceMethod ({ cls := "CallExplorer$Reader", name := "readVariable", desc := "(III)Z" } : MethodName) ∈ zt := zin (List.mem_append_right _ (List.mem_of_getElem? (i := 785) (by decide +kernel))) (by decide +kernel)
set_option maxRecDepth 100000 in
theorem q786 : Cond.code ({ cls := "CallExplorer$Reader", name := "readVariable", desc := "(III)Z" } : MethodName) prog_7_method_13_code (4 : Nat) (Option.some FieldType.boolean) ∈ zt := zin (List.mem_append_right _ (List.mem_of_getElem? (i := 786) (rfl))) (by rfl)
theorem q787 : Cond.methodLink "CallExplorer$Reader" (119 : Nat) ({ cls := "CallExplorer$Reader", name := "isAtDigit", desc := "()Z" } : MethodName) ∈ zt := zin (List.mem_append_right _ (List.mem_of_getElem? (i := 787) (by decide +kernel))) (by decide +kernel)
theorem q789 : Cond.instanceMethod ({ cls := "CallExplorer$Reader", name := "isAtDigit", desc := "()Z" } : MethodName) ∈ zt := zin (List.mem_append_right _ (List.mem_of_getElem? (i := 789) (by decide +kernel))) (by decide +kernel)
set_option maxRecDepth 100000 in
theorem q790 : Cond.code ({ cls := "CallExplorer$Reader", name := "isAtDigit", desc := "()Z" } : MethodName) prog_7_method_10_code (1 : Nat) (Option.some FieldType.boolean) ∈ zt := zin (List.mem_append_right _ (List.mem_of_getElem? (i := 790) (rfl))) (by rfl)
theorem q791 : Cond.methodLink "CallExplorer$Reader" (113 : Nat) ({ cls := "CallExplorer$Reader", name := "readNumber", desc := "()Z" } : MethodName) ∈ zt := zin (List.mem_append_right _ (List.mem_of_getElem? (i := 791) (by decide +kernel))) (by decide +kernel)
theorem q793 : Cond.instanceMethod ({ cls := "CallExplorer$Reader", name := "readNumber", desc := "()Z" } : MethodName) ∈ zt := zin (List.mem_append_right _ (List.mem_of_getElem? (i := 793) (by decide +kernel))) (by decide +kernel)
set_option maxRecDepth 100000 in
theorem q794 : Cond.code ({ cls := "CallExplorer$Reader", name := "readNumber", desc := "()Z" } : MethodName) prog_7_method_14_code (6 : Nat) (Option.some FieldType.boolean) ∈ zt := zin (List.mem_append_right _ (List.mem_of_getElem? (i := 794) (rfl))) (by rfl)
theorem q795 : Cond.constantLong "CallExplorer$Reader" (129 : Nat) (10 : Int64) ∈ zt := zin (List.mem_append_right _ (List.mem_of_getElem? (i := 795) (by decide +kernel))) (by decide +kernel)
theorem q796 : Cond.methodLink "CallExplorer$Reader" (109 : Nat) ({ cls := "CallExplorer$Sequence", name := "setArgument", desc := "(IIII)V" } : MethodName) ∈ zt := zin (List.mem_append_right _ (List.mem_of_getElem? (i := 796) (by decide +kernel))) (by decide +kernel)
theorem q797 : Cond.methodLink "CallExplorer$Reader" (126 : Nat) ({ cls := "CallExplorer$Catalog", name := "is", desc := "(II)Z" } : MethodName) ∈ zt := zin (List.mem_append_right _ (List.mem_of_getElem? (i := 797) (by decide +kernel))) (by decide +kernel)
theorem q798 : Cond.methodLink "CallExplorer$Reader" (56 : Nat) ({ cls := "CallExplorer$Reader", name := "readEnd", desc := "()Z" } : MethodName) ∈ zt := zin (List.mem_append_right _ (List.mem_of_getElem? (i := 798) (by decide +kernel))) (by decide +kernel)
theorem q800 : Cond.instanceMethod ({ cls := "CallExplorer$Reader", name := "readEnd", desc := "()Z" } : MethodName) ∈ zt := zin (List.mem_append_right _ (List.mem_of_getElem? (i := 800) (by decide +kernel))) (by decide +kernel)
set_option maxRecDepth 100000 in
theorem q801 : Cond.code ({ cls := "CallExplorer$Reader", name := "readEnd", desc := "()Z" } : MethodName) prog_7_method_15_code (1 : Nat) (Option.some FieldType.boolean) ∈ zt := zin (List.mem_append_right _ (List.mem_of_getElem? (i := 801) (rfl))) (by rfl)
theorem q802 : Cond.methodLink "CallExplorer$Reader" (131 : Nat) ({ cls := "CallExplorer$Reader", name := "readDetail", desc := "(I)Z" } : MethodName) ∈ zt := zin (List.mem_append_right _ (List.mem_of_getElem? (i := 802) (by decide +kernel))) (by decide +kernel)
theorem q804 : Cond.instanceMethod ({ cls := "CallExplorer$Reader", name := "readDetail", desc := "(I)Z" } : MethodName) ∈ zt := zin (List.mem_append_right _ (List.mem_of_getElem? (i := 804) (by decide +kernel))) (by decide +kernel)
set_option maxRecDepth 100000 in
theorem q805 : Cond.code ({ cls := "CallExplorer$Reader", name := "readDetail", desc := "(I)Z" } : MethodName) prog_7_method_16_code (2 : Nat) (Option.some FieldType.boolean) ∈ zt := zin (List.mem_append_right _ (List.mem_of_getElem? (i := 805) (rfl))) (by rfl)
theorem q806 : Cond.methodLink "CallExplorer$Reader" (135 : Nat) ({ cls := "CallExplorer$Reader", name := "readResult", desc := "()Z" } : MethodName) ∈ zt := zin (List.mem_append_right _ (List.mem_of_getElem? (i := 806) (by decide +kernel))) (by decide +kernel)
theorem q808 : Cond.instanceMethod ({ cls := "CallExplorer$Reader", name := "readResult", desc := "()Z" } : MethodName) ∈ zt := zin (List.mem_append_right _ (List.mem_of_getElem? (i := 808) (by decide +kernel))) (by decide +kernel)
set_option maxRecDepth 100000 in
theorem q809 : Cond.code ({ cls := "CallExplorer$Reader", name := "readResult", desc := "()Z" } : MethodName) prog_7_method_17_code (2 : Nat) (Option.some FieldType.boolean) ∈ zt := zin (List.mem_append_right _ (List.mem_of_getElem? (i := 809) (rfl))) (by rfl)
theorem q810 : Cond.methodLink "CallExplorer" (141 : Nat) ({ cls := "CallExplorer$Runner", name := "run", desc := "(LCallExplorer$Sequence;)V" } : MethodName) ∈ zt := zin (List.mem_append_right _ (List.mem_of_getElem? (i := 810) (by decide +kernel))) (by decide +kernel)
theorem q811 : Cond.methodLink "CallExplorer" (145 : Nat) ({ cls := "CallExplorer$Reader", name := "foretold", desc := "(LCallExplorer$Runner;)Z" } : MethodName) ∈ zt := zin (List.mem_append_right _ (List.mem_of_getElem? (i := 811) (by decide +kernel))) (by decide +kernel)
theorem q812 : Cond.instanceMethod ({ cls := "CallExplorer$Reader", name := "foretold", desc := "(LCallExplorer$Runner;)Z" } : MethodName) ∈ zt := zin (List.mem_append_right _ (List.mem_of_getElem? (i := 812) (by decide +kernel))) (by decide +kernel)
theorem q813 : Cond.selects "CallExplorer$Reader" ({ cls := "CallExplorer$Reader", name := "foretold", desc := "(LCallExplorer$Runner;)Z" } : MethodName) ({ cls := "CallExplorer$Reader", name := "foretold", desc := "(LCallExplorer$Runner;)Z" } : MethodName) ∈ zt := zin (List.mem_append_right _ (List.mem_of_getElem? (i := 813) (by decide +kernel))) (by decide +kernel)
set_option maxRecDepth 100000 in
theorem q814 : Cond.code ({ cls := "CallExplorer$Reader", name := "foretold", desc := "(LCallExplorer$Runner;)Z" } : MethodName) prog_7_method_6_code (2 : Nat) (Option.some FieldType.boolean) ∈ zt := zin (List.mem_append_right _ (List.mem_of_getElem? (i := 814) (rfl))) (by rfl)
theorem q828 : Cond.fieldLink "CallExplorerModel" (95 : Nat) "CallExplorerModel" "state" "I" ∈ zt := zin (List.mem_append_right _ (List.mem_of_getElem? (i := 828) (by decide +kernel))) (by decide +kernel)
theorem q829 : Cond.fieldLink "CallExplorerModel" (98 : Nat) "CallExplorerModel" "classes" "I" ∈ zt := zin (List.mem_append_right _ (List.mem_of_getElem? (i := 829) (by decide +kernel))) (by decide +kernel)
theorem q830 : Cond.fieldLink "CallExplorerModel" (7 : Nat) "CallExplorerModel" "parent" "[I" ∈ zt := zin (List.mem_append_right _ (List.mem_of_getElem? (i := 830) (by decide +kernel))) (by decide +kernel)
theorem q831 : Cond.fieldLink "CallExplorerModel" (13 : Nat) "CallExplorerModel" "sense" "[I" ∈ zt := zin (List.mem_append_right _ (List.mem_of_getElem? (i := 831) (by decide +kernel))) (by decide +kernel)
theorem q832 : Cond.fieldLink "CallExplorerModel" (16 : Nat) "CallExplorerModel" "mark" "[I" ∈ zt := zin (List.mem_append_right _ (List.mem_of_getElem? (i := 832) (by decide +kernel))) (by decide +kernel)
theorem q833 : Cond.fieldLink "CallExplorerModel" (101 : Nat) "CallExplorerModel" "operations" "I" ∈ zt := zin (List.mem_append_right _ (List.mem_of_getElem? (i := 833) (by decide +kernel))) (by decide +kernel)
theorem q834 : Cond.fieldLink "CallExplorerModel" (19 : Nat) "CallExplorerModel" "kind" "[I" ∈ zt := zin (List.mem_append_right _ (List.mem_of_getElem? (i := 834) (by decide +kernel))) (by decide +kernel)
theorem q835 : Cond.fieldLink "CallExplorerModel" (22 : Nat) "CallExplorerModel" "first" "[I" ∈ zt := zin (List.mem_append_right _ (List.mem_of_getElem? (i := 835) (by decide +kernel))) (by decide +kernel)
theorem q836 : Cond.fieldLink "CallExplorerModel" (25 : Nat) "CallExplorerModel" "second" "[I" ∈ zt := zin (List.mem_append_right _ (List.mem_of_getElem? (i := 836) (by decide +kernel))) (by decide +kernel)
theorem q837 : Cond.fieldLink "CallExplorerModel" (28 : Nat) "CallExplorerModel" "literals" "I" ∈ zt := zin (List.mem_append_right _ (List.mem_of_getElem? (i := 837) (by decide +kernel))) (by decide +kernel)
theorem q838 : Cond.fieldLink "CallExplorerModel" (32 : Nat) "CallExplorerModel" "literal" "[I" ∈ zt := zin (List.mem_append_right _ (List.mem_of_getElem? (i := 838) (by decide +kernel))) (by decide +kernel)
theorem q839 : Cond.fieldLink "CallExplorerModel" (156 : Nat) "CallExplorerModel" "size" "I" ∈ zt := zin (List.mem_append_right _ (List.mem_of_getElem? (i := 839) (by decide +kernel))) (by decide +kernel)
theorem q840 : Cond.fieldLink "CallExplorerModel" (35 : Nat) "CallExplorerModel" "op" "[I" ∈ zt := zin (List.mem_append_right _ (List.mem_of_getElem? (i := 840) (by decide +kernel))) (by decide +kernel)
theorem q841 : Cond.fieldLink "CallExplorerModel" (38 : Nat) "CallExplorerModel" "how" "[I" ∈ zt := zin (List.mem_append_right _ (List.mem_of_getElem? (i := 841) (by decide +kernel))) (by decide +kernel)
theorem q842 : Cond.fieldLink "CallExplorerModel" (41 : Nat) "CallExplorerModel" "arg" "[I" ∈ zt := zin (List.mem_append_right _ (List.mem_of_getElem? (i := 842) (by decide +kernel))) (by decide +kernel)
theorem q843 : Cond.fieldLink "CallExplorerModel" (44 : Nat) "CallExplorerModel" "nowHow" "[I" ∈ zt := zin (List.mem_append_right _ (List.mem_of_getElem? (i := 843) (by decide +kernel))) (by decide +kernel)
theorem q844 : Cond.fieldLink "CallExplorerModel" (47 : Nat) "CallExplorerModel" "nowArg" "[I" ∈ zt := zin (List.mem_append_right _ (List.mem_of_getElem? (i := 844) (by decide +kernel))) (by decide +kernel)
theorem q845 : Cond.fieldLink "CallExplorerModel" (191 : Nat) "CallExplorerModel" "entries" "I" ∈ zt := zin (List.mem_append_right _ (List.mem_of_getElem? (i := 845) (by decide +kernel))) (by decide +kernel)
theorem q846 : Cond.fieldLink "CallExplorerModel" (50 : Nat) "CallExplorerModel" "sizes" "[I" ∈ zt := zin (List.mem_append_right _ (List.mem_of_getElem? (i := 846) (by decide +kernel))) (by decide +kernel)
theorem q847 : Cond.fieldLink "CallExplorerModel" (53 : Nat) "CallExplorerModel" "ops" "[I" ∈ zt := zin (List.mem_append_right _ (List.mem_of_getElem? (i := 847) (by decide +kernel))) (by decide +kernel)
theorem q848 : Cond.fieldLink "CallExplorerModel" (56 : Nat) "CallExplorerModel" "hows" "[I" ∈ zt := zin (List.mem_append_right _ (List.mem_of_getElem? (i := 848) (by decide +kernel))) (by decide +kernel)
theorem q849 : Cond.fieldLink "CallExplorerModel" (59 : Nat) "CallExplorerModel" "args" "[I" ∈ zt := zin (List.mem_append_right _ (List.mem_of_getElem? (i := 849) (by decide +kernel))) (by decide +kernel)
theorem q850 : Cond.fieldLink "CallExplorerModel" (62 : Nat) "CallExplorerModel" "outcome" "[I" ∈ zt := zin (List.mem_append_right _ (List.mem_of_getElem? (i := 850) (by decide +kernel))) (by decide +kernel)
theorem q851 : Cond.fieldLink "CallExplorerModel" (65 : Nat) "CallExplorerModel" "detail" "[I" ∈ zt := zin (List.mem_append_right _ (List.mem_of_getElem? (i := 851) (by decide +kernel))) (by decide +kernel)
theorem q852 : Cond.fieldLink "CallExplorerModel" (68 : Nat) "CallExplorerModel" "gave" "[I" ∈ zt := zin (List.mem_append_right _ (List.mem_of_getElem? (i := 852) (by decide +kernel))) (by decide +kernel)
theorem q853 : Cond.fieldLink "CallExplorerModel" (111 : Nat) "CallExplorerModel" "objects" "I" ∈ zt := zin (List.mem_append_right _ (List.mem_of_getElem? (i := 853) (by decide +kernel))) (by decide +kernel)
theorem q854 : Cond.fieldLink "CallExplorerModel" (71 : Nat) "CallExplorerModel" "of" "[I" ∈ zt := zin (List.mem_append_right _ (List.mem_of_getElem? (i := 854) (by decide +kernel))) (by decide +kernel)
theorem q855 : Cond.fieldLink "CallExplorerModel" (74 : Nat) "CallExplorerModel" "value" "[I" ∈ zt := zin (List.mem_append_right _ (List.mem_of_getElem? (i := 855) (by decide +kernel))) (by decide +kernel)
theorem q856 : Cond.fieldLink "CallExplorerModel" (77 : Nat) "CallExplorerModel" "next" "[I" ∈ zt := zin (List.mem_append_right _ (List.mem_of_getElem? (i := 856) (by decide +kernel))) (by decide +kernel)
theorem q857 : Cond.fieldLink "CallExplorerModel" (80 : Nat) "CallExplorerModel" "result" "[I" ∈ zt := zin (List.mem_append_right _ (List.mem_of_getElem? (i := 857) (by decide +kernel))) (by decide +kernel)
theorem q858 : Cond.fieldLink "CallExplorerModel" (153 : Nat) "CallExplorerModel" "trouble" "I" ∈ zt := zin (List.mem_append_right _ (List.mem_of_getElem? (i := 858) (by decide +kernel))) (by decide +kernel)
theorem q859 : Cond.fieldLink "CallExplorerModel" (165 : Nat) "CallExplorerModel" "came" "I" ∈ zt := zin (List.mem_append_right _ (List.mem_of_getElem? (i := 859) (by decide +kernel))) (by decide +kernel)
theorem q860 : Cond.fieldLink "CallExplorerModel" (168 : Nat) "CallExplorerModel" "cameBy" "I" ∈ zt := zin (List.mem_append_right _ (List.mem_of_getElem? (i := 860) (by decide +kernel))) (by decide +kernel)
theorem q861 : Cond.fieldLink "CallExplorerModel" (178 : Nat) "CallExplorerModel" "shapeN" "I" ∈ zt := zin (List.mem_append_right _ (List.mem_of_getElem? (i := 861) (by decide +kernel))) (by decide +kernel)
theorem q862 : Cond.fieldLink "CallExplorerModel" (83 : Nat) "CallExplorerModel" "shape" "[I" ∈ zt := zin (List.mem_append_right _ (List.mem_of_getElem? (i := 862) (by decide +kernel))) (by decide +kernel)
theorem q863 : Cond.fieldLink "CallExplorerModel" (188 : Nat) "CallExplorerModel" "wantedN" "I" ∈ zt := zin (List.mem_append_right _ (List.mem_of_getElem? (i := 863) (by decide +kernel))) (by decide +kernel)
theorem q864 : Cond.fieldLink "CallExplorerModel" (86 : Nat) "CallExplorerModel" "wanted" "[I" ∈ zt := zin (List.mem_append_right _ (List.mem_of_getElem? (i := 864) (by decide +kernel))) (by decide +kernel)
theorem q865 : Cond.fieldLink "CallExplorerModel" (276 : Nat) "CallExplorerModel" "drafted" "I" ∈ zt := zin (List.mem_append_right _ (List.mem_of_getElem? (i := 865) (by decide +kernel))) (by decide +kernel)
theorem q866 : Cond.fieldLink "CallExplorerModel" (89 : Nat) "CallExplorerModel" "draft" "[I" ∈ zt := zin (List.mem_append_right _ (List.mem_of_getElem? (i := 866) (by decide +kernel))) (by decide +kernel)
theorem q867 : Cond.fieldLink "CallExplorerModel" (258 : Nat) "CallExplorerModel" "written" "I" ∈ zt := zin (List.mem_append_right _ (List.mem_of_getElem? (i := 867) (by decide +kernel))) (by decide +kernel)
theorem q868 : Cond.fieldLink "CallExplorerModel" (92 : Nat) "CallExplorerModel" "text" "[I" ∈ zt := zin (List.mem_append_right _ (List.mem_of_getElem? (i := 868) (by decide +kernel))) (by decide +kernel)
theorem q869 : Cond.fieldLink "CallExplorerModel" (281 : Nat) "CallExplorerModel" "at" "I" ∈ zt := zin (List.mem_append_right _ (List.mem_of_getElem? (i := 869) (by decide +kernel))) (by decide +kernel)
theorem q870 : Cond.fieldLink "CallExplorerModel" (284 : Nat) "CallExplorerModel" "bad" "Z" ∈ zt := zin (List.mem_append_right _ (List.mem_of_getElem? (i := 870) (by decide +kernel))) (by decide +kernel)
theorem q966 : Cond.methodLink "CallExplorerModel" (104 : Nat) ({ cls := "CallExplorerModel", name := "isClass", desc := "(I)Z" } : MethodName) ∈ zt := zin (List.mem_append_right _ (List.mem_of_getElem? (i := 966) (by decide +kernel))) (by decide +kernel)
theorem q968 : Cond.instanceMethod ({ cls := "CallExplorerModel", name := "isClass", desc := "(I)Z" } : MethodName) ∈ zt := zin (List.mem_append_right _ (List.mem_of_getElem? (i := 968) (by decide +kernel))) (by decide +kernel)
set_option maxRecDepth 100000 in
theorem q969 : Cond.code ({ cls := "CallExplorerModel", name := "isClass", desc := "(I)Z" } : MethodName) prog_13_method_3_code (2 : Nat) (Option.some FieldType.boolean) ∈ zt := zin (List.mem_append_right _ (List.mem_of_getElem? (i := 969) (rfl))) (by rfl)
theorem q970 : Cond.methodLink "CallExplorerModel" (108 : Nat) ({ cls := "CallExplorerModel", name := "hasD", desc := "(I)Z" } : MethodName) ∈ zt := zin (List.mem_append_right _ (List.mem_of_getElem? (i := 970) (by decide +kernel))) (by decide +kernel)
theorem q971 : Cond.static ({ cls := "CallExplorerModel", name := "hasD", desc := "(I)Z" } : MethodName) ∈ zt := zin (List.mem_append_right _ (List.mem_of_getElem? (i := 971) (by decide +kernel))) (by decide +kernel)
set_option maxRecDepth 100000 in
theorem q972 : Cond.code ({ cls := "CallExplorerModel", name := "hasD", desc := "(I)Z" } : MethodName) prog_13_method_4_code (1 : Nat) (Option.some FieldType.boolean) ∈ zt := zin (List.mem_append_right _ (List.mem_of_getElem? (i := 972) (rfl))) (by rfl)
theorem q978 : Cond.instanceMethod ({ cls := "CallExplorerModel", name := "step", desc := "()I" } : MethodName) ∈ zt := zin (List.mem_append_right _ (List.mem_of_getElem? (i := 978) (by decide +kernel))) (by decide +kernel)
theorem q979 : Cond.selects "CallExplorerModel" ({ cls := "CallExplorerModel", name := "step", desc := "()I" } : MethodName) ({ cls := "CallExplorerModel", name := "step", desc := "()I" } : MethodName) ∈ zt := zin (List.mem_append_right _ (List.mem_of_getElem? (i := 979) (by decide +kernel))) (by decide +kernel)
set_option maxRecDepth 100000 in
theorem q980 : Cond.code ({ cls := "CallExplorerModel", name := "step", desc := "()I" } : MethodName) prog_13_method_37_code (4 : Nat) (Option.some FieldType.int) ∈ zt := zin (List.mem_append_right _ (List.mem_of_getElem? (i := 980) (rfl))) (by rfl)
theorem q981 : Cond.methodLink "CallExplorerModel" (214 : Nat) ({ cls := "CallExplorerModel", name := "random", desc := "(I)I" } : MethodName) ∈ zt := zin (List.mem_append_right _ (List.mem_of_getElem? (i := 981) (by decide +kernel))) (by decide +kernel)
theorem q983 : Cond.instanceMethod ({ cls := "CallExplorerModel", name := "random", desc := "(I)I" } : MethodName) ∈ zt := zin (List.mem_append_right _ (List.mem_of_getElem? (i := 983) (by decide +kernel))) (by decide +kernel)
set_option maxRecDepth 100000 in
theorem q984 : Cond.code ({ cls := "CallExplorerModel", name := "random", desc := "(I)I" } : MethodName) prog_13_method_30_code (2 : Nat) (Option.some FieldType.int) ∈ zt := zin (List.mem_append_right _ (List.mem_of_getElem? (i := 984) (rfl))) (by rfl)
theorem q985 : Cond.constant "CallExplorerModel" (204 : Nat) (1103515245 : Int32) ∈ zt := zin (List.mem_append_right _ (List.mem_of_getElem? (i := 985) (by decide +kernel))) (by decide +kernel)
theorem q986 : Cond.methodLink "CallExplorerModel" (122 : Nat) ({ cls := "CallExplorerModel", name := "arity", desc := "(I)I" } : MethodName) ∈ zt := zin (List.mem_append_right _ (List.mem_of_getElem? (i := 986) (by decide +kernel))) (by decide +kernel)
theorem q987 : Cond.static ({ cls := "CallExplorerModel", name := "arity", desc := "(I)I" } : MethodName) ∈ zt := zin (List.mem_append_right _ (List.mem_of_getElem? (i := 987) (by decide +kernel))) (by decide +kernel)
set_option maxRecDepth 100000 in
theorem q988 : Cond.code ({ cls := "CallExplorerModel", name := "arity", desc := "(I)I" } : MethodName) prog_13_method_8_code (1 : Nat) (Option.some FieldType.int) ∈ zt := zin (List.mem_append_right _ (List.mem_of_getElem? (i := 988) (rfl))) (by rfl)
theorem q989 : Cond.methodLink "CallExplorerModel" (150 : Nat) ({ cls := "CallExplorerModel", name := "wants", desc := "(II)I" } : MethodName) ∈ zt := zin (List.mem_append_right _ (List.mem_of_getElem? (i := 989) (by decide +kernel))) (by decide +kernel)
theorem q991 : Cond.instanceMethod ({ cls := "CallExplorerModel", name := "wants", desc := "(II)I" } : MethodName) ∈ zt := zin (List.mem_append_right _ (List.mem_of_getElem? (i := 991) (by decide +kernel))) (by decide +kernel)
set_option maxRecDepth 100000 in
theorem q992 : Cond.code ({ cls := "CallExplorerModel", name := "wants", desc := "(II)I" } : MethodName) prog_13_method_9_code (4 : Nat) (Option.some FieldType.int) ∈ zt := zin (List.mem_append_right _ (List.mem_of_getElem? (i := 992) (rfl))) (by rfl)
theorem q993 : Cond.methodLink "CallExplorerModel" (224 : Nat) ({ cls := "CallExplorerModel", name := "chosen", desc := "(II)I" } : MethodName) ∈ zt := zin (List.mem_append_right _ (List.mem_of_getElem? (i := 993) (by decide +kernel))) (by decide +kernel)
theorem q995 : Cond.instanceMethod ({ cls := "CallExplorerModel", name := "chosen", desc := "(II)I" } : MethodName) ∈ zt := zin (List.mem_append_right _ (List.mem_of_getElem? (i := 995) (by decide +kernel))) (by decide +kernel)
set_option maxRecDepth 100000 in
theorem q996 : Cond.code ({ cls := "CallExplorerModel", name := "chosen", desc := "(II)I" } : MethodName) prog_13_method_35_code (5 : Nat) (Option.some FieldType.int) ∈ zt := zin (List.mem_append_right _ (List.mem_of_getElem? (i := 996) (rfl))) (by rfl)
theorem q997 : Cond.methodLink "CallExplorerModel" (211 : Nat) ({ cls := "CallExplorerModel", name := "offered", desc := "(I)I" } : MethodName) ∈ zt := zin (List.mem_append_right _ (List.mem_of_getElem? (i := 997) (by decide +kernel))) (by decide +kernel)
theorem q999 : Cond.instanceMethod ({ cls := "CallExplorerModel", name := "offered", desc := "(I)I" } : MethodName) ∈ zt := zin (List.mem_append_right _ (List.mem_of_getElem? (i := 999) (by decide +kernel))) (by decide +kernel)
set_option maxRecDepth 100000 in
theorem q1000 : Cond.code ({ cls := "CallExplorerModel", name := "offered", desc := "(I)I" } : MethodName) prog_13_method_32_code (4 : Nat) (Option.some FieldType.int) ∈ zt := zin (List.mem_append_right _ (List.mem_of_getElem? (i := 1000) (rfl))) (by rfl)
theorem q1001 : Cond.methodLink "CallExplorerModel" (208 : Nat) ({ cls := "CallExplorerModel", name := "offers", desc := "(II)Z" } : MethodName) ∈ zt := zin (List.mem_append_right _ (List.mem_of_getElem? (i := 1001) (by decide +kernel))) (by decide +kernel)
theorem q1003 : Cond.instanceMethod ({ cls := "CallExplorerModel", name := "offers", desc := "(II)Z" } : MethodName) ∈ zt := zin (List.mem_append_right _ (List.mem_of_getElem? (i := 1003) (by decide +kernel))) (by decide +kernel)
set_option maxRecDepth 100000 in
theorem q1004 : Cond.code ({ cls := "CallExplorerModel", name := "offers", desc := "(II)Z" } : MethodName) prog_13_method_31_code (3 : Nat) (Option.some FieldType.boolean) ∈ zt := zin (List.mem_append_right _ (List.mem_of_getElem? (i := 1004) (rfl))) (by rfl)
theorem q1005 : Cond.methodLink "CallExplorerModel" (205 : Nat) ({ cls := "CallExplorerModel", name := "typeOf", desc := "(I)I" } : MethodName) ∈ zt := zin (List.mem_append_right _ (List.mem_of_getElem? (i := 1005) (by decide +kernel))) (by decide +kernel)
theorem q1007 : Cond.instanceMethod ({ cls := "CallExplorerModel", name := "typeOf", desc := "(I)I" } : MethodName) ∈ zt := zin (List.mem_append_right _ (List.mem_of_getElem? (i := 1007) (by decide +kernel))) (by decide +kernel)
set_option maxRecDepth 100000 in
theorem q1008 : Cond.code ({ cls := "CallExplorerModel", name := "typeOf", desc := "(I)I" } : MethodName) prog_13_method_26_code (2 : Nat) (Option.some FieldType.int) ∈ zt := zin (List.mem_append_right _ (List.mem_of_getElem? (i := 1008) (rfl))) (by rfl)
theorem q1009 : Cond.methodLink "CallExplorerModel" (181 : Nat) ({ cls := "CallExplorerModel", name := "gives", desc := "(I)I" } : MethodName) ∈ zt := zin (List.mem_append_right _ (List.mem_of_getElem? (i := 1009) (by decide +kernel))) (by decide +kernel)
theorem q1011 : Cond.instanceMethod ({ cls := "CallExplorerModel", name := "gives", desc := "(I)I" } : MethodName) ∈ zt := zin (List.mem_append_right _ (List.mem_of_getElem? (i := 1011) (by decide +kernel))) (by decide +kernel)
set_option maxRecDepth 100000 in
theorem q1012 : Cond.code ({ cls := "CallExplorerModel", name := "gives", desc := "(I)I" } : MethodName) prog_13_method_10_code (3 : Nat) (Option.some FieldType.int) ∈ zt := zin (List.mem_append_right _ (List.mem_of_getElem? (i := 1012) (rfl))) (by rfl)
theorem q1013 : Cond.methodLink "CallExplorerModel" (138 : Nat) ({ cls := "CallExplorerModel", name := "is", desc := "(II)Z" } : MethodName) ∈ zt := zin (List.mem_append_right _ (List.mem_of_getElem? (i := 1013) (by decide +kernel))) (by decide +kernel)
theorem q1015 : Cond.instanceMethod ({ cls := "CallExplorerModel", name := "is", desc := "(II)Z" } : MethodName) ∈ zt := zin (List.mem_append_right _ (List.mem_of_getElem? (i := 1015) (by decide +kernel))) (by decide +kernel)
set_option maxRecDepth 100000 in
theorem q1016 : Cond.code ({ cls := "CallExplorerModel", name := "is", desc := "(II)Z" } : MethodName) prog_13_method_7_code (5 : Nat) (Option.some FieldType.boolean) ∈ zt := zin (List.mem_append_right _ (List.mem_of_getElem? (i := 1016) (rfl))) (by rfl)
theorem q1017 : Cond.methodLink "CallExplorerModel" (217 : Nat) ({ cls := "CallExplorerModel", name := "take", desc := "(III)V" } : MethodName) ∈ zt := zin (List.mem_append_right _ (List.mem_of_getElem? (i := 1017) (by decide +kernel))) (by decide +kernel)
theorem q1019 : Cond.instanceMethod ({ cls := "CallExplorerModel", name := "take", desc := "(III)V" } : MethodName) ∈ zt := zin (List.mem_append_right _ (List.mem_of_getElem? (i := 1019) (by decide +kernel))) (by decide +kernel)
set_option maxRecDepth 100000 in
theorem q1020 : Cond.code ({ cls := "CallExplorerModel", name := "take", desc := "(III)V" } : MethodName) prog_13_method_33_code (9 : Nat) (Option.none : Option FieldType) ∈ zt := zin (List.mem_append_right _ (List.mem_of_getElem? (i := 1020) (rfl))) (by rfl)
theorem q1021 : Cond.methodLink "CallExplorerModel" (184 : Nat) ({ cls := "CallExplorerModel", name := "copyFrom", desc := "(II)V" } : MethodName) ∈ zt := zin (List.mem_append_right _ (List.mem_of_getElem? (i := 1021) (by decide +kernel))) (by decide +kernel)
theorem q1023 : Cond.instanceMethod ({ cls := "CallExplorerModel", name := "copyFrom", desc := "(II)V" } : MethodName) ∈ zt := zin (List.mem_append_right _ (List.mem_of_getElem? (i := 1023) (by decide +kernel))) (by decide +kernel)
set_option maxRecDepth 100000 in
theorem q1024 : Cond.code ({ cls := "CallExplorerModel", name := "copyFrom", desc := "(II)V" } : MethodName) prog_13_method_23_code (4 : Nat) (Option.none : Option FieldType) ∈ zt := zin (List.mem_append_right _ (List.mem_of_getElem? (i := 1024) (rfl))) (by rfl)
theorem q1025 : Cond.methodLink "CallExplorerModel" (221 : Nat) ({ cls := "CallExplorerModel", name := "choose", desc := "(III)V" } : MethodName) ∈ zt := zin (List.mem_append_right _ (List.mem_of_getElem? (i := 1025) (by decide +kernel))) (by decide +kernel)
theorem q1027 : Cond.instanceMethod ({ cls := "CallExplorerModel", name := "choose", desc := "(III)V" } : MethodName) ∈ zt := zin (List.mem_append_right _ (List.mem_of_getElem? (i := 1027) (by decide +kernel))) (by decide +kernel)
set_option maxRecDepth 100000 in
theorem q1028 : Cond.code ({ cls := "CallExplorerModel", name := "choose", desc := "(III)V" } : MethodName) prog_13_method_34_code (4 : Nat) (Option.none : Option FieldType) ∈ zt := zin (List.mem_append_right _ (List.mem_of_getElem? (i := 1028) (rfl))) (by rfl)
theorem q1029 : Cond.methodLink "CallExplorerModel" (227 : Nat) ({ cls := "CallExplorerModel", name := "put", desc := "(I)V" } : MethodName) ∈ zt := zin (List.mem_append_right _ (List.mem_of_getElem? (i := 1029) (by decide +kernel))) (by decide +kernel)
theorem q1031 : Cond.instanceMethod ({ cls := "CallExplorerModel", name := "put", desc := "(I)V" } : MethodName) ∈ zt := zin (List.mem_append_right _ (List.mem_of_getElem? (i := 1031) (by decide +kernel))) (by decide +kernel)
set_option maxRecDepth 100000 in
theorem q1032 : Cond.code ({ cls := "CallExplorerModel", name := "put", desc := "(I)V" } : MethodName) prog_13_method_36_code (4 : Nat) (Option.none : Option FieldType) ∈ zt := zin (List.mem_append_right _ (List.mem_of_getElem? (i := 1032) (rfl))) (by rfl)
theorem q1033 : Cond.methodLink "CallExplorerModel" (230 : Nat) ({ cls := "CallExplorerModel", name := "known", desc := "()Z" } : MethodName) ∈ zt := zin (List.mem_append_right _ (List.mem_of_getElem? (i := 1033) (by decide +kernel))) (by decide +kernel)
theorem q1035 : Cond.instanceMethod ({ cls := "CallExplorerModel", name := "known", desc := "()Z" } : MethodName) ∈ zt := zin (List.mem_append_right _ (List.mem_of_getElem? (i := 1035) (by decide +kernel))) (by decide +kernel)
set_option maxRecDepth 100000 in
theorem q1036 : Cond.code ({ cls := "CallExplorerModel", name := "known", desc := "()Z" } : MethodName) prog_13_method_28_code (5 : Nat) (Option.some FieldType.boolean) ∈ zt := zin (List.mem_append_right _ (List.mem_of_getElem? (i := 1036) (rfl))) (by rfl)
theorem q1037 : Cond.methodLink "CallExplorerModel" (201 : Nat) ({ cls := "CallExplorerModel", name := "alike", desc := "(II)Z" } : MethodName) ∈ zt := zin (List.mem_append_right _ (List.mem_of_getElem? (i := 1037) (by decide +kernel))) (by decide +kernel)
theorem q1039 : Cond.instanceMethod ({ cls := "CallExplorerModel", name := "alike", desc := "(II)Z" } : MethodName) ∈ zt := zin (List.mem_append_right _ (List.mem_of_getElem? (i := 1039) (by decide +kernel))) (by decide +kernel)
set_option maxRecDepth 100000 in
theorem q1040 : Cond.code ({ cls := "CallExplorerModel", name := "alike", desc := "(II)Z" } : MethodName) prog_13_method_29_code (5 : Nat) (Option.some FieldType.boolean) ∈ zt := zin (List.mem_append_right _ (List.mem_of_getElem? (i := 1040) (rfl))) (by rfl)
theorem q1041 : Cond.methodLink "CallExplorerModel" (234 : Nat) ({ cls := "CallExplorerModel", name := "entered", desc := "()I" } : MethodName) ∈ zt := zin (List.mem_append_right _ (List.mem_of_getElem? (i := 1041) (by decide +kernel))) (by decide +kernel)
theorem q1043 : Cond.instanceMethod ({ cls := "CallExplorerModel", name := "entered", desc := "()I" } : MethodName) ∈ zt := zin (List.mem_append_right _ (List.mem_of_getElem? (i := 1043) (by decide +kernel))) (by decide +kernel)
set_option maxRecDepth 100000 in
theorem q1044 : Cond.code ({ cls := "CallExplorerModel", name := "entered", desc := "()I" } : MethodName) prog_13_method_38_code (2 : Nat) (Option.some FieldType.int) ∈ zt := zin (List.mem_append_right _ (List.mem_of_getElem? (i := 1044) (rfl))) (by rfl)
theorem q1045 : Cond.methodLink "CallExplorerModel" (237 : Nat) ({ cls := "CallExplorerModel", name := "store", desc := "(I)V" } : MethodName) ∈ zt := zin (List.mem_append_right _ (List.mem_of_getElem? (i := 1045) (by decide +kernel))) (by decide +kernel)
theorem q1047 : Cond.instanceMethod ({ cls := "CallExplorerModel", name := "store", desc := "(I)V" } : MethodName) ∈ zt := zin (List.mem_append_right _ (List.mem_of_getElem? (i := 1047) (by decide +kernel))) (by decide +kernel)
set_option maxRecDepth 100000 in
theorem q1048 : Cond.code ({ cls := "CallExplorerModel", name := "store", desc := "(I)V" } : MethodName) prog_13_method_25_code (5 : Nat) (Option.none : Option FieldType) ∈ zt := zin (List.mem_append_right _ (List.mem_of_getElem? (i := 1048) (rfl))) (by rfl)
theorem q1049 : Cond.methodLink "CallExplorerModel" (198 : Nat) ({ cls := "CallExplorerModel", name := "run", desc := "()V" } : MethodName) ∈ zt := zin (List.mem_append_right _ (List.mem_of_getElem? (i := 1049) (by decide +kernel))) (by decide +kernel)
theorem q1051 : Cond.instanceMethod ({ cls := "CallExplorerModel", name := "run", desc := "()V" } : MethodName) ∈ zt := zin (List.mem_append_right _ (List.mem_of_getElem? (i := 1051) (by decide +kernel))) (by decide +kernel)
set_option maxRecDepth 100000 in
theorem q1052 : Cond.code ({ cls := "CallExplorerModel", name := "run", desc := "()V" } : MethodName) prog_13_method_21_code (2 : Nat) (Option.none : Option FieldType) ∈ zt := zin (List.mem_append_right _ (List.mem_of_getElem? (i := 1052) (rfl))) (by rfl)
theorem q1053 : Cond.methodLink "CallExplorerModel" (159 : Nat) ({ cls := "CallExplorerModel", name := "perform", desc := "(I)I" } : MethodName) ∈ zt := zin (List.mem_append_right _ (List.mem_of_getElem? (i := 1053) (by decide +kernel))) (by decide +kernel)
theorem q1055 : Cond.instanceMethod ({ cls := "CallExplorerModel", name := "perform", desc := "(I)I" } : MethodName) ∈ zt := zin (List.mem_append_right _ (List.mem_of_getElem? (i := 1055) (by decide +kernel))) (by decide +kernel)
set_option maxRecDepth 100000 in
theorem q1056 : Cond.code ({ cls := "CallExplorerModel", name := "perform", desc := "(I)I" } : MethodName) prog_13_method_14_code (5 : Nat) (Option.some FieldType.int) ∈ zt := zin (List.mem_append_right _ (List.mem_of_getElem? (i := 1056) (rfl))) (by rfl)
theorem q1057 : Cond.methodLink "CallExplorerModel" (118 : Nat) ({ cls := "CallExplorerModel", name := "valueOf", desc := "(II)I" } : MethodName) ∈ zt := zin (List.mem_append_right _ (List.mem_of_getElem? (i := 1057) (by decide +kernel))) (by decide +kernel)
theorem q1059 : Cond.instanceMethod ({ cls := "CallExplorerModel", name := "valueOf", desc := "(II)I" } : MethodName) ∈ zt := zin (List.mem_append_right _ (List.mem_of_getElem? (i := 1059) (by decide +kernel))) (by decide +kernel)
set_option maxRecDepth 100000 in
theorem q1060 : Cond.code ({ cls := "CallExplorerModel", name := "valueOf", desc := "(II)I" } : MethodName) prog_13_method_12_code (4 : Nat) (Option.some FieldType.int) ∈ zt := zin (List.mem_append_right _ (List.mem_of_getElem? (i := 1060) (rfl))) (by rfl)
theorem q1061 : Cond.methodLink "CallExplorerModel" (126 : Nat) ({ cls := "CallExplorerModel", name := "fits", desc := "(J)Z" } : MethodName) ∈ zt := zin (List.mem_append_right _ (List.mem_of_getElem? (i := 1061) (by decide +kernel))) (by decide +kernel)
theorem q1062 : Cond.static ({ cls := "CallExplorerModel", name := "fits", desc := "(J)Z" } : MethodName) ∈ zt := zin (List.mem_append_right _ (List.mem_of_getElem? (i := 1062) (by decide +kernel))) (by decide +kernel)
set_option maxRecDepth 100000 in
theorem q1063 : Cond.code ({ cls := "CallExplorerModel", name := "fits", desc := "(J)Z" } : MethodName) prog_13_method_13_code (2 : Nat) (Option.some FieldType.boolean) ∈ zt := zin (List.mem_append_right _ (List.mem_of_getElem? (i := 1063) (rfl))) (by rfl)
theorem q1064 : Cond.constantLong "CallExplorerModel" (114 : Nat) (-100 : Int64) ∈ zt := zin (List.mem_append_right _ (List.mem_of_getElem? (i := 1064) (by decide +kernel))) (by decide +kernel)
theorem q1065 : Cond.constantLong "CallExplorerModel" (116 : Nat) (100 : Int64) ∈ zt := zin (List.mem_append_right _ (List.mem_of_getElem? (i := 1065) (by decide +kernel))) (by decide +kernel)
theorem q1066 : Cond.methodLink "CallExplorerModel" (130 : Nat) ({ cls := "CallExplorerModel", name := "made", desc := "(III)I" } : MethodName) ∈ zt := zin (List.mem_append_right _ (List.mem_of_getElem? (i := 1066) (by decide +kernel))) (by decide +kernel)
theorem q1068 : Cond.instanceMethod ({ cls := "CallExplorerModel", name := "made", desc := "(III)I" } : MethodName) ∈ zt := zin (List.mem_append_right _ (List.mem_of_getElem? (i := 1068) (by decide +kernel))) (by decide +kernel)
set_option maxRecDepth 100000 in
theorem q1069 : Cond.code ({ cls := "CallExplorerModel", name := "made", desc := "(III)I" } : MethodName) prog_13_method_11_code (4 : Nat) (Option.some FieldType.int) ∈ zt := zin (List.mem_append_right _ (List.mem_of_getElem? (i := 1069) (rfl))) (by rfl)
theorem q1070 : Cond.methodLink "CallExplorerModel" (134 : Nat) ({ cls := "CallExplorerModel", name := "reaches", desc := "(II)Z" } : MethodName) ∈ zt := zin (List.mem_append_right _ (List.mem_of_getElem? (i := 1070) (by decide +kernel))) (by decide +kernel)
theorem q1072 : Cond.instanceMethod ({ cls := "CallExplorerModel", name := "reaches", desc := "(II)Z" } : MethodName) ∈ zt := zin (List.mem_append_right _ (List.mem_of_getElem? (i := 1072) (by decide +kernel))) (by decide +kernel)
set_option maxRecDepth 100000 in
theorem q1073 : Cond.code ({ cls := "CallExplorerModel", name := "reaches", desc := "(II)Z" } : MethodName) prog_13_method_15_code (5 : Nat) (Option.some FieldType.boolean) ∈ zt := zin (List.mem_append_right _ (List.mem_of_getElem? (i := 1073) (rfl))) (by rfl)
theorem q1074 : Cond.methodLink "CallExplorerModel" (141 : Nat) ({ cls := "CallExplorerModel", name := "count", desc := "(I)I" } : MethodName) ∈ zt := zin (List.mem_append_right _ (List.mem_of_getElem? (i := 1074) (by decide +kernel))) (by decide +kernel)
theorem q1076 : Cond.instanceMethod ({ cls := "CallExplorerModel", name := "count", desc := "(I)I" } : MethodName) ∈ zt := zin (List.mem_append_right _ (List.mem_of_getElem? (i := 1076) (by decide +kernel))) (by decide +kernel)
set_option maxRecDepth 100000 in
theorem q1077 : Cond.code ({ cls := "CallExplorerModel", name := "count", desc := "(I)I" } : MethodName) prog_13_method_16_code (4 : Nat) (Option.some FieldType.int) ∈ zt := zin (List.mem_append_right _ (List.mem_of_getElem? (i := 1077) (rfl))) (by rfl)
theorem q1078 : Cond.methodLink "CallExplorerModel" (144 : Nat) ({ cls := "CallExplorerModel", name := "equal", desc := "(II)Z" } : MethodName) ∈ zt := zin (List.mem_append_right _ (List.mem_of_getElem? (i := 1078) (by decide +kernel))) (by decide +kernel)
theorem q1080 : Cond.instanceMethod ({ cls := "CallExplorerModel", name := "equal", desc := "(II)Z" } : MethodName) ∈ zt := zin (List.mem_append_right _ (List.mem_of_getElem? (i := 1080) (by decide +kernel))) (by decide +kernel)
set_option maxRecDepth 100000 in
theorem q1081 : Cond.code ({ cls := "CallExplorerModel", name := "equal", desc := "(II)Z" } : MethodName) prog_13_method_17_code (7 : Nat) (Option.some FieldType.boolean) ∈ zt := zin (List.mem_append_right _ (List.mem_of_getElem? (i := 1081) (rfl))) (by rfl)
theorem q1082 : Cond.methodLink "CallExplorerModel" (162 : Nat) ({ cls := "CallExplorerModel", name := "hadNull", desc := "(I)Z" } : MethodName) ∈ zt := zin (List.mem_append_right _ (List.mem_of_getElem? (i := 1082) (by decide +kernel))) (by decide +kernel)
theorem q1084 : Cond.instanceMethod ({ cls := "CallExplorerModel", name := "hadNull", desc := "(I)Z" } : MethodName) ∈ zt := zin (List.mem_append_right _ (List.mem_of_getElem? (i := 1084) (by decide +kernel))) (by decide +kernel)
set_option maxRecDepth 100000 in
theorem q1085 : Cond.code ({ cls := "CallExplorerModel", name := "hadNull", desc := "(I)Z" } : MethodName) prog_13_method_20_code (4 : Nat) (Option.some FieldType.boolean) ∈ zt := zin (List.mem_append_right _ (List.mem_of_getElem? (i := 1085) (rfl))) (by rfl)
theorem q1086 : Cond.methodLink "CallExplorerModel" (171 : Nat) ({ cls := "CallExplorerModel", name := "unsound", desc := "()I" } : MethodName) ∈ zt := zin (List.mem_append_right _ (List.mem_of_getElem? (i := 1086) (by decide +kernel))) (by decide +kernel)
theorem q1088 : Cond.instanceMethod ({ cls := "CallExplorerModel", name := "unsound", desc := "()I" } : MethodName) ∈ zt := zin (List.mem_append_right _ (List.mem_of_getElem? (i := 1088) (by decide +kernel))) (by decide +kernel)
set_option maxRecDepth 100000 in
theorem q1089 : Cond.code ({ cls := "CallExplorerModel", name := "unsound", desc := "()I" } : MethodName) prog_13_method_19_code (4 : Nat) (Option.some FieldType.int) ∈ zt := zin (List.mem_append_right _ (List.mem_of_getElem? (i := 1089) (rfl))) (by rfl)
theorem q1090 : Cond.methodLink "CallExplorerModel" (147 : Nat) ({ cls := "CallExplorerModel", name := "codeOf", desc := "(I)I" } : MethodName) ∈ zt := zin (List.mem_append_right _ (List.mem_of_getElem? (i := 1090) (by decide +kernel))) (by decide +kernel)
theorem q1092 : Cond.instanceMethod ({ cls := "CallExplorerModel", name := "codeOf", desc := "(I)I" } : MethodName) ∈ zt := zin (List.mem_append_right _ (List.mem_of_getElem? (i := 1092) (by decide +kernel))) (by decide +kernel)
set_option maxRecDepth 100000 in
theorem q1093 : Cond.code ({ cls := "CallExplorerModel", name := "codeOf", desc := "(I)I" } : MethodName) prog_13_method_18_code (2 : Nat) (Option.some FieldType.int) ∈ zt := zin (List.mem_append_right _ (List.mem_of_getElem? (i := 1093) (rfl))) (by rfl)
theorem q1094 : Cond.methodLink "CallExplorerModel" (175 : Nat) ({ cls := "CallExplorerModel", name := "form", desc := "()V" } : MethodName) ∈ zt := zin (List.mem_append_right _ (List.mem_of_getElem? (i := 1094) (by decide +kernel))) (by decide +kernel)
theorem q1096 : Cond.instanceMethod ({ cls := "CallExplorerModel", name := "form", desc := "()V" } : MethodName) ∈ zt := zin (List.mem_append_right _ (List.mem_of_getElem? (i := 1096) (by decide +kernel))) (by decide +kernel)
set_option maxRecDepth 100000 in
theorem q1097 : Cond.code ({ cls := "CallExplorerModel", name := "form", desc := "()V" } : MethodName) prog_13_method_22_code (3 : Nat) (Option.none : Option FieldType) ∈ zt := zin (List.mem_append_right _ (List.mem_of_getElem? (i := 1097) (rfl))) (by rfl)
theorem q1098 : Cond.methodLink "CallExplorerModel" (240 : Nat) ({ cls := "CallExplorerModel", name := "seen", desc := "()Z" } : MethodName) ∈ zt := zin (List.mem_append_right _ (List.mem_of_getElem? (i := 1098) (by decide +kernel))) (by decide +kernel)
theorem q1100 : Cond.instanceMethod ({ cls := "CallExplorerModel", name := "seen", desc := "()Z" } : MethodName) ∈ zt := zin (List.mem_append_right _ (List.mem_of_getElem? (i := 1100) (by decide +kernel))) (by decide +kernel)
set_option maxRecDepth 100000 in
theorem q1101 : Cond.code ({ cls := "CallExplorerModel", name := "seen", desc := "()Z" } : MethodName) prog_13_method_27_code (4 : Nat) (Option.some FieldType.boolean) ∈ zt := zin (List.mem_append_right _ (List.mem_of_getElem? (i := 1101) (rfl))) (by rfl)
theorem q1102 : Cond.methodLink "CallExplorerModel" (194 : Nat) ({ cls := "CallExplorerModel", name := "load", desc := "(I)V" } : MethodName) ∈ zt := zin (List.mem_append_right _ (List.mem_of_getElem? (i := 1102) (by decide +kernel))) (by decide +kernel)
theorem q1104 : Cond.instanceMethod ({ cls := "CallExplorerModel", name := "load", desc := "(I)V" } : MethodName) ∈ zt := zin (List.mem_append_right _ (List.mem_of_getElem? (i := 1104) (by decide +kernel))) (by decide +kernel)
set_option maxRecDepth 100000 in
theorem q1105 : Cond.code ({ cls := "CallExplorerModel", name := "load", desc := "(I)V" } : MethodName) prog_13_method_24_code (3 : Nat) (Option.none : Option FieldType) ∈ zt := zin (List.mem_append_right _ (List.mem_of_getElem? (i := 1105) (rfl))) (by rfl)
theorem q1110 : Cond.methodLink "CallExplorerModel" (243 : Nat) ({ cls := "CallExplorerModel", name := "step", desc := "()I" } : MethodName) ∈ zt := zin (List.mem_append_right _ (List.mem_of_getElem? (i := 1110) (by decide +kernel))) (by decide +kernel)
theorem q1115 : Cond.methodLink "CallExplorerModel" (249 : Nat) ({ cls := "CallExplorerModel", name := "simpler", desc := "(II)V" } : MethodName) ∈ zt := zin (List.mem_append_right _ (List.mem_of_getElem? (i := 1115) (by decide +kernel))) (by decide +kernel)
theorem q1117 : Cond.instanceMethod ({ cls := "CallExplorerModel", name := "simpler", desc := "(II)V" } : MethodName) ∈ zt := zin (List.mem_append_right _ (List.mem_of_getElem? (i := 1117) (by decide +kernel))) (by decide +kernel)
set_option maxRecDepth 100000 in
theorem q1118 : Cond.code ({ cls := "CallExplorerModel", name := "simpler", desc := "(II)V" } : MethodName) prog_13_method_43_code (5 : Nat) (Option.none : Option FieldType) ∈ zt := zin (List.mem_append_right _ (List.mem_of_getElem? (i := 1118) (rfl))) (by rfl)
theorem q1119 : Cond.methodLink "CallExplorerModel" (246 : Nat) ({ cls := "CallExplorerModel", name := "settle", desc := "(I)V" } : MethodName) ∈ zt := zin (List.mem_append_right _ (List.mem_of_getElem? (i := 1119) (by decide +kernel))) (by decide +kernel)
theorem q1121 : Cond.instanceMethod ({ cls := "CallExplorerModel", name := "settle", desc := "(I)V" } : MethodName) ∈ zt := zin (List.mem_append_right _ (List.mem_of_getElem? (i := 1121) (by decide +kernel))) (by decide +kernel)
set_option maxRecDepth 100000 in
theorem q1122 : Cond.code ({ cls := "CallExplorerModel", name := "settle", desc := "(I)V" } : MethodName) prog_13_method_42_code (2 : Nat) (Option.none : Option FieldType) ∈ zt := zin (List.mem_append_right _ (List.mem_of_getElem? (i := 1122) (rfl))) (by rfl)
theorem q1123 : Cond.methodLink "CallExplorerModel" (252 : Nat) ({ cls := "CallExplorerModel", name := "used", desc := "(I)Z" } : MethodName) ∈ zt := zin (List.mem_append_right _ (List.mem_of_getElem? (i := 1123) (by decide +kernel))) (by decide +kernel)
theorem q1125 : Cond.instanceMethod ({ cls := "CallExplorerModel", name := "used", desc := "(I)Z" } : MethodName) ∈ zt := zin (List.mem_append_right _ (List.mem_of_getElem? (i := 1125) (by decide +kernel))) (by decide +kernel)
set_option maxRecDepth 100000 in
theorem q1126 : Cond.code ({ cls := "CallExplorerModel", name := "used", desc := "(I)Z" } : MethodName) prog_13_method_40_code (4 : Nat) (Option.some FieldType.boolean) ∈ zt := zin (List.mem_append_right _ (List.mem_of_getElem? (i := 1126) (rfl))) (by rfl)
theorem q1127 : Cond.methodLink "CallExplorerModel" (255 : Nat) ({ cls := "CallExplorerModel", name := "without", desc := "(I)V" } : MethodName) ∈ zt := zin (List.mem_append_right _ (List.mem_of_getElem? (i := 1127) (by decide +kernel))) (by decide +kernel)
theorem q1129 : Cond.instanceMethod ({ cls := "CallExplorerModel", name := "without", desc := "(I)V" } : MethodName) ∈ zt := zin (List.mem_append_right _ (List.mem_of_getElem? (i := 1129) (by decide +kernel))) (by decide +kernel)
set_option maxRecDepth 100000 in
theorem q1130 : Cond.code ({ cls := "CallExplorerModel", name := "without", desc := "(I)V" } : MethodName) prog_13_method_41_code (4 : Nat) (Option.none : Option FieldType) ∈ zt := zin (List.mem_append_right _ (List.mem_of_getElem? (i := 1130) (rfl))) (by rfl)
theorem q1147 : Cond.methodLink "CallExplorerModel" (273 : Nat) ({ cls := "CallExplorerModel", name := "writeAll", desc := "(I)V" } : MethodName) ∈ zt := zin (List.mem_append_right _ (List.mem_of_getElem? (i := 1147) (by decide +kernel))) (by decide +kernel)
theorem q1149 : Cond.instanceMethod ({ cls := "CallExplorerModel", name := "writeAll", desc := "(I)V" } : MethodName) ∈ zt := zin (List.mem_append_right _ (List.mem_of_getElem? (i := 1149) (by decide +kernel))) (by decide +kernel)
set_option maxRecDepth 100000 in
theorem q1150 : Cond.code ({ cls := "CallExplorerModel", name := "writeAll", desc := "(I)V" } : MethodName) prog_13_method_50_code (5 : Nat) (Option.none : Option FieldType) ∈ zt := zin (List.mem_append_right _ (List.mem_of_getElem? (i := 1150) (rfl))) (by rfl)
theorem q1151 : Cond.methodLink "CallExplorerModel" (261 : Nat) ({ cls := "CallExplorerModel", name := "write", desc := "(I)V" } : MethodName) ∈ zt := zin (List.mem_append_right _ (List.mem_of_getElem? (i := 1151) (by decide +kernel))) (by decide +kernel)
theorem q1153 : Cond.instanceMethod ({ cls := "CallExplorerModel", name := "write", desc := "(I)V" } : MethodName) ∈ zt := zin (List.mem_append_right _ (List.mem_of_getElem? (i := 1153) (by decide +kernel))) (by decide +kernel)
set_option maxRecDepth 100000 in
theorem q1154 : Cond.code ({ cls := "CallExplorerModel", name := "write", desc := "(I)V" } : MethodName) prog_13_method_48_code (2 : Nat) (Option.none : Option FieldType) ∈ zt := zin (List.mem_append_right _ (List.mem_of_getElem? (i := 1154) (rfl))) (by rfl)
theorem q1155 : Cond.methodLink "CallExplorerModel" (270 : Nat) ({ cls := "CallExplorerModel", name := "writeNumber", desc := "(I)V" } : MethodName) ∈ zt := zin (List.mem_append_right _ (List.mem_of_getElem? (i := 1155) (by decide +kernel))) (by decide +kernel)
theorem q1157 : Cond.instanceMethod ({ cls := "CallExplorerModel", name := "writeNumber", desc := "(I)V" } : MethodName) ∈ zt := zin (List.mem_append_right _ (List.mem_of_getElem? (i := 1157) (by decide +kernel))) (by decide +kernel)
set_option maxRecDepth 100000 in
theorem q1158 : Cond.code ({ cls := "CallExplorerModel", name := "writeNumber", desc := "(I)V" } : MethodName) prog_13_method_49_code (6 : Nat) (Option.none : Option FieldType) ∈ zt := zin (List.mem_append_right _ (List.mem_of_getElem? (i := 1158) (rfl))) (by rfl)
theorem q1159 : Cond.constantLong "CallExplorerModel" (264 : Nat) (9 : Int64) ∈ zt := zin (List.mem_append_right _ (List.mem_of_getElem? (i := 1159) (by decide +kernel))) (by decide +kernel)
theorem q1160 : Cond.constantLong "CallExplorerModel" (266 : Nat) (10 : Int64) ∈ zt := zin (List.mem_append_right _ (List.mem_of_getElem? (i := 1160) (by decide +kernel))) (by decide +kernel)
theorem q1161 : Cond.constantLong "CallExplorerModel" (268 : Nat) (48 : Int64) ∈ zt := zin (List.mem_append_right _ (List.mem_of_getElem? (i := 1161) (by decide +kernel))) (by decide +kernel)
theorem q1166 : Cond.constantLong "CallExplorerModel" (279 : Nat) (255 : Int64) ∈ zt := zin (List.mem_append_right _ (List.mem_of_getElem? (i := 1166) (by decide +kernel))) (by decide +kernel)
theorem q1171 : Cond.methodLink "CallExplorerModel" (288 : Nat) ({ cls := "CallExplorerModel", name := "peek", desc := "()I" } : MethodName) ∈ zt := zin (List.mem_append_right _ (List.mem_of_getElem? (i := 1171) (by decide +kernel))) (by decide +kernel)
theorem q1173 : Cond.instanceMethod ({ cls := "CallExplorerModel", name := "peek", desc := "()I" } : MethodName) ∈ zt := zin (List.mem_append_right _ (List.mem_of_getElem? (i := 1173) (by decide +kernel))) (by decide +kernel)
set_option maxRecDepth 100000 in
theorem q1174 : Cond.code ({ cls := "CallExplorerModel", name := "peek", desc := "()I" } : MethodName) prog_13_method_53_code (1 : Nat) (Option.some FieldType.int) ∈ zt := zin (List.mem_append_right _ (List.mem_of_getElem? (i := 1174) (rfl))) (by rfl)
theorem q1175 : Cond.methodLink "CallExplorerModel" (304 : Nat) ({ cls := "CallExplorerModel", name := "readStatement", desc := "()V" } : MethodName) ∈ zt := zin (List.mem_append_right _ (List.mem_of_getElem? (i := 1175) (by decide +kernel))) (by decide +kernel)
theorem q1177 : Cond.instanceMethod ({ cls := "CallExplorerModel", name := "readStatement", desc := "()V" } : MethodName) ∈ zt := zin (List.mem_append_right _ (List.mem_of_getElem? (i := 1177) (by decide +kernel))) (by decide +kernel)
set_option maxRecDepth 100000 in
theorem q1178 : Cond.code ({ cls := "CallExplorerModel", name := "readStatement", desc := "()V" } : MethodName) prog_13_method_58_code (3 : Nat) (Option.none : Option FieldType) ∈ zt := zin (List.mem_append_right _ (List.mem_of_getElem? (i := 1178) (rfl))) (by rfl)
theorem q1179 : Cond.methodLink "CallExplorerModel" (298 : Nat) ({ cls := "CallExplorerModel", name := "expect", desc := "(I)V" } : MethodName) ∈ zt := zin (List.mem_append_right _ (List.mem_of_getElem? (i := 1179) (by decide +kernel))) (by decide +kernel)
theorem q1181 : Cond.instanceMethod ({ cls := "CallExplorerModel", name := "expect", desc := "(I)V" } : MethodName) ∈ zt := zin (List.mem_append_right _ (List.mem_of_getElem? (i := 1181) (by decide +kernel))) (by decide +kernel)
set_option maxRecDepth 100000 in
theorem q1182 : Cond.code ({ cls := "CallExplorerModel", name := "expect", desc := "(I)V" } : MethodName) prog_13_method_54_code (2 : Nat) (Option.none : Option FieldType) ∈ zt := zin (List.mem_append_right _ (List.mem_of_getElem? (i := 1182) (rfl))) (by rfl)
theorem q1183 : Cond.methodLink "CallExplorerModel" (301 : Nat) ({ cls := "CallExplorerModel", name := "readArgument", desc := "(II)V" } : MethodName) ∈ zt := zin (List.mem_append_right _ (List.mem_of_getElem? (i := 1183) (by decide +kernel))) (by decide +kernel)
theorem q1185 : Cond.instanceMethod ({ cls := "CallExplorerModel", name := "readArgument", desc := "(II)V" } : MethodName) ∈ zt := zin (List.mem_append_right _ (List.mem_of_getElem? (i := 1185) (by decide +kernel))) (by decide +kernel)
set_option maxRecDepth 100000 in
theorem q1186 : Cond.code ({ cls := "CallExplorerModel", name := "readArgument", desc := "(II)V" } : MethodName) prog_13_method_57_code (5 : Nat) (Option.none : Option FieldType) ∈ zt := zin (List.mem_append_right _ (List.mem_of_getElem? (i := 1186) (rfl))) (by rfl)
theorem q1187 : Cond.methodLink "CallExplorerModel" (294 : Nat) ({ cls := "CallExplorerModel", name := "number", desc := "(Z)I" } : MethodName) ∈ zt := zin (List.mem_append_right _ (List.mem_of_getElem? (i := 1187) (by decide +kernel))) (by decide +kernel)
theorem q1189 : Cond.instanceMethod ({ cls := "CallExplorerModel", name := "number", desc := "(Z)I" } : MethodName) ∈ zt := zin (List.mem_append_right _ (List.mem_of_getElem? (i := 1189) (by decide +kernel))) (by decide +kernel)
set_option maxRecDepth 100000 in
theorem q1190 : Cond.code ({ cls := "CallExplorerModel", name := "number", desc := "(Z)I" } : MethodName) prog_13_method_56_code (9 : Nat) (Option.some FieldType.int) ∈ zt := zin (List.mem_append_right _ (List.mem_of_getElem? (i := 1190) (rfl))) (by rfl)
theorem q1191 : Cond.methodLink "CallExplorerModel" (291 : Nat) ({ cls := "CallExplorerModel", name := "digit", desc := "(I)Z" } : MethodName) ∈ zt := zin (List.mem_append_right _ (List.mem_of_getElem? (i := 1191) (by decide +kernel))) (by decide +kernel)
theorem q1192 : Cond.static ({ cls := "CallExplorerModel", name := "digit", desc := "(I)Z" } : MethodName) ∈ zt := zin (List.mem_append_right _ (List.mem_of_getElem? (i := 1192) (by decide +kernel))) (by decide +kernel)
set_option maxRecDepth 100000 in
theorem q1193 : Cond.code ({ cls := "CallExplorerModel", name := "digit", desc := "(I)Z" } : MethodName) prog_13_method_55_code (1 : Nat) (Option.some FieldType.boolean) ∈ zt := zin (List.mem_append_right _ (List.mem_of_getElem? (i := 1193) (rfl))) (by rfl)
theorem q1194 : Cond.methodLink "CallExplorerModel" (307 : Nat) ({ cls := "CallExplorerModel", name := "rightEnd", desc := "()Z" } : MethodName) ∈ zt := zin (List.mem_append_right _ (List.mem_of_getElem? (i := 1194) (by decide +kernel))) (by decide +kernel)
theorem q1196 : Cond.instanceMethod ({ cls := "CallExplorerModel", name := "rightEnd", desc := "()Z" } : MethodName) ∈ zt := zin (List.mem_append_right _ (List.mem_of_getElem? (i := 1196) (by decide +kernel))) (by decide +kernel)
set_option maxRecDepth 100000 in
theorem q1197 : Cond.code ({ cls := "CallExplorerModel", name := "rightEnd", desc := "()Z" } : MethodName) prog_13_method_59_code (4 : Nat) (Option.some FieldType.boolean) ∈ zt := zin (List.mem_append_right _ (List.mem_of_getElem? (i := 1197) (rfl))) (by rfl)
theorem caBook_54 : zCal "CallExplorer$Book" 54 yEntry_hasShapeOf "CallExplorer$Entry" bEntry_hasShapeOf 3 (some .boolean) 1 := ⟨q573, q570, q571, q572, q13, rfl, by decide, by decide, by decide +kernel⟩
theorem caBook_61 : zCal "CallExplorer$Book" 61 ySequence_same "CallExplorer$Sequence" bSequence_same 3 (some .boolean) 1 := ⟨q464, q461, q462, q463, q7, rfl, by decide, by decide, by decide +kernel⟩
theorem caBook_68 : zCal "CallExplorer$Book" 68 yCatalog_is "CallExplorer$Catalog" bCatalog_is 5 (some .boolean) 2 := ⟨q403, q400, q401, q402, q2, rfl, by decide, by decide, by decide +kernel⟩
theorem caCatalog_40 : zCal "CallExplorer$Catalog" 40 yCatalog_isClass "CallExplorer$Catalog" bCatalog_isClass 2 (some .boolean) 1 := ⟨q328, q325, q327, qp0, q2, rfl, by decide, by decide, by decide +kernel⟩
theorem caCatalog_44 : zCal "CallExplorer$Catalog" 44 yCatalog_hasPartner "CallExplorer$Catalog" bCatalog_hasPartner 2 (some .boolean) 1 := ⟨q340, q337, q339, qp1, q2, rfl, by decide, by decide, by decide +kernel⟩
theorem caCatalog_50 : zCal "CallExplorer$Catalog" 50 yCatalog_typeOf "CallExplorer$Catalog" bCatalog_typeOf 4 (some .int) 3 := ⟨q350, q347, q349, qp2, q2, rfl, by decide, by decide, by decide +kernel⟩
theorem caGrower_101 : zCal "CallExplorer$Grower" 101 yGrower_chooseObject "CallExplorer$Grower" bGrower_chooseObject 3 (some .int) 2 := ⟨q438, q435, q437, qp9, q6, rfl, by decide, by decide, by decide +kernel⟩
theorem caGrower_104 : zCal "CallExplorer$Grower" 104 yBook_listFresh "CallExplorer$Book" bBook_listFresh 4 (some .int) 1 := ⟨q399, q396, q397, q398, q3, rfl, by decide, by decide, by decide +kernel⟩
theorem caGrower_107 : zCal "CallExplorer$Grower" 107 yGrower_take "CallExplorer$Grower" bGrower_take 5 (some .int) 2 := ⟨q407, q404, q406, qp7, q6, rfl, by decide, by decide, by decide +kernel⟩
theorem caGrower_110 : zCal "CallExplorer$Grower" 110 yGrower_firstFits "CallExplorer$Grower" bGrower_firstFits 2 (some .boolean) 1 := ⟨q442, q439, q441, qp10, q6, rfl, by decide, by decide, by decide +kernel⟩
theorem caGrower_117 : zCal "CallExplorer$Grower" 117 ySequence_operationOf "CallExplorer$Sequence" bSequence_operationOf 2 (some .int) 1 := ⟨q446, q443, q444, q445, q7, rfl, by decide, by decide, by decide +kernel⟩
theorem caGrower_120 : zCal "CallExplorer$Grower" 120 yCatalog_is "CallExplorer$Catalog" bCatalog_is 5 (some .boolean) 2 := ⟨q403, q447, q401, q402, q2, rfl, by decide, by decide, by decide +kernel⟩
theorem caGrower_127 : zCal "CallExplorer$Grower" 127 yBook_get "CallExplorer$Book" bBook_get 2 (some ((.object "CallExplorer$Entry"))) 1 := ⟨q411, q408, q409, q410, q3, rfl, by decide, by decide, by decide +kernel⟩
theorem caGrower_137 : zCal "CallExplorer$Grower" 137 ySequence_append "CallExplorer$Sequence" bSequence_append 3 none 1 := ⟨q415, q412, q413, q414, q7, rfl, by decide, by decide, by decide +kernel⟩
theorem caGrower_140 : zCal "CallExplorer$Grower" 140 ySequence_push "CallExplorer$Sequence" bSequence_push 3 (some .int) 1 := ⟨q455, q452, q453, q454, q7, rfl, by decide, by decide, by decide +kernel⟩
theorem caGrower_143 : zCal "CallExplorer$Grower" 143 ySequence_setArgument "CallExplorer$Sequence" bSequence_setArgument 5 none 4 := ⟨q434, q456, q432, q433, q7, rfl, by decide, by decide, by decide +kernel⟩
theorem caGrower_59 : zCal "CallExplorer$Grower" 59 yGrower_random "CallExplorer$Grower" bGrower_random 2 (some .int) 1 := ⟨q374, q371, q373, qp3, q6, rfl, by decide, by decide, by decide +kernel⟩
theorem caGrower_94 : zCal "CallExplorer$Grower" 94 yGrower_choose "CallExplorer$Grower" bGrower_choose 4 (some .int) 3 := ⟨q391, q388, q390, qp5, q6, rfl, by decide, by decide, by decide +kernel⟩
theorem caGrower_98 : zCal "CallExplorer$Grower" 98 yGrower_chooseNumber "CallExplorer$Grower" bGrower_chooseNumber 2 (some .int) 1 := ⟨q395, q392, q394, qp6, q6, rfl, by decide, by decide, by decide +kernel⟩
theorem caHeap_34 : zCal "CallExplorer$Heap" 34 yCatalog_is "CallExplorer$Catalog" bCatalog_is 5 (some .boolean) 2 := ⟨q403, q535, q401, q402, q2, rfl, by decide, by decide, by decide +kernel⟩
theorem caHeap_41 : zCal "CallExplorer$Heap" 41 yHeap_equal "CallExplorer$Heap" bHeap_equal 7 (some .boolean) 2 := ⟨q534, q552, q532, q533, q5, rfl, by decide, by decide, by decide +kernel⟩
theorem caHeap_44 : zCal "CallExplorer$Heap" 44 yHeap_faultOfPair "CallExplorer$Heap" bHeap_faultOfPair 5 (some .int) 2 := ⟨q556, q553, q555, qp25, q5, rfl, by decide, by decide, by decide +kernel⟩
theorem caHeap_48 : zCal "CallExplorer$Heap" 48 yHeap_code "CallExplorer$Heap" bHeap_code 2 (some .int) 1 := ⟨q560, q557, q559, qp26, q5, rfl, by decide, by decide, by decide +kernel⟩
theorem caMod_104 : zCal "CallExplorerModel" 104 yMod_isClass "CallExplorerModel" bMod_isClass 2 (some .boolean) 1 := ⟨q969, q966, q968, qp49, q11, rfl, by decide, by decide, by decide +kernel⟩
theorem caMod_108 : zCas "CallExplorerModel" 108 yMod_hasD bMod_hasD 1 (some .boolean) 1 := ⟨q972, q970, q971, q11, rfl, by decide, by decide, by decide +kernel⟩
theorem caMod_118 : zCal "CallExplorerModel" 118 yMod_valueOf "CallExplorerModel" bMod_valueOf 4 (some .int) 2 := ⟨q1060, q1057, q1059, qp68, q11, rfl, by decide, by decide, by decide +kernel⟩
theorem caMod_122 : zCas "CallExplorerModel" 122 yMod_arity bMod_arity 1 (some .int) 1 := ⟨q988, q986, q987, q11, rfl, by decide, by decide, by decide +kernel⟩
theorem caMod_126 : zCas "CallExplorerModel" 126 yMod_fits bMod_fits 2 (some .boolean) 1 := ⟨q1063, q1061, q1062, q11, rfl, by decide, by decide, by decide +kernel⟩
theorem caMod_130 : zCal "CallExplorerModel" 130 yMod_made "CallExplorerModel" bMod_made 4 (some .int) 3 := ⟨q1069, q1066, q1068, qp69, q11, rfl, by decide, by decide, by decide +kernel⟩
theorem caMod_134 : zCal "CallExplorerModel" 134 yMod_reaches "CallExplorerModel" bMod_reaches 5 (some .boolean) 2 := ⟨q1073, q1070, q1072, qp70, q11, rfl, by decide, by decide, by decide +kernel⟩
theorem caMod_138 : zCal "CallExplorerModel" 138 yMod_is "CallExplorerModel" bMod_is 5 (some .boolean) 2 := ⟨q1016, q1013, q1015, qp57, q11, rfl, by decide, by decide, by decide +kernel⟩
theorem caMod_141 : zCal "CallExplorerModel" 141 yMod_count "CallExplorerModel" bMod_count 4 (some .int) 1 := ⟨q1077, q1074, q1076, qp71, q11, rfl, by decide, by decide, by decide +kernel⟩
theorem caMod_144 : zCal "CallExplorerModel" 144 yMod_equal "CallExplorerModel" bMod_equal 7 (some .boolean) 2 := ⟨q1081, q1078, q1080, qp72, q11, rfl, by decide, by decide, by decide +kernel⟩
theorem caMod_147 : zCal "CallExplorerModel" 147 yMod_codeOf "CallExplorerModel" bMod_codeOf 2 (some .int) 1 := ⟨q1093, q1090, q1092, qp75, q11, rfl, by decide, by decide, by decide +kernel⟩
theorem caMod_150 : zCal "CallExplorerModel" 150 yMod_wants "CallExplorerModel" bMod_wants 4 (some .int) 2 := ⟨q992, q989, q991, qp51, q11, rfl, by decide, by decide, by decide +kernel⟩
theorem caMod_159 : zCal "CallExplorerModel" 159 yMod_perform "CallExplorerModel" bMod_perform 5 (some .int) 1 := ⟨q1056, q1053, q1055, qp67, q11, rfl, by decide, by decide, by decide +kernel⟩
theorem caMod_162 : zCal "CallExplorerModel" 162 yMod_hadNull "CallExplorerModel" bMod_hadNull 4 (some .boolean) 1 := ⟨q1085, q1082, q1084, qp73, q11, rfl, by decide, by decide, by decide +kernel⟩
theorem caMod_171 : zCal "CallExplorerModel" 171 yMod_unsound "CallExplorerModel" bMod_unsound 4 (some .int) 0 := ⟨q1089, q1086, q1088, qp74, q11, rfl, by decide, by decide, by decide +kernel⟩
theorem caMod_175 : zCal "CallExplorerModel" 175 yMod_form "CallExplorerModel" bMod_form 3 none 0 := ⟨q1097, q1094, q1096, qp76, q11, rfl, by decide, by decide, by decide +kernel⟩
theorem caMod_181 : zCal "CallExplorerModel" 181 yMod_gives "CallExplorerModel" bMod_gives 3 (some .int) 1 := ⟨q1012, q1009, q1011, qp56, q11, rfl, by decide, by decide, by decide +kernel⟩
theorem caMod_184 : zCal "CallExplorerModel" 184 yMod_copyFrom "CallExplorerModel" bMod_copyFrom 4 none 2 := ⟨q1024, q1021, q1023, qp59, q11, rfl, by decide, by decide, by decide +kernel⟩
theorem caMod_194 : zCal "CallExplorerModel" 194 yMod_load "CallExplorerModel" bMod_load 3 none 1 := ⟨q1105, q1102, q1104, qp78, q11, rfl, by decide, by decide, by decide +kernel⟩
theorem caMod_198 : zCal "CallExplorerModel" 198 yMod_run "CallExplorerModel" bMod_run 2 none 0 := ⟨q1052, q1049, q1051, qp66, q11, rfl, by decide, by decide, by decide +kernel⟩
theorem caMod_201 : zCal "CallExplorerModel" 201 yMod_alike "CallExplorerModel" bMod_alike 5 (some .boolean) 2 := ⟨q1040, q1037, q1039, qp63, q11, rfl, by decide, by decide, by decide +kernel⟩
theorem caMod_205 : zCal "CallExplorerModel" 205 yMod_typeOf "CallExplorerModel" bMod_typeOf 2 (some .int) 1 := ⟨q1008, q1005, q1007, qp55, q11, rfl, by decide, by decide, by decide +kernel⟩
theorem caMod_208 : zCal "CallExplorerModel" 208 yMod_offers "CallExplorerModel" bMod_offers 3 (some .boolean) 2 := ⟨q1004, q1001, q1003, qp54, q11, rfl, by decide, by decide, by decide +kernel⟩
theorem caMod_211 : zCal "CallExplorerModel" 211 yMod_offered "CallExplorerModel" bMod_offered 4 (some .int) 1 := ⟨q1000, q997, q999, qp53, q11, rfl, by decide, by decide, by decide +kernel⟩
theorem caMod_214 : zCal "CallExplorerModel" 214 yMod_random "CallExplorerModel" bMod_random 2 (some .int) 1 := ⟨q984, q981, q983, qp50, q11, rfl, by decide, by decide, by decide +kernel⟩
theorem caMod_217 : zCal "CallExplorerModel" 217 yMod_take "CallExplorerModel" bMod_take 9 none 3 := ⟨q1020, q1017, q1019, qp58, q11, rfl, by decide, by decide, by decide +kernel⟩
theorem caMod_221 : zCal "CallExplorerModel" 221 yMod_choose "CallExplorerModel" bMod_choose 4 none 3 := ⟨q1028, q1025, q1027, qp60, q11, rfl, by decide, by decide, by decide +kernel⟩
theorem caMod_224 : zCal "CallExplorerModel" 224 yMod_chosen "CallExplorerModel" bMod_chosen 5 (some .int) 2 := ⟨q996, q993, q995, qp52, q11, rfl, by decide, by decide, by decide +kernel⟩
theorem caMod_227 : zCal "CallExplorerModel" 227 yMod_put "CallExplorerModel" bMod_put 4 none 1 := ⟨q1032, q1029, q1031, qp61, q11, rfl, by decide, by decide, by decide +kernel⟩
theorem caMod_230 : zCal "CallExplorerModel" 230 yMod_known "CallExplorerModel" bMod_known 5 (some .boolean) 0 := ⟨q1036, q1033, q1035, qp62, q11, rfl, by decide, by decide, by decide +kernel⟩
theorem caMod_234 : zCal "CallExplorerModel" 234 yMod_entered "CallExplorerModel" bMod_entered 2 (some .int) 0 := ⟨q1044, q1041, q1043, qp64, q11, rfl, by decide, by decide, by decide +kernel⟩
theorem caMod_237 : zCal "CallExplorerModel" 237 yMod_store "CallExplorerModel" bMod_store 5 none 1 := ⟨q1048, q1045, q1047, qp65, q11, rfl, by decide, by decide, by decide +kernel⟩
theorem caMod_240 : zCal "CallExplorerModel" 240 yMod_seen "CallExplorerModel" bMod_seen 4 (some .boolean) 0 := ⟨q1101, q1098, q1100, qp77, q11, rfl, by decide, by decide, by decide +kernel⟩
theorem caMod_243 : zCal "CallExplorerModel" 243 yMod_step "CallExplorerModel" bMod_step 4 (some .int) 0 := ⟨q980, q1110, q978, q979, q11, rfl, by decide, by decide, by decide +kernel⟩
theorem caMod_246 : zCal "CallExplorerModel" 246 yMod_settle "CallExplorerModel" bMod_settle 2 none 1 := ⟨q1122, q1119, q1121, qp80, q11, rfl, by decide, by decide, by decide +kernel⟩
theorem caMod_249 : zCal "CallExplorerModel" 249 yMod_simpler "CallExplorerModel" bMod_simpler 5 none 2 := ⟨q1118, q1115, q1117, qp79, q11, rfl, by decide, by decide, by decide +kernel⟩
theorem caMod_252 : zCal "CallExplorerModel" 252 yMod_used "CallExplorerModel" bMod_used 4 (some .boolean) 1 := ⟨q1126, q1123, q1125, qp81, q11, rfl, by decide, by decide, by decide +kernel⟩
theorem caMod_255 : zCal "CallExplorerModel" 255 yMod_without "CallExplorerModel" bMod_without 4 none 1 := ⟨q1130, q1127, q1129, qp82, q11, rfl, by decide, by decide, by decide +kernel⟩
theorem caMod_261 : zCal "CallExplorerModel" 261 yMod_write "CallExplorerModel" bMod_write 2 none 1 := ⟨q1154, q1151, q1153, qp84, q11, rfl, by decide, by decide, by decide +kernel⟩
theorem caMod_270 : zCal "CallExplorerModel" 270 yMod_writeNumber "CallExplorerModel" bMod_writeNumber 6 none 1 := ⟨q1158, q1155, q1157, qp85, q11, rfl, by decide, by decide, by decide +kernel⟩
theorem caMod_273 : zCal "CallExplorerModel" 273 yMod_writeAll "CallExplorerModel" bMod_writeAll 5 none 1 := ⟨q1150, q1147, q1149, qp83, q11, rfl, by decide, by decide, by decide +kernel⟩
theorem caMod_288 : zCal "CallExplorerModel" 288 yMod_peek "CallExplorerModel" bMod_peek 1 (some .int) 0 := ⟨q1174, q1171, q1173, qp86, q11, rfl, by decide, by decide, by decide +kernel⟩
theorem caMod_291 : zCas "CallExplorerModel" 291 yMod_digit bMod_digit 1 (some .boolean) 1 := ⟨q1193, q1191, q1192, q11, rfl, by decide, by decide, by decide +kernel⟩
theorem caMod_294 : zCal "CallExplorerModel" 294 yMod_number "CallExplorerModel" bMod_number 9 (some .int) 1 := ⟨q1190, q1187, q1189, qp90, q11, rfl, by decide, by decide, by decide +kernel⟩
theorem caMod_298 : zCal "CallExplorerModel" 298 yMod_expect "CallExplorerModel" bMod_expect 2 none 1 := ⟨q1182, q1179, q1181, qp88, q11, rfl, by decide, by decide, by decide +kernel⟩
theorem caMod_301 : zCal "CallExplorerModel" 301 yMod_readArgument "CallExplorerModel" bMod_readArgument 5 none 2 := ⟨q1186, q1183, q1185, qp89, q11, rfl, by decide, by decide, by decide +kernel⟩
theorem caMod_304 : zCal "CallExplorerModel" 304 yMod_readStatement "CallExplorerModel" bMod_readStatement 3 none 0 := ⟨q1178, q1175, q1177, qp87, q11, rfl, by decide, by decide, by decide +kernel⟩
theorem caMod_307 : zCal "CallExplorerModel" 307 yMod_rightEnd "CallExplorerModel" bMod_rightEnd 4 (some .boolean) 0 := ⟨q1197, q1194, q1196, qp91, q11, rfl, by decide, by decide, by decide +kernel⟩
theorem caReader_102 : zCal "CallExplorer$Reader" 102 ySequence_operationOf "CallExplorer$Sequence" bSequence_operationOf 2 (some .int) 1 := ⟨q446, q781, q444, q445, q7, rfl, by decide, by decide, by decide +kernel⟩
theorem caReader_105 : zCal "CallExplorer$Reader" 105 yReader_readVariable "CallExplorer$Reader" bReader_readVariable 4 (some .boolean) 3 := ⟨q786, q783, q785, qp43, q10, rfl, by decide, by decide, by decide +kernel⟩
theorem caReader_109 : zCal "CallExplorer$Reader" 109 ySequence_setArgument "CallExplorer$Sequence" bSequence_setArgument 5 none 4 := ⟨q434, q796, q432, q433, q7, rfl, by decide, by decide, by decide +kernel⟩
theorem caReader_113 : zCal "CallExplorer$Reader" 113 yReader_readNumber "CallExplorer$Reader" bReader_readNumber 6 (some .boolean) 0 := ⟨q794, q791, q793, qp45, q10, rfl, by decide, by decide, by decide +kernel⟩
theorem caReader_119 : zCal "CallExplorer$Reader" 119 yReader_isAtDigit "CallExplorer$Reader" bReader_isAtDigit 1 (some .boolean) 0 := ⟨q790, q787, q789, qp44, q10, rfl, by decide, by decide, by decide +kernel⟩
theorem caReader_126 : zCal "CallExplorer$Reader" 126 yCatalog_is "CallExplorer$Catalog" bCatalog_is 5 (some .boolean) 2 := ⟨q403, q797, q401, q402, q2, rfl, by decide, by decide, by decide +kernel⟩
theorem caReader_131 : zCal "CallExplorer$Reader" 131 yReader_readDetail "CallExplorer$Reader" bReader_readDetail 2 (some .boolean) 1 := ⟨q805, q802, q804, qp47, q10, rfl, by decide, by decide, by decide +kernel⟩
theorem caReader_135 : zCal "CallExplorer$Reader" 135 yReader_readResult "CallExplorer$Reader" bReader_readResult 2 (some .boolean) 0 := ⟨q809, q806, q808, qp48, q10, rfl, by decide, by decide, by decide +kernel⟩
theorem caReader_30 : zCal "CallExplorer$Reader" 30 yReader_countBytes "CallExplorer$Reader" bReader_countBytes 4 (some .int) 1 := ⟨q745, q742, q744, qp36, q10, rfl, by decide, by decide, by decide +kernel⟩
theorem caReader_34 : zCal "CallExplorer$Reader" 34 yReader_byteOf "CallExplorer$Reader" bReader_byteOf 4 (some .int) 2 := ⟨q749, q746, q748, qp37, q10, rfl, by decide, by decide, by decide +kernel⟩
theorem caReader_43 : zCal "CallExplorer$Reader" 43 ySequence_clear "CallExplorer$Sequence" bSequence_clear 1 none 0 := ⟨q379, q759, q377, q378, q7, rfl, by decide, by decide, by decide +kernel⟩
theorem caReader_46 : zCal "CallExplorer$Reader" 46 yReader_isAtEnd "CallExplorer$Reader" bReader_isAtEnd 2 (some .boolean) 0 := ⟨q763, q760, q762, qp38, q10, rfl, by decide, by decide, by decide +kernel⟩
theorem caReader_50 : zCal "CallExplorer$Reader" 50 yReader_readCall "CallExplorer$Reader" bReader_readCall 3 (some .boolean) 0 := ⟨q771, q768, q770, qp40, q10, rfl, by decide, by decide, by decide +kernel⟩
theorem caReader_56 : zCal "CallExplorer$Reader" 56 yReader_readEnd "CallExplorer$Reader" bReader_readEnd 1 (some .boolean) 0 := ⟨q801, q798, q800, qp46, q10, rfl, by decide, by decide, by decide +kernel⟩
theorem caReader_77 : zCal "CallExplorer$Reader" 77 yReader_peek "CallExplorer$Reader" bReader_peek 1 (some .char) 0 := ⟨q767, q764, q766, qp39, q10, rfl, by decide, by decide, by decide +kernel⟩
theorem caReader_86 : zCal "CallExplorer$Reader" 86 ySequence_push "CallExplorer$Sequence" bSequence_push 3 (some .int) 1 := ⟨q455, q772, q453, q454, q7, rfl, by decide, by decide, by decide +kernel⟩
theorem caReader_90 : zCal "CallExplorer$Reader" 90 yReader_accept "CallExplorer$Reader" bReader_accept 2 (some .boolean) 1 := ⟨q776, q773, q775, qp41, q10, rfl, by decide, by decide, by decide +kernel⟩
theorem caReader_94 : zCal "CallExplorer$Reader" 94 yReader_readArgument "CallExplorer$Reader" bReader_readArgument 5 (some .boolean) 2 := ⟨q780, q777, q779, qp42, q10, rfl, by decide, by decide, by decide +kernel⟩
theorem caReader_98 : zCal "CallExplorer$Reader" 98 yCatalog_argumentType "CallExplorer$Catalog" bCatalog_argumentType 3 (some .int) 2 := ⟨q383, q782, q381, q382, q2, rfl, by decide, by decide, by decide +kernel⟩
theorem caRunner_101 : zCal "CallExplorer$Runner" 101 yRunner_make "CallExplorer$Runner" bRunner_make 4 (some .int) 3 := ⟨q491, q488, q490, qp15, q4, rfl, by decide, by decide, by decide +kernel⟩
theorem caRunner_108 : zCal "CallExplorer$Runner" 108 yHeap_make "CallExplorer$Heap" bHeap_make 5 (some .int) 3 := ⟨q501, q498, q499, q500, q5, rfl, by decide, by decide, by decide +kernel⟩
theorem caRunner_109 : zCal "CallExplorer$Runner" 109 yRunner_give "CallExplorer$Runner" bRunner_give 3 (some .int) 2 := ⟨q505, q502, q504, qp17, q4, rfl, by decide, by decide, by decide +kernel⟩
theorem caRunner_112 : zCal "CallExplorer$Runner" 112 yRunner_add "CallExplorer$Runner" bRunner_add 6 (some .int) 3 := ⟨q509, q506, q508, qp18, q4, rfl, by decide, by decide, by decide +kernel⟩
theorem caRunner_115 : zCal "CallExplorer$Runner" 115 yRunner_link "CallExplorer$Runner" bRunner_link 4 (some .int) 3 := ⟨q513, q510, q512, qp19, q4, rfl, by decide, by decide, by decide +kernel⟩
theorem caRunner_118 : zCal "CallExplorer$Runner" 118 yRunner_getNext "CallExplorer$Runner" bRunner_getNext 5 (some .int) 3 := ⟨q521, q518, q520, qp20, q4, rfl, by decide, by decide, by decide +kernel⟩
theorem caRunner_121 : zCal "CallExplorer$Runner" 121 yRunner_getNextValue "CallExplorer$Runner" bRunner_getNextValue 4 (some .int) 2 := ⟨q526, q523, q525, qp21, q4, rfl, by decide, by decide, by decide +kernel⟩
theorem caRunner_124 : zCal "CallExplorer$Runner" 124 yHeap_chainLength "CallExplorer$Heap" bHeap_chainLength 5 (some .int) 1 := ⟨q530, q527, q528, q529, q5, rfl, by decide, by decide, by decide +kernel⟩
theorem caRunner_127 : zCal "CallExplorer$Runner" 127 yHeap_equal "CallExplorer$Heap" bHeap_equal 7 (some .boolean) 2 := ⟨q534, q531, q532, q533, q5, rfl, by decide, by decide, by decide +kernel⟩
theorem caRunner_131 : zCal "CallExplorer$Runner" 131 yRunner_canBeValue "CallExplorer$Runner" bRunner_canBeValue 3 (some .boolean) 1 := ⟨q495, q492, q494, qp16, q4, rfl, by decide, by decide, by decide +kernel⟩
theorem caRunner_135 : zCal "CallExplorer$Runner" 135 yHeap_reaches "CallExplorer$Heap" bHeap_reaches 5 (some .boolean) 2 := ⟨q517, q514, q515, q516, q5, rfl, by decide, by decide, by decide +kernel⟩
theorem caRunner_144 : zCal "CallExplorer$Runner" 144 yCatalog_is "CallExplorer$Catalog" bCatalog_is 5 (some .boolean) 2 := ⟨q403, q522, q401, q402, q2, rfl, by decide, by decide, by decide +kernel⟩
theorem caRunner_151 : zCal "CallExplorer$Runner" 151 yRunner_keepRow "CallExplorer$Runner" bRunner_keepRow 4 none 1 := ⟨q547, q544, q546, qp24, q4, rfl, by decide, by decide, by decide +kernel⟩
theorem caRunner_49 : zCal "CallExplorer$Runner" 49 yRunner_execute "CallExplorer$Runner" bRunner_execute 6 (some .int) 2 := ⟨q472, q469, q471, qp12, q4, rfl, by decide, by decide, by decide +kernel⟩
theorem caRunner_53 : zCal "CallExplorer$Runner" 53 yRunner_endWithTrouble "CallExplorer$Runner" bRunner_endWithTrouble 5 none 3 := ⟨q539, q536, q538, qp22, q4, rfl, by decide, by decide, by decide +kernel⟩
theorem caRunner_57 : zCal "CallExplorer$Runner" 57 yRunner_keepResult "CallExplorer$Runner" bRunner_keepResult 3 none 1 := ⟨q543, q540, q542, qp23, q4, rfl, by decide, by decide, by decide +kernel⟩
theorem caRunner_61 : zCal "CallExplorer$Runner" 61 yHeap_findFault "CallExplorer$Heap" bHeap_findFault 4 (some .int) 0 := ⟨q551, q548, q549, q550, q5, rfl, by decide, by decide, by decide +kernel⟩
theorem caRunner_71 : zCal "CallExplorer$Runner" 71 yRunner_isNull "CallExplorer$Runner" bRunner_isNull 5 (some .boolean) 3 := ⟨q476, q473, q475, qp13, q4, rfl, by decide, by decide, by decide +kernel⟩
theorem caRunner_75 : zCal "CallExplorer$Runner" 75 ySequence_operationOf "CallExplorer$Sequence" bSequence_operationOf 2 (some .int) 1 := ⟨q446, q477, q444, q445, q7, rfl, by decide, by decide, by decide +kernel⟩
theorem caRunner_79 : zCal "CallExplorer$Runner" 79 yCatalog_argumentType "CallExplorer$Catalog" bCatalog_argumentType 3 (some .int) 2 := ⟨q383, q478, q381, q382, q2, rfl, by decide, by decide, by decide +kernel⟩
theorem caRunner_85 : zCal "CallExplorer$Runner" 85 yRunner_argumentValue "CallExplorer$Runner" bRunner_argumentValue 5 (some .int) 3 := ⟨q482, q479, q481, qp14, q4, rfl, by decide, by decide, by decide +kernel⟩
theorem caRunner_89 : zCal "CallExplorer$Runner" 89 ySequence_content "CallExplorer$Sequence" bSequence_content 3 (some .int) 2 := ⟨q430, q483, q428, q429, q7, rfl, by decide, by decide, by decide +kernel⟩
theorem caRunner_92 : zCal "CallExplorer$Runner" 92 ySequence_form "CallExplorer$Sequence" bSequence_form 3 (some .int) 2 := ⟨q487, q484, q485, q486, q7, rfl, by decide, by decide, by decide +kernel⟩
theorem caSequence_19 : zCal "CallExplorer$Sequence" 19 ySequence_setArgument "CallExplorer$Sequence" bSequence_setArgument 5 none 4 := ⟨q434, q431, q432, q433, q7, rfl, by decide, by decide, by decide +kernel⟩
theorem caSequence_29 : zCal "CallExplorer$Sequence" 29 ySequence_moveVariables "CallExplorer$Sequence" bSequence_moveVariables 6 none 3 := ⟨q422, q419, q421, qp8, q7, rfl, by decide, by decide, by decide +kernel⟩
theorem caSequence_33 : zCal "CallExplorer$Sequence" 33 ySequence_isVariable "CallExplorer$Sequence" bSequence_isVariable 3 (some .boolean) 2 := ⟨q426, q423, q424, q425, q7, rfl, by decide, by decide, by decide +kernel⟩
theorem caSequence_37 : zCal "CallExplorer$Sequence" 37 ySequence_content "CallExplorer$Sequence" bSequence_content 3 (some .int) 2 := ⟨q430, q427, q428, q429, q7, rfl, by decide, by decide, by decide +kernel⟩
theorem caShortener_35 : zCal "CallExplorer$Shortener" 35 ySequence_isVariable "CallExplorer$Sequence" bSequence_isVariable 3 (some .boolean) 2 := ⟨q426, q651, q424, q425, q7, rfl, by decide, by decide, by decide +kernel⟩
theorem caShortener_39 : zCal "CallExplorer$Shortener" 39 yShortener_lowerInTrial "CallExplorer$Shortener" bShortener_lowerInTrial 7 (some .boolean) 3 := ⟨q655, q652, q654, qp28, q8, rfl, by decide, by decide, by decide +kernel⟩
theorem caShortener_43 : zCal "CallExplorer$Shortener" 43 yShortener_keepIfSame "CallExplorer$Shortener" bShortener_keepIfSame 2 none 1 := ⟨q665, q662, q664, qp29, q8, rfl, by decide, by decide, by decide +kernel⟩
theorem caShortener_47 : zCal "CallExplorer$Shortener" 47 ySequence_operationOf "CallExplorer$Sequence" bSequence_operationOf 2 (some .int) 1 := ⟨q446, q656, q444, q445, q7, rfl, by decide, by decide, by decide +kernel⟩
theorem caShortener_51 : zCal "CallExplorer$Shortener" 51 yCatalog_argumentType "CallExplorer$Catalog" bCatalog_argumentType 3 (some .int) 2 := ⟨q383, q657, q381, q382, q2, rfl, by decide, by decide, by decide +kernel⟩
theorem caShortener_57 : zCal "CallExplorer$Shortener" 57 ySequence_copy "CallExplorer$Sequence" bSequence_copy 2 none 1 := ⟨q584, q658, q582, q583, q7, rfl, by decide, by decide, by decide +kernel⟩
theorem caShortener_61 : zCal "CallExplorer$Shortener" 61 ySequence_setArgument "CallExplorer$Sequence" bSequence_setArgument 5 none 4 := ⟨q434, q659, q432, q433, q7, rfl, by decide, by decide, by decide +kernel⟩
theorem caShortener_65 : zCal "CallExplorer$Shortener" 65 ySequence_content "CallExplorer$Sequence" bSequence_content 3 (some .int) 2 := ⟨q430, q660, q428, q429, q7, rfl, by decide, by decide, by decide +kernel⟩
theorem caShortener_72 : zCal "CallExplorer$Shortener" 72 yCatalog_is "CallExplorer$Catalog" bCatalog_is 5 (some .boolean) 2 := ⟨q403, q661, q401, q402, q2, rfl, by decide, by decide, by decide +kernel⟩
theorem caShortener_75 : zCal "CallExplorer$Shortener" 75 ySequence_usesLater "CallExplorer$Sequence" bSequence_usesLater 4 (some .boolean) 1 := ⟨q674, q671, q672, q673, q7, rfl, by decide, by decide, by decide +kernel⟩
theorem caShortener_79 : zCal "CallExplorer$Shortener" 79 ySequence_remove "CallExplorer$Sequence" bSequence_remove 3 none 1 := ⟨q678, q675, q676, q677, q7, rfl, by decide, by decide, by decide +kernel⟩
theorem caShortener_83 : zCal "CallExplorer$Shortener" 83 ySequence_form "CallExplorer$Sequence" bSequence_form 3 (some .int) 2 := ⟨q487, q683, q485, q486, q7, rfl, by decide, by decide, by decide +kernel⟩
theorem caShortener_86 : zCal "CallExplorer$Shortener" 86 yRunner_run "CallExplorer$Runner" bRunner_run 4 none 1 := ⟨q468, q666, q466, q467, q4, rfl, by decide, by decide, by decide +kernel⟩
theorem caTop_122 : zCal "CallExplorer" 122 yWriter_write "CallExplorer$Writer" bWriter_write 3 none 1 := ⟨q703, q700, q701, q702, q9, rfl, by decide, by decide, by decide +kernel⟩
theorem caTop_132 : zCal "CallExplorer" 132 yReader_addToDraft "CallExplorer$Reader" bReader_addToDraft 5 (some .boolean) 1 := ⟨q741, q738, q739, q740, q10, rfl, by decide, by decide, by decide +kernel⟩
theorem caTop_136 : zCal "CallExplorer" 136 yReader_read "CallExplorer$Reader" bReader_read 2 (some .boolean) 0 := ⟨q758, q755, q756, q757, q10, rfl, by decide, by decide, by decide +kernel⟩
theorem caTop_141 : zCal "CallExplorer" 141 yRunner_run "CallExplorer$Runner" bRunner_run 4 none 1 := ⟨q468, q810, q466, q467, q4, rfl, by decide, by decide, by decide +kernel⟩
theorem caTop_145 : zCal "CallExplorer" 145 yReader_foretold "CallExplorer$Reader" bReader_foretold 2 (some .boolean) 1 := ⟨q814, q811, q812, q813, q10, rfl, by decide, by decide, by decide +kernel⟩
theorem caTop_64 : zCal "CallExplorer" 64 yCatalog_addClass "CallExplorer$Catalog" bCatalog_addClass 5 (some .int) 3 := ⟨q324, q321, q322, q323, q2, rfl, by decide, by decide, by decide +kernel⟩
theorem caTop_68 : zCal "CallExplorer" 68 yCatalog_addOperation "CallExplorer$Catalog" bCatalog_addOperation 4 (some .int) 3 := ⟨q336, q333, q334, q335, q2, rfl, by decide, by decide, by decide +kernel⟩
theorem caTop_71 : zCal "CallExplorer" 71 yGrower_addLiteral "CallExplorer$Grower" bGrower_addLiteral 3 (some .int) 1 := ⟨q358, q355, q356, q357, q6, rfl, by decide, by decide, by decide +kernel⟩
theorem caTop_79 : zCal "CallExplorer" 79 yBook_get "CallExplorer$Book" bBook_get 2 (some ((.object "CallExplorer$Entry"))) 1 := ⟨q411, q642, q409, q410, q3, rfl, by decide, by decide, by decide +kernel⟩
theorem caTop_92 : zCal "CallExplorer" 92 yShortener_lowerVariables "CallExplorer$Shortener" bShortener_lowerVariables 5 none 1 := ⟨q650, q647, q648, q649, q8, rfl, by decide, by decide, by decide +kernel⟩
theorem caTop_96 : zCal "CallExplorer" 96 yShortener_dropStatements "CallExplorer$Shortener" bShortener_dropStatements 3 none 1 := ⟨q670, q667, q668, q669, q8, rfl, by decide, by decide, by decide +kernel⟩
theorem caTop_99 : zCal "CallExplorer" 99 yShortener_zeroLiterals "CallExplorer$Shortener" bShortener_zeroLiterals 5 none 1 := ⟨q682, q679, q680, q681, q8, rfl, by decide, by decide, by decide +kernel⟩
theorem caWriter_30 : zCal "CallExplorer$Writer" 30 yWriter_writeCall "CallExplorer$Writer" bWriter_writeCall 4 none 2 := ⟨q707, q704, q706, qp30, q9, rfl, by decide, by decide, by decide +kernel⟩
theorem caWriter_34 : zCal "CallExplorer$Writer" 34 yWriter_writeEnd "CallExplorer$Writer" bWriter_writeEnd 2 none 1 := ⟨q729, q726, q728, qp34, q9, rfl, by decide, by decide, by decide +kernel⟩
theorem caWriter_38 : zCal "CallExplorer$Writer" 38 ySequence_operationOf "CallExplorer$Sequence" bSequence_operationOf 2 (some .int) 1 := ⟨q446, q708, q444, q445, q7, rfl, by decide, by decide, by decide +kernel⟩
theorem caWriter_42 : zCal "CallExplorer$Writer" 42 yWriter_put "CallExplorer$Writer" bWriter_put 2 none 1 := ⟨q712, q709, q711, qp31, q9, rfl, by decide, by decide, by decide +kernel⟩
theorem caWriter_46 : zCal "CallExplorer$Writer" 46 ySequence_form "CallExplorer$Sequence" bSequence_form 3 (some .int) 2 := ⟨q487, q713, q485, q486, q7, rfl, by decide, by decide, by decide +kernel⟩
theorem caWriter_50 : zCal "CallExplorer$Writer" 50 ySequence_content "CallExplorer$Sequence" bSequence_content 3 (some .int) 2 := ⟨q430, q714, q428, q429, q7, rfl, by decide, by decide, by decide +kernel⟩
theorem caWriter_53 : zCal "CallExplorer$Writer" 53 yWriter_writeArgument "CallExplorer$Writer" bWriter_writeArgument 3 none 2 := ⟨q718, q715, q717, qp32, q9, rfl, by decide, by decide, by decide +kernel⟩
theorem caWriter_57 : zCal "CallExplorer$Writer" 57 yWriter_writeNumber "CallExplorer$Writer" bWriter_writeNumber 7 none 1 := ⟨q722, q719, q721, qp33, q9, rfl, by decide, by decide, by decide +kernel⟩
theorem caWriter_67 : zCal "CallExplorer$Writer" 67 yWriter_writeResult "CallExplorer$Writer" bWriter_writeResult 2 none 1 := ⟨q733, q730, q732, qp35, q9, rfl, by decide, by decide, by decide +kernel⟩
end
section
/-! predicates and contracts, printed by wip/whole/gen -/
/-! Sequence.operationOf -/
theorem dSequence_operationOf_0 : decode bSequence_operationOf 0 = .ok (.aload_n 0, 1) := by decide +kernel
theorem dSequence_operationOf_1 : decode bSequence_operationOf 1 = .ok (.getfield 9, 3) := by decide +kernel
theorem dSequence_operationOf_4 : decode bSequence_operationOf 4 = .ok (.iload_n 1, 1) := by decide +kernel
theorem dSequence_operationOf_5 : decode bSequence_operationOf 5 = .ok (.iconst 5, 1) := by decide +kernel
theorem dSequence_operationOf_6 : decode bSequence_operationOf 6 = .ok (.imul, 1) := by decide +kernel
theorem dSequence_operationOf_7 : decode bSequence_operationOf 7 = .ok (.iaload, 1) := by decide +kernel
theorem dSequence_operationOf_8 : decode bSequence_operationOf 8 = .ok (.ireturn, 1) := by decide +kernel
def wpSequence_operationOf (o : Nat) (x1 : Int32) (h : zM) (post : Int32 → zM → Prop) : Prop := (vp_in (x1 * 5) 50 ∧ post (h (o + 1) (Int32.toNatClampNeg (x1 * 5))) h)
abbrev rmSequence_operationOf : Room := { frames := 0, cells := 0, slots := 0, locals := 0 }
set_option maxHeartbeats 4000000 in
set_option maxRecDepth 100000 in
theorem cSequence_operationOf (l : Launch) (D : va_G) (tys : List (ClassId × FieldType)) (N : Nat) (ad : Nat → Nat) (F : zSh) (A : Nat → Prop) (hJ : zJ A N ad) (cI : ClassId) (hI : tys[0]? = some (cI, .int)) (o : Nat) (hq : zSeq N ad F cI o) (x1 : Int32) (h : zM) (post : Int32 → zM → Prop) (hw : wpSequence_operationOf o x1 h post) : Met l ySequence_operationOf (.code ySequence_operationOf bSequence_operationOf 2 (some .int) :: zt) rmSequence_operationOf (va_Pc [.ref (ad o), .int x1] (zPre D tys N ad F A h)) (va_Qi post (zPst D tys N ad F) A) 0 0 A := by
  refine Met.ofW (cc := bSequence_operationOf) (maxL := 2) (ret := (some .int)) (by decide) rfl ?_
  intro p e s m args below meth c s₁ B hml hv
  obtain ⟨rfl, hP, hK, hT, hN⟩ := hv
  have hr := B.returns
  have hlk := B.notSynchronized
  have S : zS p m c bSequence_operationOf 2 s _ "CallExplorer$Sequence" := ⟨B.exec, B.bytes, hml, findClass_of_methodNamed B.named, fun w hw => atoms_spec (ws := .code ySequence_operationOf bSequence_operationOf 2 (some .int) :: zt) B.pre w (List.mem_cons_of_mem _ hw)⟩
  have hS : va_S A s.heap s.heap [] := va_S.rf
  have hl := lv_entry ([.ref (ad o), .int x1]) (n := 2) (Nat.le_of_ble_eq_true rfl)
  rw [lg_entry_eq]
  generalize (lg_sl ([.ref (ad o), .int x1]) ++ List.replicate (2 - (lg_sl ([.ref (ad o), .int x1])).length) Slot.unset).toArray = ls at hl ⊢
  have hl : lv_has ls 2 [(0, .ref (ad o)), (1, .int x1)] := hl
  show W p l e rmSequence_operationOf s m ([.ref (ad o), .int x1] : List Value).toArray below meth c s.heap [] 0 0 (zQi post D tys N ad F A below ([.ref (ad o), .int x1] : List Value).toArray s) _
  unfold wpSequence_operationOf at hw
  refine lv_aload_n S.1 S.2.1 dSequence_operationOf_0 rfl (lv_at hl 0 rfl) ?_
  refine zr_get S hK hP (Nat.lt_of_succ_lt (hq).1) ((hq).2.1 _) fSequence_cells q185 rfl dSequence_operationOf_1 ?_
  refine lv_iload_n S.1 S.2.1 dSequence_operationOf_4 rfl (lv_at hl 1 rfl) ?_
  refine lv_iconst (v := 5) S.1 S.2.1 dSequence_operationOf_5 (by decide) ?_
  refine lv_imul S.1 S.2.1 dSequence_operationOf_6 ?_
  obtain ⟨z7, hw⟩ := hw
  refine zr_ald S hK hP (hq).1 ((hq).2.2 _) 0 hI z7 dSequence_operationOf_7 ?_
  exact zr_iret S hr hlk hK hP hS rfl hw dSequence_operationOf_8
/-! Sequence.form -/
theorem dSequence_form_0 : decode bSequence_form 0 = .ok (.aload_n 0, 1) := by decide +kernel
theorem dSequence_form_1 : decode bSequence_form 1 = .ok (.getfield 9, 3) := by decide +kernel
theorem dSequence_form_4 : decode bSequence_form 4 = .ok (.iload_n 1, 1) := by decide +kernel
theorem dSequence_form_5 : decode bSequence_form 5 = .ok (.iconst 5, 1) := by decide +kernel
theorem dSequence_form_6 : decode bSequence_form 6 = .ok (.imul, 1) := by decide +kernel
theorem dSequence_form_7 : decode bSequence_form 7 = .ok (.iconst 1, 1) := by decide +kernel
theorem dSequence_form_8 : decode bSequence_form 8 = .ok (.iadd, 1) := by decide +kernel
theorem dSequence_form_9 : decode bSequence_form 9 = .ok (.iconst 2, 1) := by decide +kernel
theorem dSequence_form_10 : decode bSequence_form 10 = .ok (.iload_n 2, 1) := by decide +kernel
theorem dSequence_form_11 : decode bSequence_form 11 = .ok (.imul, 1) := by decide +kernel
theorem dSequence_form_12 : decode bSequence_form 12 = .ok (.iadd, 1) := by decide +kernel
theorem dSequence_form_13 : decode bSequence_form 13 = .ok (.iaload, 1) := by decide +kernel
theorem dSequence_form_14 : decode bSequence_form 14 = .ok (.ireturn, 1) := by decide +kernel
def wpSequence_form (o : Nat) (x1 : Int32) (x2 : Int32) (h : zM) (post : Int32 → zM → Prop) : Prop := (vp_in (((x1 * 5) + 1) + (2 * x2)) 50 ∧ post (h (o + 1) (Int32.toNatClampNeg (((x1 * 5) + 1) + (2 * x2)))) h)
abbrev rmSequence_form : Room := { frames := 0, cells := 0, slots := 0, locals := 0 }
set_option maxHeartbeats 4000000 in
set_option maxRecDepth 100000 in
theorem cSequence_form (l : Launch) (D : va_G) (tys : List (ClassId × FieldType)) (N : Nat) (ad : Nat → Nat) (F : zSh) (A : Nat → Prop) (hJ : zJ A N ad) (cI : ClassId) (hI : tys[0]? = some (cI, .int)) (o : Nat) (hq : zSeq N ad F cI o) (x1 : Int32) (x2 : Int32) (h : zM) (post : Int32 → zM → Prop) (hw : wpSequence_form o x1 x2 h post) : Met l ySequence_form (.code ySequence_form bSequence_form 3 (some .int) :: zt) rmSequence_form (va_Pc [.ref (ad o), .int x1, .int x2] (zPre D tys N ad F A h)) (va_Qi post (zPst D tys N ad F) A) 0 0 A := by
  refine Met.ofW (cc := bSequence_form) (maxL := 3) (ret := (some .int)) (by decide) rfl ?_
  intro p e s m args below meth c s₁ B hml hv
  obtain ⟨rfl, hP, hK, hT, hN⟩ := hv
  have hr := B.returns
  have hlk := B.notSynchronized
  have S : zS p m c bSequence_form 3 s _ "CallExplorer$Sequence" := ⟨B.exec, B.bytes, hml, findClass_of_methodNamed B.named, fun w hw => atoms_spec (ws := .code ySequence_form bSequence_form 3 (some .int) :: zt) B.pre w (List.mem_cons_of_mem _ hw)⟩
  have hS : va_S A s.heap s.heap [] := va_S.rf
  have hl := lv_entry ([.ref (ad o), .int x1, .int x2]) (n := 3) (Nat.le_of_ble_eq_true rfl)
  rw [lg_entry_eq]
  generalize (lg_sl ([.ref (ad o), .int x1, .int x2]) ++ List.replicate (3 - (lg_sl ([.ref (ad o), .int x1, .int x2])).length) Slot.unset).toArray = ls at hl ⊢
  have hl : lv_has ls 3 [(0, .ref (ad o)), (1, .int x1), (2, .int x2)] := hl
  show W p l e rmSequence_form s m ([.ref (ad o), .int x1, .int x2] : List Value).toArray below meth c s.heap [] 0 0 (zQi post D tys N ad F A below ([.ref (ad o), .int x1, .int x2] : List Value).toArray s) _
  unfold wpSequence_form at hw
  refine lv_aload_n S.1 S.2.1 dSequence_form_0 rfl (lv_at hl 0 rfl) ?_
  refine zr_get S hK hP (Nat.lt_of_succ_lt (hq).1) ((hq).2.1 _) fSequence_cells q185 rfl dSequence_form_1 ?_
  refine lv_iload_n S.1 S.2.1 dSequence_form_4 rfl (lv_at hl 1 rfl) ?_
  refine lv_iconst (v := 5) S.1 S.2.1 dSequence_form_5 (by decide) ?_
  refine lv_imul S.1 S.2.1 dSequence_form_6 ?_
  refine lv_iconst (v := 1) S.1 S.2.1 dSequence_form_7 (by decide) ?_
  refine lv_iadd S.1 S.2.1 dSequence_form_8 ?_
  refine lv_iconst (v := 2) S.1 S.2.1 dSequence_form_9 (by decide) ?_
  refine lv_iload_n S.1 S.2.1 dSequence_form_10 rfl (lv_at hl 2 rfl) ?_
  refine lv_imul S.1 S.2.1 dSequence_form_11 ?_
  refine lv_iadd S.1 S.2.1 dSequence_form_12 ?_
  obtain ⟨z13, hw⟩ := hw
  refine zr_ald S hK hP (hq).1 ((hq).2.2 _) 0 hI z13 dSequence_form_13 ?_
  exact zr_iret S hr hlk hK hP hS rfl hw dSequence_form_14
/-! Sequence.content -/
theorem dSequence_content_0 : decode bSequence_content 0 = .ok (.aload_n 0, 1) := by decide +kernel
theorem dSequence_content_1 : decode bSequence_content 1 = .ok (.getfield 9, 3) := by decide +kernel
theorem dSequence_content_4 : decode bSequence_content 4 = .ok (.iload_n 1, 1) := by decide +kernel
theorem dSequence_content_5 : decode bSequence_content 5 = .ok (.iconst 5, 1) := by decide +kernel
theorem dSequence_content_6 : decode bSequence_content 6 = .ok (.imul, 1) := by decide +kernel
theorem dSequence_content_7 : decode bSequence_content 7 = .ok (.iconst 2, 1) := by decide +kernel
theorem dSequence_content_8 : decode bSequence_content 8 = .ok (.iadd, 1) := by decide +kernel
theorem dSequence_content_9 : decode bSequence_content 9 = .ok (.iconst 2, 1) := by decide +kernel
theorem dSequence_content_10 : decode bSequence_content 10 = .ok (.iload_n 2, 1) := by decide +kernel
theorem dSequence_content_11 : decode bSequence_content 11 = .ok (.imul, 1) := by decide +kernel
theorem dSequence_content_12 : decode bSequence_content 12 = .ok (.iadd, 1) := by decide +kernel
theorem dSequence_content_13 : decode bSequence_content 13 = .ok (.iaload, 1) := by decide +kernel
theorem dSequence_content_14 : decode bSequence_content 14 = .ok (.ireturn, 1) := by decide +kernel
def wpSequence_content (o : Nat) (x1 : Int32) (x2 : Int32) (h : zM) (post : Int32 → zM → Prop) : Prop := (vp_in (((x1 * 5) + 2) + (2 * x2)) 50 ∧ post (h (o + 1) (Int32.toNatClampNeg (((x1 * 5) + 2) + (2 * x2)))) h)
abbrev rmSequence_content : Room := { frames := 0, cells := 0, slots := 0, locals := 0 }
set_option maxHeartbeats 4000000 in
set_option maxRecDepth 100000 in
theorem cSequence_content (l : Launch) (D : va_G) (tys : List (ClassId × FieldType)) (N : Nat) (ad : Nat → Nat) (F : zSh) (A : Nat → Prop) (hJ : zJ A N ad) (cI : ClassId) (hI : tys[0]? = some (cI, .int)) (o : Nat) (hq : zSeq N ad F cI o) (x1 : Int32) (x2 : Int32) (h : zM) (post : Int32 → zM → Prop) (hw : wpSequence_content o x1 x2 h post) : Met l ySequence_content (.code ySequence_content bSequence_content 3 (some .int) :: zt) rmSequence_content (va_Pc [.ref (ad o), .int x1, .int x2] (zPre D tys N ad F A h)) (va_Qi post (zPst D tys N ad F) A) 0 0 A := by
  refine Met.ofW (cc := bSequence_content) (maxL := 3) (ret := (some .int)) (by decide) rfl ?_
  intro p e s m args below meth c s₁ B hml hv
  obtain ⟨rfl, hP, hK, hT, hN⟩ := hv
  have hr := B.returns
  have hlk := B.notSynchronized
  have S : zS p m c bSequence_content 3 s _ "CallExplorer$Sequence" := ⟨B.exec, B.bytes, hml, findClass_of_methodNamed B.named, fun w hw => atoms_spec (ws := .code ySequence_content bSequence_content 3 (some .int) :: zt) B.pre w (List.mem_cons_of_mem _ hw)⟩
  have hS : va_S A s.heap s.heap [] := va_S.rf
  have hl := lv_entry ([.ref (ad o), .int x1, .int x2]) (n := 3) (Nat.le_of_ble_eq_true rfl)
  rw [lg_entry_eq]
  generalize (lg_sl ([.ref (ad o), .int x1, .int x2]) ++ List.replicate (3 - (lg_sl ([.ref (ad o), .int x1, .int x2])).length) Slot.unset).toArray = ls at hl ⊢
  have hl : lv_has ls 3 [(0, .ref (ad o)), (1, .int x1), (2, .int x2)] := hl
  show W p l e rmSequence_content s m ([.ref (ad o), .int x1, .int x2] : List Value).toArray below meth c s.heap [] 0 0 (zQi post D tys N ad F A below ([.ref (ad o), .int x1, .int x2] : List Value).toArray s) _
  unfold wpSequence_content at hw
  refine lv_aload_n S.1 S.2.1 dSequence_content_0 rfl (lv_at hl 0 rfl) ?_
  refine zr_get S hK hP (Nat.lt_of_succ_lt (hq).1) ((hq).2.1 _) fSequence_cells q185 rfl dSequence_content_1 ?_
  refine lv_iload_n S.1 S.2.1 dSequence_content_4 rfl (lv_at hl 1 rfl) ?_
  refine lv_iconst (v := 5) S.1 S.2.1 dSequence_content_5 (by decide) ?_
  refine lv_imul S.1 S.2.1 dSequence_content_6 ?_
  refine lv_iconst (v := 2) S.1 S.2.1 dSequence_content_7 (by decide) ?_
  refine lv_iadd S.1 S.2.1 dSequence_content_8 ?_
  refine lv_iconst (v := 2) S.1 S.2.1 dSequence_content_9 (by decide) ?_
  refine lv_iload_n S.1 S.2.1 dSequence_content_10 rfl (lv_at hl 2 rfl) ?_
  refine lv_imul S.1 S.2.1 dSequence_content_11 ?_
  refine lv_iadd S.1 S.2.1 dSequence_content_12 ?_
  obtain ⟨z13, hw⟩ := hw
  refine zr_ald S hK hP (hq).1 ((hq).2.2 _) 0 hI z13 dSequence_content_13 ?_
  exact zr_iret S hr hlk hK hP hS rfl hw dSequence_content_14
/-! Sequence.setArgument -/
theorem dSequence_setArgument_0 : decode bSequence_setArgument 0 = .ok (.aload_n 0, 1) := by decide +kernel
theorem dSequence_setArgument_1 : decode bSequence_setArgument 1 = .ok (.getfield 9, 3) := by decide +kernel
theorem dSequence_setArgument_4 : decode bSequence_setArgument 4 = .ok (.iload_n 1, 1) := by decide +kernel
theorem dSequence_setArgument_5 : decode bSequence_setArgument 5 = .ok (.iconst 5, 1) := by decide +kernel
theorem dSequence_setArgument_6 : decode bSequence_setArgument 6 = .ok (.imul, 1) := by decide +kernel
theorem dSequence_setArgument_7 : decode bSequence_setArgument 7 = .ok (.iconst 1, 1) := by decide +kernel
theorem dSequence_setArgument_8 : decode bSequence_setArgument 8 = .ok (.iadd, 1) := by decide +kernel
theorem dSequence_setArgument_9 : decode bSequence_setArgument 9 = .ok (.iconst 2, 1) := by decide +kernel
theorem dSequence_setArgument_10 : decode bSequence_setArgument 10 = .ok (.iload_n 2, 1) := by decide +kernel
theorem dSequence_setArgument_11 : decode bSequence_setArgument 11 = .ok (.imul, 1) := by decide +kernel
theorem dSequence_setArgument_12 : decode bSequence_setArgument 12 = .ok (.iadd, 1) := by decide +kernel
theorem dSequence_setArgument_13 : decode bSequence_setArgument 13 = .ok (.iload_n 3, 1) := by decide +kernel
theorem dSequence_setArgument_14 : decode bSequence_setArgument 14 = .ok (.iastore, 1) := by decide +kernel
theorem dSequence_setArgument_15 : decode bSequence_setArgument 15 = .ok (.aload_n 0, 1) := by decide +kernel
theorem dSequence_setArgument_16 : decode bSequence_setArgument 16 = .ok (.getfield 9, 3) := by decide +kernel
theorem dSequence_setArgument_19 : decode bSequence_setArgument 19 = .ok (.iload_n 1, 1) := by decide +kernel
theorem dSequence_setArgument_20 : decode bSequence_setArgument 20 = .ok (.iconst 5, 1) := by decide +kernel
theorem dSequence_setArgument_21 : decode bSequence_setArgument 21 = .ok (.imul, 1) := by decide +kernel
theorem dSequence_setArgument_22 : decode bSequence_setArgument 22 = .ok (.iconst 2, 1) := by decide +kernel
theorem dSequence_setArgument_23 : decode bSequence_setArgument 23 = .ok (.iadd, 1) := by decide +kernel
theorem dSequence_setArgument_24 : decode bSequence_setArgument 24 = .ok (.iconst 2, 1) := by decide +kernel
theorem dSequence_setArgument_25 : decode bSequence_setArgument 25 = .ok (.iload_n 2, 1) := by decide +kernel
theorem dSequence_setArgument_26 : decode bSequence_setArgument 26 = .ok (.imul, 1) := by decide +kernel
theorem dSequence_setArgument_27 : decode bSequence_setArgument 27 = .ok (.iadd, 1) := by decide +kernel
theorem dSequence_setArgument_28 : decode bSequence_setArgument 28 = .ok (.iload 4, 2) := by decide +kernel
theorem dSequence_setArgument_30 : decode bSequence_setArgument 30 = .ok (.iastore, 1) := by decide +kernel
theorem dSequence_setArgument_31 : decode bSequence_setArgument 31 = .ok (.return_, 1) := by decide +kernel
def wpSequence_setArgument (o : Nat) (x1 : Int32) (x2 : Int32) (x3 : Int32) (x4 : Int32) (h : zM) (post : zM → Prop) : Prop := (vp_in (((x1 * 5) + 1) + (2 * x2)) 50 ∧ ∀ h14 : zM, h14 = zu h (o + 1) (Int32.toNatClampNeg (((x1 * 5) + 1) + (2 * x2))) x3 → (vp_in (((x1 * 5) + 2) + (2 * x2)) 50 ∧ ∀ h30 : zM, h30 = zu h14 (o + 1) (Int32.toNatClampNeg (((x1 * 5) + 2) + (2 * x2))) x4 → post h30))
abbrev rmSequence_setArgument : Room := { frames := 0, cells := 0, slots := 0, locals := 0 }
set_option maxHeartbeats 4000000 in
set_option maxRecDepth 100000 in
theorem cSequence_setArgument (l : Launch) (D : va_G) (tys : List (ClassId × FieldType)) (N : Nat) (ad : Nat → Nat) (F : zSh) (A : Nat → Prop) (hJ : zJ A N ad) (cI : ClassId) (hI : tys[0]? = some (cI, .int)) (o : Nat) (hq : zSeq N ad F cI o) (x1 : Int32) (x2 : Int32) (x3 : Int32) (x4 : Int32) (h : zM) (post : zM → Prop) (hw : wpSequence_setArgument o x1 x2 x3 x4 h post) : Met l ySequence_setArgument (.code ySequence_setArgument bSequence_setArgument 5 none :: zt) rmSequence_setArgument (va_Pc [.ref (ad o), .int x1, .int x2, .int x3, .int x4] (zPre D tys N ad F A h)) (va_Qv post (zPst D tys N ad F) A) 0 0 A := by
  refine Met.ofW (cc := bSequence_setArgument) (maxL := 5) (ret := none) (by decide) rfl ?_
  intro p e s m args below meth c s₁ B hml hv
  obtain ⟨rfl, hP, hK, hT, hN⟩ := hv
  have hr := B.returns
  have hlk := B.notSynchronized
  have S : zS p m c bSequence_setArgument 5 s _ "CallExplorer$Sequence" := ⟨B.exec, B.bytes, hml, findClass_of_methodNamed B.named, fun w hw => atoms_spec (ws := .code ySequence_setArgument bSequence_setArgument 5 none :: zt) B.pre w (List.mem_cons_of_mem _ hw)⟩
  have hS : va_S A s.heap s.heap [] := va_S.rf
  have hl := lv_entry ([.ref (ad o), .int x1, .int x2, .int x3, .int x4]) (n := 5) (Nat.le_of_ble_eq_true rfl)
  rw [lg_entry_eq]
  generalize (lg_sl ([.ref (ad o), .int x1, .int x2, .int x3, .int x4]) ++ List.replicate (5 - (lg_sl ([.ref (ad o), .int x1, .int x2, .int x3, .int x4])).length) Slot.unset).toArray = ls at hl ⊢
  have hl : lv_has ls 5 [(0, .ref (ad o)), (1, .int x1), (2, .int x2), (3, .int x3), (4, .int x4)] := hl
  show W p l e rmSequence_setArgument s m ([.ref (ad o), .int x1, .int x2, .int x3, .int x4] : List Value).toArray below meth c s.heap [] 0 0 (zQv post D tys N ad F A below ([.ref (ad o), .int x1, .int x2, .int x3, .int x4] : List Value).toArray s) _
  unfold wpSequence_setArgument at hw
  refine lv_aload_n S.1 S.2.1 dSequence_setArgument_0 rfl (lv_at hl 0 rfl) ?_
  refine zr_get S hK hP (Nat.lt_of_succ_lt (hq).1) ((hq).2.1 _) fSequence_cells q185 rfl dSequence_setArgument_1 ?_
  refine lv_iload_n S.1 S.2.1 dSequence_setArgument_4 rfl (lv_at hl 1 rfl) ?_
  refine lv_iconst (v := 5) S.1 S.2.1 dSequence_setArgument_5 (by decide) ?_
  refine lv_imul S.1 S.2.1 dSequence_setArgument_6 ?_
  refine lv_iconst (v := 1) S.1 S.2.1 dSequence_setArgument_7 (by decide) ?_
  refine lv_iadd S.1 S.2.1 dSequence_setArgument_8 ?_
  refine lv_iconst (v := 2) S.1 S.2.1 dSequence_setArgument_9 (by decide) ?_
  refine lv_iload_n S.1 S.2.1 dSequence_setArgument_10 rfl (lv_at hl 2 rfl) ?_
  refine lv_imul S.1 S.2.1 dSequence_setArgument_11 ?_
  refine lv_iadd S.1 S.2.1 dSequence_setArgument_12 ?_
  refine lv_iload_n S.1 S.2.1 dSequence_setArgument_13 rfl (lv_at hl 3 rfl) ?_
  obtain ⟨z14, hw⟩ := hw
  refine zr_ast S hK hJ hP hS (hq).1 (hq).2.2 0 hI z14 dSequence_setArgument_14 (fun h14 H locs e14 hP hS => ?_)
  have hw := hw h14 e14
  refine lv_aload_n S.1 S.2.1 dSequence_setArgument_15 rfl (lv_at hl 0 rfl) ?_
  refine zr_get S hK hP (Nat.lt_of_succ_lt (hq).1) ((hq).2.1 _) fSequence_cells q185 rfl dSequence_setArgument_16 ?_
  refine lv_iload_n S.1 S.2.1 dSequence_setArgument_19 rfl (lv_at hl 1 rfl) ?_
  refine lv_iconst (v := 5) S.1 S.2.1 dSequence_setArgument_20 (by decide) ?_
  refine lv_imul S.1 S.2.1 dSequence_setArgument_21 ?_
  refine lv_iconst (v := 2) S.1 S.2.1 dSequence_setArgument_22 (by decide) ?_
  refine lv_iadd S.1 S.2.1 dSequence_setArgument_23 ?_
  refine lv_iconst (v := 2) S.1 S.2.1 dSequence_setArgument_24 (by decide) ?_
  refine lv_iload_n S.1 S.2.1 dSequence_setArgument_25 rfl (lv_at hl 2 rfl) ?_
  refine lv_imul S.1 S.2.1 dSequence_setArgument_26 ?_
  refine lv_iadd S.1 S.2.1 dSequence_setArgument_27 ?_
  refine lv_iload S.1 S.2.1 dSequence_setArgument_28 (lv_at hl 4 rfl) ?_
  obtain ⟨z30, hw⟩ := hw
  refine zr_ast S hK hJ hP hS (hq).1 (hq).2.2 0 hI z30 dSequence_setArgument_30 (fun h30 H locs e30 hP hS => ?_)
  have hw := hw h30 e30
  exact zr_vret S hr hlk hK hP hS hw dSequence_setArgument_31
/-! Sequence.isVariable -/
theorem dSequence_isVariable_0 : decode bSequence_isVariable 0 = .ok (.aload_n 0, 1) := by decide +kernel
theorem dSequence_isVariable_1 : decode bSequence_isVariable 1 = .ok (.getfield 9, 3) := by decide +kernel
theorem dSequence_isVariable_4 : decode bSequence_isVariable 4 = .ok (.iload_n 1, 1) := by decide +kernel
theorem dSequence_isVariable_5 : decode bSequence_isVariable 5 = .ok (.iconst 5, 1) := by decide +kernel
theorem dSequence_isVariable_6 : decode bSequence_isVariable 6 = .ok (.imul, 1) := by decide +kernel
theorem dSequence_isVariable_7 : decode bSequence_isVariable 7 = .ok (.iconst 1, 1) := by decide +kernel
theorem dSequence_isVariable_8 : decode bSequence_isVariable 8 = .ok (.iadd, 1) := by decide +kernel
theorem dSequence_isVariable_9 : decode bSequence_isVariable 9 = .ok (.iconst 2, 1) := by decide +kernel
theorem dSequence_isVariable_10 : decode bSequence_isVariable 10 = .ok (.iload_n 2, 1) := by decide +kernel
theorem dSequence_isVariable_11 : decode bSequence_isVariable 11 = .ok (.imul, 1) := by decide +kernel
theorem dSequence_isVariable_12 : decode bSequence_isVariable 12 = .ok (.iadd, 1) := by decide +kernel
theorem dSequence_isVariable_13 : decode bSequence_isVariable 13 = .ok (.iaload, 1) := by decide +kernel
theorem dSequence_isVariable_14 : decode bSequence_isVariable 14 = .ok (.ifCond .ne 7, 3) := by decide +kernel
theorem dSequence_isVariable_17 : decode bSequence_isVariable 17 = .ok (.iconst 1, 1) := by decide +kernel
theorem dSequence_isVariable_18 : decode bSequence_isVariable 18 = .ok (.goto 4, 3) := by decide +kernel
theorem dSequence_isVariable_21 : decode bSequence_isVariable 21 = .ok (.iconst 0, 1) := by decide +kernel
theorem dSequence_isVariable_22 : decode bSequence_isVariable 22 = .ok (.ireturn, 1) := by decide +kernel
def wpSequence_isVariable (o : Nat) (x1 : Int32) (x2 : Int32) (h : zM) (post : Int32 → zM → Prop) : Prop := (vp_in (((x1 * 5) + 1) + (2 * x2)) 50 ∧ ((¬ (h (o + 1) (Int32.toNatClampNeg (((x1 * 5) + 1) + (2 * x2)))) = 0 → post 0 h) ∧ ((h (o + 1) (Int32.toNatClampNeg (((x1 * 5) + 1) + (2 * x2)))) = 0 → post 1 h)))
abbrev rmSequence_isVariable : Room := { frames := 0, cells := 0, slots := 0, locals := 0 }
set_option maxHeartbeats 4000000 in
set_option maxRecDepth 100000 in
theorem cSequence_isVariable (l : Launch) (D : va_G) (tys : List (ClassId × FieldType)) (N : Nat) (ad : Nat → Nat) (F : zSh) (A : Nat → Prop) (hJ : zJ A N ad) (cI : ClassId) (hI : tys[0]? = some (cI, .int)) (o : Nat) (hq : zSeq N ad F cI o) (x1 : Int32) (x2 : Int32) (h : zM) (post : Int32 → zM → Prop) (hw : wpSequence_isVariable o x1 x2 h post) : Met l ySequence_isVariable (.code ySequence_isVariable bSequence_isVariable 3 (some .boolean) :: zt) rmSequence_isVariable (va_Pc [.ref (ad o), .int x1, .int x2] (zPre D tys N ad F A h)) (va_Qi post (zPst D tys N ad F) A) 0 0 A := by
  refine Met.ofW (cc := bSequence_isVariable) (maxL := 3) (ret := (some .boolean)) (by decide) rfl ?_
  intro p e s m args below meth c s₁ B hml hv
  obtain ⟨rfl, hP, hK, hT, hN⟩ := hv
  have hr := B.returns
  have hlk := B.notSynchronized
  have S : zS p m c bSequence_isVariable 3 s _ "CallExplorer$Sequence" := ⟨B.exec, B.bytes, hml, findClass_of_methodNamed B.named, fun w hw => atoms_spec (ws := .code ySequence_isVariable bSequence_isVariable 3 (some .boolean) :: zt) B.pre w (List.mem_cons_of_mem _ hw)⟩
  have hS : va_S A s.heap s.heap [] := va_S.rf
  have hl := lv_entry ([.ref (ad o), .int x1, .int x2]) (n := 3) (Nat.le_of_ble_eq_true rfl)
  rw [lg_entry_eq]
  generalize (lg_sl ([.ref (ad o), .int x1, .int x2]) ++ List.replicate (3 - (lg_sl ([.ref (ad o), .int x1, .int x2])).length) Slot.unset).toArray = ls at hl ⊢
  have hl : lv_has ls 3 [(0, .ref (ad o)), (1, .int x1), (2, .int x2)] := hl
  show W p l e rmSequence_isVariable s m ([.ref (ad o), .int x1, .int x2] : List Value).toArray below meth c s.heap [] 0 0 (zQi post D tys N ad F A below ([.ref (ad o), .int x1, .int x2] : List Value).toArray s) _
  unfold wpSequence_isVariable at hw
  refine lv_aload_n S.1 S.2.1 dSequence_isVariable_0 rfl (lv_at hl 0 rfl) ?_
  refine zr_get S hK hP (Nat.lt_of_succ_lt (hq).1) ((hq).2.1 _) fSequence_cells q185 rfl dSequence_isVariable_1 ?_
  refine lv_iload_n S.1 S.2.1 dSequence_isVariable_4 rfl (lv_at hl 1 rfl) ?_
  refine lv_iconst (v := 5) S.1 S.2.1 dSequence_isVariable_5 (by decide) ?_
  refine lv_imul S.1 S.2.1 dSequence_isVariable_6 ?_
  refine lv_iconst (v := 1) S.1 S.2.1 dSequence_isVariable_7 (by decide) ?_
  refine lv_iadd S.1 S.2.1 dSequence_isVariable_8 ?_
  refine lv_iconst (v := 2) S.1 S.2.1 dSequence_isVariable_9 (by decide) ?_
  refine lv_iload_n S.1 S.2.1 dSequence_isVariable_10 rfl (lv_at hl 2 rfl) ?_
  refine lv_imul S.1 S.2.1 dSequence_isVariable_11 ?_
  refine lv_iadd S.1 S.2.1 dSequence_isVariable_12 ?_
  obtain ⟨z13, hw⟩ := hw
  refine zr_ald S hK hP (hq).1 ((hq).2.2 _) 0 hI z13 dSequence_isVariable_13 ?_
  refine lv_if_ne S.1 S.2.1 dSequence_isVariable_14 rfl (fun hc => ?_) (fun hc => ?_)
  · have hw := hw.1 hc
    refine lv_iconst (v := 0) S.1 S.2.1 dSequence_isVariable_21 (by decide) ?_
    exact zr_iret S hr hlk hK hP hS rfl hw dSequence_isVariable_22
  · have hw := hw.2 hc
    refine lv_iconst (v := 1) S.1 S.2.1 dSequence_isVariable_17 (by decide) ?_
    refine lv_goto S.1 S.2.1 dSequence_isVariable_18 rfl ?_
    exact zr_iret S hr hlk hK hP hS rfl hw dSequence_isVariable_22
/-! Sequence.clear -/
theorem dSequence_clear_0 : decode bSequence_clear 0 = .ok (.aload_n 0, 1) := by decide +kernel
theorem dSequence_clear_1 : decode bSequence_clear 1 = .ok (.iconst 0, 1) := by decide +kernel
theorem dSequence_clear_2 : decode bSequence_clear 2 = .ok (.putfield 15, 3) := by decide +kernel
theorem dSequence_clear_5 : decode bSequence_clear 5 = .ok (.return_, 1) := by decide +kernel
def wpSequence_clear (o : Nat) (h : zM) (post : zM → Prop) : Prop := ∀ h2 : zM, h2 = zu h o 0 0 → post h2
abbrev rmSequence_clear : Room := { frames := 0, cells := 0, slots := 0, locals := 0 }
set_option maxHeartbeats 4000000 in
set_option maxRecDepth 100000 in
theorem cSequence_clear (l : Launch) (D : va_G) (tys : List (ClassId × FieldType)) (N : Nat) (ad : Nat → Nat) (F : zSh) (A : Nat → Prop) (hJ : zJ A N ad) (cI : ClassId) (hI : tys[0]? = some (cI, .int)) (o : Nat) (hq : zSeq N ad F cI o) (h : zM) (post : zM → Prop) (hw : wpSequence_clear o h post) : Met l ySequence_clear (.code ySequence_clear bSequence_clear 1 none :: zt) rmSequence_clear (va_Pc [.ref (ad o)] (zPre D tys N ad F A h)) (va_Qv post (zPst D tys N ad F) A) 0 0 A := by
  refine Met.ofW (cc := bSequence_clear) (maxL := 1) (ret := none) (by decide) rfl ?_
  intro p e s m args below meth c s₁ B hml hv
  obtain ⟨rfl, hP, hK, hT, hN⟩ := hv
  have hr := B.returns
  have hlk := B.notSynchronized
  have S : zS p m c bSequence_clear 1 s _ "CallExplorer$Sequence" := ⟨B.exec, B.bytes, hml, findClass_of_methodNamed B.named, fun w hw => atoms_spec (ws := .code ySequence_clear bSequence_clear 1 none :: zt) B.pre w (List.mem_cons_of_mem _ hw)⟩
  have hS : va_S A s.heap s.heap [] := va_S.rf
  have hl := lv_entry ([.ref (ad o)]) (n := 1) (Nat.le_of_ble_eq_true rfl)
  rw [lg_entry_eq]
  generalize (lg_sl ([.ref (ad o)]) ++ List.replicate (1 - (lg_sl ([.ref (ad o)])).length) Slot.unset).toArray = ls at hl ⊢
  have hl : lv_has ls 1 [(0, .ref (ad o))] := hl
  show W p l e rmSequence_clear s m ([.ref (ad o)] : List Value).toArray below meth c s.heap [] 0 0 (zQv post D tys N ad F A below ([.ref (ad o)] : List Value).toArray s) _
  unfold wpSequence_clear at hw
  refine lv_aload_n S.1 S.2.1 dSequence_clear_0 rfl (lv_at hl 0 rfl) ?_
  refine lv_iconst (v := 0) S.1 S.2.1 dSequence_clear_1 (by decide) ?_
  refine zr_put S hK hJ hP hS (Nat.lt_of_succ_lt (hq).1) ((hq).2.1 _) fSequence_size q182 rfl rfl (Nat.le_of_ble_eq_true rfl) ((hq).2.1 _) dSequence_clear_2 (fun h2 H locs e2 hP hS => ?_)
  have hw := hw h2 e2
  exact zr_vret S hr hlk hK hP hS hw dSequence_clear_5
/-! Sequence.push -/
theorem dSequence_push_0 : decode bSequence_push 0 = .ok (.aload_n 0, 1) := by decide +kernel
theorem dSequence_push_1 : decode bSequence_push 1 = .ok (.getfield 15, 3) := by decide +kernel
theorem dSequence_push_4 : decode bSequence_push 4 = .ok (.istore_n 2, 1) := by decide +kernel
theorem dSequence_push_5 : decode bSequence_push 5 = .ok (.aload_n 0, 1) := by decide +kernel
theorem dSequence_push_6 : decode bSequence_push 6 = .ok (.getfield 9, 3) := by decide +kernel
theorem dSequence_push_9 : decode bSequence_push 9 = .ok (.iload_n 2, 1) := by decide +kernel
theorem dSequence_push_10 : decode bSequence_push 10 = .ok (.iconst 5, 1) := by decide +kernel
theorem dSequence_push_11 : decode bSequence_push 11 = .ok (.imul, 1) := by decide +kernel
theorem dSequence_push_12 : decode bSequence_push 12 = .ok (.iload_n 1, 1) := by decide +kernel
theorem dSequence_push_13 : decode bSequence_push 13 = .ok (.iastore, 1) := by decide +kernel
theorem dSequence_push_14 : decode bSequence_push 14 = .ok (.aload_n 0, 1) := by decide +kernel
theorem dSequence_push_15 : decode bSequence_push 15 = .ok (.iload_n 2, 1) := by decide +kernel
theorem dSequence_push_16 : decode bSequence_push 16 = .ok (.iconst 0, 1) := by decide +kernel
theorem dSequence_push_17 : decode bSequence_push 17 = .ok (.iconst (-1), 1) := by decide +kernel
theorem dSequence_push_18 : decode bSequence_push 18 = .ok (.iconst 0, 1) := by decide +kernel
theorem dSequence_push_19 : decode bSequence_push 19 = .ok (.invokevirtual 19, 3) := by decide +kernel
theorem dSequence_push_22 : decode bSequence_push 22 = .ok (.aload_n 0, 1) := by decide +kernel
theorem dSequence_push_23 : decode bSequence_push 23 = .ok (.iload_n 2, 1) := by decide +kernel
theorem dSequence_push_24 : decode bSequence_push 24 = .ok (.iconst 1, 1) := by decide +kernel
theorem dSequence_push_25 : decode bSequence_push 25 = .ok (.iconst (-1), 1) := by decide +kernel
theorem dSequence_push_26 : decode bSequence_push 26 = .ok (.iconst 0, 1) := by decide +kernel
theorem dSequence_push_27 : decode bSequence_push 27 = .ok (.invokevirtual 19, 3) := by decide +kernel
theorem dSequence_push_30 : decode bSequence_push 30 = .ok (.aload_n 0, 1) := by decide +kernel
theorem dSequence_push_31 : decode bSequence_push 31 = .ok (.dup, 1) := by decide +kernel
theorem dSequence_push_32 : decode bSequence_push 32 = .ok (.getfield 15, 3) := by decide +kernel
theorem dSequence_push_35 : decode bSequence_push 35 = .ok (.iconst 1, 1) := by decide +kernel
theorem dSequence_push_36 : decode bSequence_push 36 = .ok (.iadd, 1) := by decide +kernel
theorem dSequence_push_37 : decode bSequence_push 37 = .ok (.putfield 15, 3) := by decide +kernel
theorem dSequence_push_40 : decode bSequence_push 40 = .ok (.iload_n 2, 1) := by decide +kernel
theorem dSequence_push_41 : decode bSequence_push 41 = .ok (.ireturn, 1) := by decide +kernel
def wpSequence_push (o : Nat) (x1 : Int32) (h : zM) (post : Int32 → zM → Prop) : Prop := ∀ y4 : Int32, y4 = (h o 0) → (vp_in (y4 * 5) 50 ∧ ∀ h13 : zM, h13 = zu h (o + 1) (Int32.toNatClampNeg (y4 * 5)) x1 → wpSequence_setArgument o y4 0 (-1) 0 h13 (fun h19 => wpSequence_setArgument o y4 1 (-1) 0 h19 (fun h27 => ∀ h37 : zM, h37 = zu h27 o 0 ((h27 o 0) + 1) → post y4 h37)))
abbrev rmSequence_push : Room := { frames := 1, cells := 0, slots := 0, locals := 24 }
set_option maxHeartbeats 4000000 in
set_option maxRecDepth 100000 in
theorem cSequence_push (l : Launch) (D : va_G) (tys : List (ClassId × FieldType)) (N : Nat) (ad : Nat → Nat) (F : zSh) (A : Nat → Prop) (hJ : zJ A N ad) (cI : ClassId) (hI : tys[0]? = some (cI, .int)) (o : Nat) (hq : zSeq N ad F cI o) (x1 : Int32) (h : zM) (post : Int32 → zM → Prop) (hw : wpSequence_push o x1 h post) : Met l ySequence_push (.code ySequence_push bSequence_push 3 (some .int) :: zt) rmSequence_push (va_Pc [.ref (ad o), .int x1] (zPre D tys N ad F A h)) (va_Qi post (zPst D tys N ad F) A) 0 0 A := by
  refine Met.ofW (cc := bSequence_push) (maxL := 3) (ret := (some .int)) (by decide) rfl ?_
  intro p e s m args below meth c s₁ B hml hv
  obtain ⟨rfl, hP, hK, hT, hN⟩ := hv
  have hr := B.returns
  have hlk := B.notSynchronized
  have S : zS p m c bSequence_push 3 s _ "CallExplorer$Sequence" := ⟨B.exec, B.bytes, hml, findClass_of_methodNamed B.named, fun w hw => atoms_spec (ws := .code ySequence_push bSequence_push 3 (some .int) :: zt) B.pre w (List.mem_cons_of_mem _ hw)⟩
  have hS : va_S A s.heap s.heap [] := va_S.rf
  have hl := lv_entry ([.ref (ad o), .int x1]) (n := 3) (Nat.le_of_ble_eq_true rfl)
  rw [lg_entry_eq]
  generalize (lg_sl ([.ref (ad o), .int x1]) ++ List.replicate (3 - (lg_sl ([.ref (ad o), .int x1])).length) Slot.unset).toArray = ls at hl ⊢
  have hl : lv_has ls 3 [(0, .ref (ad o)), (1, .int x1)] := hl
  show W p l e rmSequence_push s m ([.ref (ad o), .int x1] : List Value).toArray below meth c s.heap [] 0 0 (zQi post D tys N ad F A below ([.ref (ad o), .int x1] : List Value).toArray s) _
  unfold wpSequence_push at hw
  refine lv_aload_n S.1 S.2.1 dSequence_push_0 rfl (lv_at hl 0 rfl) ?_
  refine zr_get S hK hP (Nat.lt_of_succ_lt (hq).1) ((hq).2.1 _) fSequence_size q182 rfl dSequence_push_1 ?_
  refine lv_topi (fun y4 e4 => ?_)
  have hw := hw y4 e4
  refine lv_istore_n (lv' := [(2, .int y4), (0, .ref (ad o)), (1, .int x1)]) S.1 S.2.1 dSequence_push_4 rfl hl (by decide) rfl (fun ls hl => ?_)
  refine lv_aload_n S.1 S.2.1 dSequence_push_5 rfl (lv_at hl 1 rfl) ?_
  refine zr_get S hK hP (Nat.lt_of_succ_lt (hq).1) ((hq).2.1 _) fSequence_cells q185 rfl dSequence_push_6 ?_
  refine lv_iload_n S.1 S.2.1 dSequence_push_9 rfl (lv_at hl 0 rfl) ?_
  refine lv_iconst (v := 5) S.1 S.2.1 dSequence_push_10 (by decide) ?_
  refine lv_imul S.1 S.2.1 dSequence_push_11 ?_
  refine lv_iload_n S.1 S.2.1 dSequence_push_12 rfl (lv_at hl 2 rfl) ?_
  obtain ⟨z13, hw⟩ := hw
  refine zr_ast S hK hJ hP hS (hq).1 (hq).2.2 0 hI z13 dSequence_push_13 (fun h13 H locs e13 hP hS => ?_)
  have hw := hw h13 e13
  refine lv_aload_n S.1 S.2.1 dSequence_push_14 rfl (lv_at hl 1 rfl) ?_
  refine lv_iload_n S.1 S.2.1 dSequence_push_15 rfl (lv_at hl 0 rfl) ?_
  refine lv_iconst (v := 0) S.1 S.2.1 dSequence_push_16 (by decide) ?_
  refine lv_iconst (v := (-1)) S.1 S.2.1 dSequence_push_17 (by decide) ?_
  refine lv_iconst (v := 0) S.1 S.2.1 dSequence_push_18 (by decide) ?_
  refine zr_v (zr_V (As := [.int y4, .int 0, .int (-1), .int 0]) (rest := []) S hK hT hN hP hS (Nat.lt_of_succ_lt (hq).1) ((hq).2.1 _) rfl (cSequence_setArgument l D tys N ad F A hJ cI hI o hq _ _ _ _ _ _ hw) caSequence_19 ⟨Nat.le_of_ble_eq_true rfl, Nat.le_of_ble_eq_true rfl⟩ ⟨rfl, rfl⟩ rfl hl.1 rfl (Nat.le_of_ble_eq_true rfl) dSequence_push_19) hS (fun h19 H locs hw hP hS => ?_)
  refine lv_aload_n S.1 S.2.1 dSequence_push_22 rfl (lv_at hl 1 rfl) ?_
  refine lv_iload_n S.1 S.2.1 dSequence_push_23 rfl (lv_at hl 0 rfl) ?_
  refine lv_iconst (v := 1) S.1 S.2.1 dSequence_push_24 (by decide) ?_
  refine lv_iconst (v := (-1)) S.1 S.2.1 dSequence_push_25 (by decide) ?_
  refine lv_iconst (v := 0) S.1 S.2.1 dSequence_push_26 (by decide) ?_
  refine zr_v (zr_V (As := [.int y4, .int 1, .int (-1), .int 0]) (rest := []) S hK hT hN hP hS (Nat.lt_of_succ_lt (hq).1) ((hq).2.1 _) rfl (cSequence_setArgument l D tys N ad F A hJ cI hI o hq _ _ _ _ _ _ hw) caSequence_19 ⟨Nat.le_of_ble_eq_true rfl, Nat.le_of_ble_eq_true rfl⟩ ⟨rfl, rfl⟩ rfl hl.1 rfl (Nat.le_of_ble_eq_true rfl) dSequence_push_27) hS (fun h27 H locs hw hP hS => ?_)
  refine lv_aload_n S.1 S.2.1 dSequence_push_30 rfl (lv_at hl 1 rfl) ?_
  refine lv_dup S.1 S.2.1 dSequence_push_31 rfl ?_
  refine zr_get S hK hP (Nat.lt_of_succ_lt (hq).1) ((hq).2.1 _) fSequence_size q182 rfl dSequence_push_32 ?_
  refine lv_iconst (v := 1) S.1 S.2.1 dSequence_push_35 (by decide) ?_
  refine lv_iadd S.1 S.2.1 dSequence_push_36 ?_
  refine zr_put S hK hJ hP hS (Nat.lt_of_succ_lt (hq).1) ((hq).2.1 _) fSequence_size q182 rfl rfl (Nat.le_of_ble_eq_true rfl) ((hq).2.1 _) dSequence_push_37 (fun h37 H locs e37 hP hS => ?_)
  have hw := hw h37 e37
  refine lv_iload_n S.1 S.2.1 dSequence_push_40 rfl (lv_at hl 0 rfl) ?_
  exact zr_iret S hr hlk hK hP hS rfl hw dSequence_push_41
/-! Sequence.moveVariables -/
theorem dSequence_moveVariables_0 : decode bSequence_moveVariables 0 = .ok (.iload_n 1, 1) := by decide +kernel
theorem dSequence_moveVariables_1 : decode bSequence_moveVariables 1 = .ok (.istore 4, 2) := by decide +kernel
theorem dSequence_moveVariables_3 : decode bSequence_moveVariables 3 = .ok (.iload 4, 2) := by decide +kernel
theorem dSequence_moveVariables_5 : decode bSequence_moveVariables 5 = .ok (.aload_n 0, 1) := by decide +kernel
theorem dSequence_moveVariables_6 : decode bSequence_moveVariables 6 = .ok (.getfield 15, 3) := by decide +kernel
theorem dSequence_moveVariables_9 : decode bSequence_moveVariables 9 = .ok (.if_icmp .ge 66, 3) := by decide +kernel
theorem dSequence_moveVariables_12 : decode bSequence_moveVariables 12 = .ok (.iconst 0, 1) := by decide +kernel
theorem dSequence_moveVariables_13 : decode bSequence_moveVariables 13 = .ok (.istore 5, 2) := by decide +kernel
theorem dSequence_moveVariables_15 : decode bSequence_moveVariables 15 = .ok (.iload 5, 2) := by decide +kernel
theorem dSequence_moveVariables_17 : decode bSequence_moveVariables 17 = .ok (.iconst 2, 1) := by decide +kernel
theorem dSequence_moveVariables_18 : decode bSequence_moveVariables 18 = .ok (.if_icmp .ge 51, 3) := by decide +kernel
theorem dSequence_moveVariables_21 : decode bSequence_moveVariables 21 = .ok (.aload_n 0, 1) := by decide +kernel
theorem dSequence_moveVariables_22 : decode bSequence_moveVariables 22 = .ok (.iload 4, 2) := by decide +kernel
theorem dSequence_moveVariables_24 : decode bSequence_moveVariables 24 = .ok (.iload 5, 2) := by decide +kernel
theorem dSequence_moveVariables_26 : decode bSequence_moveVariables 26 = .ok (.invokevirtual 33, 3) := by decide +kernel
theorem dSequence_moveVariables_29 : decode bSequence_moveVariables 29 = .ok (.ifCond .eq 34, 3) := by decide +kernel
theorem dSequence_moveVariables_32 : decode bSequence_moveVariables 32 = .ok (.aload_n 0, 1) := by decide +kernel
theorem dSequence_moveVariables_33 : decode bSequence_moveVariables 33 = .ok (.iload 4, 2) := by decide +kernel
theorem dSequence_moveVariables_35 : decode bSequence_moveVariables 35 = .ok (.iload 5, 2) := by decide +kernel
theorem dSequence_moveVariables_37 : decode bSequence_moveVariables 37 = .ok (.invokevirtual 37, 3) := by decide +kernel
theorem dSequence_moveVariables_40 : decode bSequence_moveVariables 40 = .ok (.iload_n 2, 1) := by decide +kernel
theorem dSequence_moveVariables_41 : decode bSequence_moveVariables 41 = .ok (.if_icmp .lt 22, 3) := by decide +kernel
theorem dSequence_moveVariables_44 : decode bSequence_moveVariables 44 = .ok (.aload_n 0, 1) := by decide +kernel
theorem dSequence_moveVariables_45 : decode bSequence_moveVariables 45 = .ok (.iload 4, 2) := by decide +kernel
theorem dSequence_moveVariables_47 : decode bSequence_moveVariables 47 = .ok (.iload 5, 2) := by decide +kernel
theorem dSequence_moveVariables_49 : decode bSequence_moveVariables 49 = .ok (.iconst 0, 1) := by decide +kernel
theorem dSequence_moveVariables_50 : decode bSequence_moveVariables 50 = .ok (.aload_n 0, 1) := by decide +kernel
theorem dSequence_moveVariables_51 : decode bSequence_moveVariables 51 = .ok (.iload 4, 2) := by decide +kernel
theorem dSequence_moveVariables_53 : decode bSequence_moveVariables 53 = .ok (.iload 5, 2) := by decide +kernel
theorem dSequence_moveVariables_55 : decode bSequence_moveVariables 55 = .ok (.invokevirtual 37, 3) := by decide +kernel
theorem dSequence_moveVariables_58 : decode bSequence_moveVariables 58 = .ok (.iload_n 3, 1) := by decide +kernel
theorem dSequence_moveVariables_59 : decode bSequence_moveVariables 59 = .ok (.iadd, 1) := by decide +kernel
theorem dSequence_moveVariables_60 : decode bSequence_moveVariables 60 = .ok (.invokevirtual 19, 3) := by decide +kernel
theorem dSequence_moveVariables_63 : decode bSequence_moveVariables 63 = .ok (.iinc 5 1, 3) := by decide +kernel
theorem dSequence_moveVariables_66 : decode bSequence_moveVariables 66 = .ok (.goto (-51), 3) := by decide +kernel
theorem dSequence_moveVariables_69 : decode bSequence_moveVariables 69 = .ok (.iinc 4 1, 3) := by decide +kernel
theorem dSequence_moveVariables_72 : decode bSequence_moveVariables 72 = .ok (.goto (-69), 3) := by decide +kernel
theorem dSequence_moveVariables_75 : decode bSequence_moveVariables 75 = .ok (.return_, 1) := by decide +kernel
def wbSequence_moveVariables_63 (o : Nat) (post : zM → Prop) (L3 : (Int32 × Int32 × Int32 × zM) → Prop) (L15 : (Int32 × Int32 × Int32 × Int32 × zM) → Prop) (v2 : Int32) (v3 : Int32) (v4 : Int32) (v5 : Int32) (h : zM) : Prop := L15 (v2, v3, v4, (v5 + 1), h)
def stSequence_moveVariables_15 (o : Nat) (post : zM → Prop) (L3 : (Int32 × Int32 × Int32 × zM) → Prop) (L15 : (Int32 × Int32 × Int32 × Int32 × zM) → Prop) : (Int32 × Int32 × Int32 × Int32 × zM) → Prop := fun s => match s with
  | (v2, v3, v4, v5, h) => (((2 ≤ v5) → L3 (v2, v3, (v4 + 1), h)) ∧ (¬ (2 ≤ v5) → wpSequence_isVariable o v4 v5 h (fun r26 h26 => ((r26 = 0 → wbSequence_moveVariables_63 o post L3 L15 v2 v3 v4 v5 h26) ∧ (¬ r26 = 0 → wpSequence_content o v4 v5 h26 (fun r37 h37 => (((r37 < v2) → wbSequence_moveVariables_63 o post L3 L15 v2 v3 v4 v5 h37) ∧ (¬ (r37 < v2) → wpSequence_content o v4 v5 h37 (fun r55 h55 => wpSequence_setArgument o v4 v5 0 (r55 + v3) h55 (fun h60 => wbSequence_moveVariables_63 o post L3 L15 v2 v3 v4 v5 h60))))))))))
def stSequence_moveVariables_3 (o : Nat) (post : zM → Prop) (L3 : (Int32 × Int32 × Int32 × zM) → Prop) : (Int32 × Int32 × Int32 × zM) → Prop := fun s => match s with
  | (v2, v3, v4, h) => ((((h o 0) ≤ v4) → post h) ∧ (¬ ((h o 0) ≤ v4) → zL (stSequence_moveVariables_15 o post L3) (v2, v3, v4, 0, h)))
def wpSequence_moveVariables (o : Nat) (x1 : Int32) (x2 : Int32) (x3 : Int32) (h : zM) (post : zM → Prop) : Prop := zL (stSequence_moveVariables_3 o post) (x2, x3, x1, h)
abbrev rmSequence_moveVariables : Room := { frames := 1, cells := 0, slots := 0, locals := 24 }
set_option maxHeartbeats 4000000 in
set_option maxRecDepth 100000 in
theorem cSequence_moveVariables (l : Launch) (D : va_G) (tys : List (ClassId × FieldType)) (N : Nat) (ad : Nat → Nat) (F : zSh) (A : Nat → Prop) (hJ : zJ A N ad) (cI : ClassId) (hI : tys[0]? = some (cI, .int)) (o : Nat) (hq : zSeq N ad F cI o) (x1 : Int32) (x2 : Int32) (x3 : Int32) (h : zM) (post : zM → Prop) (hw : wpSequence_moveVariables o x1 x2 x3 h post) : Met l ySequence_moveVariables (.code ySequence_moveVariables bSequence_moveVariables 6 none :: zt) rmSequence_moveVariables (va_Pc [.ref (ad o), .int x1, .int x2, .int x3] (zPre D tys N ad F A h)) (va_Qv post (zPst D tys N ad F) A) 0 0 A := by
  refine Met.ofW (cc := bSequence_moveVariables) (maxL := 6) (ret := none) (by decide) rfl ?_
  intro p e s m args below meth c s₁ B hml hv
  obtain ⟨rfl, hP, hK, hT, hN⟩ := hv
  have hr := B.returns
  have hlk := B.notSynchronized
  have S : zS p m c bSequence_moveVariables 6 s _ "CallExplorer$Sequence" := ⟨B.exec, B.bytes, hml, findClass_of_methodNamed B.named, fun w hw => atoms_spec (ws := .code ySequence_moveVariables bSequence_moveVariables 6 none :: zt) B.pre w (List.mem_cons_of_mem _ hw)⟩
  have hS : va_S A s.heap s.heap [] := va_S.rf
  have hl := lv_entry ([.ref (ad o), .int x1, .int x2, .int x3]) (n := 6) (Nat.le_of_ble_eq_true rfl)
  rw [lg_entry_eq]
  generalize (lg_sl ([.ref (ad o), .int x1, .int x2, .int x3]) ++ List.replicate (6 - (lg_sl ([.ref (ad o), .int x1, .int x2, .int x3])).length) Slot.unset).toArray = ls at hl ⊢
  have hl : lv_has ls 6 [(0, .ref (ad o)), (1, .int x1), (2, .int x2), (3, .int x3)] := hl
  show W p l e rmSequence_moveVariables s m ([.ref (ad o), .int x1, .int x2, .int x3] : List Value).toArray below meth c s.heap [] 0 0 (zQv post D tys N ad F A below ([.ref (ad o), .int x1, .int x2, .int x3] : List Value).toArray s) _
  have J3 : ∀ (fu : Nat) (v2 : Int32) (v3 : Int32) (v4 : Int32) (h : zM) (H : Heap) (locs : List Loc) (ls : Array Slot), zl (stSequence_moveVariables_3 o post) fu (v2, v3, v4, h) → lv_has ls 6 [(0, .ref (ad o)), (2, .int v2), (3, .int v3), (4, .int v4)] → va_P D zcl (zW N ad F h) H → va_S A s.heap H locs → W p l e rmSequence_moveVariables s m ([.ref (ad o), .int x1, .int x2, .int x3] : List Value).toArray below meth c H locs 0 0 (zQv post D tys N ad F A below ([.ref (ad o), .int x1, .int x2, .int x3] : List Value).toArray s) (F0 m 3 ls []) := by
    intro fu3
    induction fu3 with
    | zero =>
      intro v2 v3 v4 h H locs ls hw
      exact (zl_0 hw).elim
    | succ fu3 ih3 =>
      intro v2 v3 v4 h H locs ls hw hl hP hS
      have hw := zl_s hw
      generalize zl (stSequence_moveVariables_3 o post) fu3 = L3 at hw ih3
      have J15 : ∀ (fu : Nat) (v2 : Int32) (v3 : Int32) (v4 : Int32) (v5 : Int32) (h : zM) (H : Heap) (locs : List Loc) (ls : Array Slot), zl (stSequence_moveVariables_15 o post L3) fu (v2, v3, v4, v5, h) → lv_has ls 6 [(0, .ref (ad o)), (2, .int v2), (3, .int v3), (4, .int v4), (5, .int v5)] → va_P D zcl (zW N ad F h) H → va_S A s.heap H locs → W p l e rmSequence_moveVariables s m ([.ref (ad o), .int x1, .int x2, .int x3] : List Value).toArray below meth c H locs 0 0 (zQv post D tys N ad F A below ([.ref (ad o), .int x1, .int x2, .int x3] : List Value).toArray s) (F0 m 15 ls []) := by
        intro fu15
        induction fu15 with
        | zero =>
          intro v2 v3 v4 v5 h H locs ls hw
          exact (zl_0 hw).elim
        | succ fu15 ih15 =>
          intro v2 v3 v4 v5 h H locs ls hw hl hP hS
          have hw := zl_s hw
          generalize zl (stSequence_moveVariables_15 o post L3) fu15 = L15 at hw ih15
          have J63 : ∀ (v2 : Int32) (v3 : Int32) (v4 : Int32) (v5 : Int32) (h : zM) (H : Heap) (locs : List Loc) (ls : Array Slot), wbSequence_moveVariables_63 o post L3 L15 v2 v3 v4 v5 h → lv_has ls 6 [(0, .ref (ad o)), (2, .int v2), (3, .int v3), (4, .int v4), (5, .int v5)] → va_P D zcl (zW N ad F h) H → va_S A s.heap H locs → W p l e rmSequence_moveVariables s m ([.ref (ad o), .int x1, .int x2, .int x3] : List Value).toArray below meth c H locs 0 0 (zQv post D tys N ad F A below ([.ref (ad o), .int x1, .int x2, .int x3] : List Value).toArray s) (F0 m 63 ls []) := by
            intro v2 v3 v4 v5 h H locs ls hw hl hP hS
            unfold wbSequence_moveVariables_63 at hw
            refine lv_iinc (v := (v5 + 1)) (lv' := [(5, .int (v5 + 1)), (0, .ref (ad o)), (2, .int v2), (3, .int v3), (4, .int v4)]) (k := 4) S.1 S.2.1 dSequence_moveVariables_63 hl rfl rfl (by decide) rfl (fun ls hl => ?_)
            refine lv_goto S.1 S.2.1 dSequence_moveVariables_66 rfl ?_
            exact ih15 _ _ _ _ _ _ _ _ hw (lv_sub hl [1, 2, 3, 4, 0] rfl) hP hS
          unfold stSequence_moveVariables_15 at hw
          dsimp only at hw
          refine lv_iload S.1 S.2.1 dSequence_moveVariables_15 (lv_at hl 4 rfl) ?_
          refine lv_iconst (v := 2) S.1 S.2.1 dSequence_moveVariables_17 (by decide) ?_
          refine lv_icmp_ge S.1 S.2.1 dSequence_moveVariables_18 rfl (fun hc => ?_) (fun hc => ?_)
          · have hw := hw.1 hc
            refine lv_iinc (v := (v4 + 1)) (lv' := [(4, .int (v4 + 1)), (0, .ref (ad o)), (2, .int v2), (3, .int v3), (5, .int v5)]) (k := 3) S.1 S.2.1 dSequence_moveVariables_69 hl rfl rfl (by decide) rfl (fun ls hl => ?_)
            refine lv_goto S.1 S.2.1 dSequence_moveVariables_72 rfl ?_
            exact ih3 _ _ _ _ _ _ _ hw (lv_sub hl [1, 2, 3, 0] rfl) hP hS
          · have hw := hw.2 hc
            refine lv_aload_n S.1 S.2.1 dSequence_moveVariables_21 rfl (lv_at hl 0 rfl) ?_
            refine lv_iload S.1 S.2.1 dSequence_moveVariables_22 (lv_at hl 3 rfl) ?_
            refine lv_iload S.1 S.2.1 dSequence_moveVariables_24 (lv_at hl 4 rfl) ?_
            refine zr_i (zr_V (As := [.int v4, .int v5]) (rest := []) S hK hT hN hP hS (Nat.lt_of_succ_lt (hq).1) ((hq).2.1 _) rfl (cSequence_isVariable l D tys N ad F A hJ cI hI o hq _ _ _ _ hw) caSequence_33 ⟨Nat.le_of_ble_eq_true rfl, Nat.le_of_ble_eq_true rfl⟩ ⟨rfl, rfl⟩ rfl hl.1 rfl (Nat.le_of_ble_eq_true rfl) dSequence_moveVariables_26) hS (fun r26 h26 H locs hw hP hS => ?_)
            refine lv_if_eq S.1 S.2.1 dSequence_moveVariables_29 rfl (fun hc => ?_) (fun hc => ?_)
            · have hw := hw.1 hc
              exact J63 _ _ _ _ _ _ _ _ hw (lv_sub hl [0, 1, 2, 3, 4] rfl) hP hS
            · have hw := hw.2 hc
              refine lv_aload_n S.1 S.2.1 dSequence_moveVariables_32 rfl (lv_at hl 0 rfl) ?_
              refine lv_iload S.1 S.2.1 dSequence_moveVariables_33 (lv_at hl 3 rfl) ?_
              refine lv_iload S.1 S.2.1 dSequence_moveVariables_35 (lv_at hl 4 rfl) ?_
              refine zr_i (zr_V (As := [.int v4, .int v5]) (rest := []) S hK hT hN hP hS (Nat.lt_of_succ_lt (hq).1) ((hq).2.1 _) rfl (cSequence_content l D tys N ad F A hJ cI hI o hq _ _ _ _ hw) caSequence_37 ⟨Nat.le_of_ble_eq_true rfl, Nat.le_of_ble_eq_true rfl⟩ ⟨rfl, rfl⟩ rfl hl.1 rfl (Nat.le_of_ble_eq_true rfl) dSequence_moveVariables_37) hS (fun r37 h37 H locs hw hP hS => ?_)
              refine lv_iload_n S.1 S.2.1 dSequence_moveVariables_40 rfl (lv_at hl 1 rfl) ?_
              refine lv_icmp_lt S.1 S.2.1 dSequence_moveVariables_41 rfl (fun hc => ?_) (fun hc => ?_)
              · have hw := hw.1 hc
                exact J63 _ _ _ _ _ _ _ _ hw (lv_sub hl [0, 1, 2, 3, 4] rfl) hP hS
              · have hw := hw.2 hc
                refine lv_aload_n S.1 S.2.1 dSequence_moveVariables_44 rfl (lv_at hl 0 rfl) ?_
                refine lv_iload S.1 S.2.1 dSequence_moveVariables_45 (lv_at hl 3 rfl) ?_
                refine lv_iload S.1 S.2.1 dSequence_moveVariables_47 (lv_at hl 4 rfl) ?_
                refine lv_iconst (v := 0) S.1 S.2.1 dSequence_moveVariables_49 (by decide) ?_
                refine lv_aload_n S.1 S.2.1 dSequence_moveVariables_50 rfl (lv_at hl 0 rfl) ?_
                refine lv_iload S.1 S.2.1 dSequence_moveVariables_51 (lv_at hl 3 rfl) ?_
                refine lv_iload S.1 S.2.1 dSequence_moveVariables_53 (lv_at hl 4 rfl) ?_
                refine zr_i (zr_V (As := [.int v4, .int v5]) (rest := [.int 0, .int v5, .int v4, .ref (ad o)]) S hK hT hN hP hS (Nat.lt_of_succ_lt (hq).1) ((hq).2.1 _) rfl (cSequence_content l D tys N ad F A hJ cI hI o hq _ _ _ _ hw) caSequence_37 ⟨Nat.le_of_ble_eq_true rfl, Nat.le_of_ble_eq_true rfl⟩ ⟨rfl, rfl⟩ rfl hl.1 rfl (Nat.le_of_ble_eq_true rfl) dSequence_moveVariables_55) hS (fun r55 h55 H locs hw hP hS => ?_)
                refine lv_iload_n S.1 S.2.1 dSequence_moveVariables_58 rfl (lv_at hl 2 rfl) ?_
                refine lv_iadd S.1 S.2.1 dSequence_moveVariables_59 ?_
                refine zr_v (zr_V (As := [.int v4, .int v5, .int 0, .int (r55 + v3)]) (rest := []) S hK hT hN hP hS (Nat.lt_of_succ_lt (hq).1) ((hq).2.1 _) rfl (cSequence_setArgument l D tys N ad F A hJ cI hI o hq _ _ _ _ _ _ hw) caSequence_19 ⟨Nat.le_of_ble_eq_true rfl, Nat.le_of_ble_eq_true rfl⟩ ⟨rfl, rfl⟩ rfl hl.1 rfl (Nat.le_of_ble_eq_true rfl) dSequence_moveVariables_60) hS (fun h60 H locs hw hP hS => ?_)
                exact J63 _ _ _ _ _ _ _ _ hw (lv_sub hl [0, 1, 2, 3, 4] rfl) hP hS
      unfold stSequence_moveVariables_3 at hw
      dsimp only at hw
      refine lv_iload S.1 S.2.1 dSequence_moveVariables_3 (lv_at hl 3 rfl) ?_
      refine lv_aload_n S.1 S.2.1 dSequence_moveVariables_5 rfl (lv_at hl 0 rfl) ?_
      refine zr_get S hK hP (Nat.lt_of_succ_lt (hq).1) ((hq).2.1 _) fSequence_size q182 rfl dSequence_moveVariables_6 ?_
      refine lv_icmp_ge S.1 S.2.1 dSequence_moveVariables_9 rfl (fun hc => ?_) (fun hc => ?_)
      · have hw := hw.1 hc
        exact zr_vret S hr hlk hK hP hS hw dSequence_moveVariables_75
      · have hw := hw.2 hc
        refine lv_iconst (v := 0) S.1 S.2.1 dSequence_moveVariables_12 (by decide) ?_
        refine lv_istore (lv' := [(5, .int 0), (0, .ref (ad o)), (2, .int v2), (3, .int v3), (4, .int v4)]) S.1 S.2.1 dSequence_moveVariables_13 hl (by decide) rfl (fun ls hl => ?_)
        obtain ⟨fu, hw⟩ := hw
        exact J15 fu _ _ _ _ _ _ _ _ hw (lv_sub hl [1, 2, 3, 4, 0] rfl) hP hS
  unfold wpSequence_moveVariables at hw
  refine lv_iload_n S.1 S.2.1 dSequence_moveVariables_0 rfl (lv_at hl 1 rfl) ?_
  refine lv_istore (lv' := [(4, .int x1), (0, .ref (ad o)), (1, .int x1), (2, .int x2), (3, .int x3)]) S.1 S.2.1 dSequence_moveVariables_1 hl (by decide) rfl (fun ls hl => ?_)
  obtain ⟨fu, hw⟩ := hw
  exact J3 fu _ _ _ _ _ _ _ hw (lv_sub hl [1, 3, 4, 0] rfl) hP hS
/-! Sequence.append -/
theorem dSequence_append_0 : decode bSequence_append 0 = .ok (.aload_n 0, 1) := by decide +kernel
theorem dSequence_append_1 : decode bSequence_append 1 = .ok (.getfield 15, 3) := by decide +kernel
theorem dSequence_append_4 : decode bSequence_append 4 = .ok (.istore_n 2, 1) := by decide +kernel
theorem dSequence_append_5 : decode bSequence_append 5 = .ok (.aload_n 1, 1) := by decide +kernel
theorem dSequence_append_6 : decode bSequence_append 6 = .ok (.getfield 9, 3) := by decide +kernel
theorem dSequence_append_9 : decode bSequence_append 9 = .ok (.iconst 0, 1) := by decide +kernel
theorem dSequence_append_10 : decode bSequence_append 10 = .ok (.aload_n 0, 1) := by decide +kernel
theorem dSequence_append_11 : decode bSequence_append 11 = .ok (.getfield 9, 3) := by decide +kernel
theorem dSequence_append_14 : decode bSequence_append 14 = .ok (.iload_n 2, 1) := by decide +kernel
theorem dSequence_append_15 : decode bSequence_append 15 = .ok (.iconst 5, 1) := by decide +kernel
theorem dSequence_append_16 : decode bSequence_append 16 = .ok (.imul, 1) := by decide +kernel
theorem dSequence_append_17 : decode bSequence_append 17 = .ok (.aload_n 1, 1) := by decide +kernel
theorem dSequence_append_18 : decode bSequence_append 18 = .ok (.getfield 15, 3) := by decide +kernel
theorem dSequence_append_21 : decode bSequence_append 21 = .ok (.iconst 5, 1) := by decide +kernel
theorem dSequence_append_22 : decode bSequence_append 22 = .ok (.imul, 1) := by decide +kernel
theorem dSequence_append_23 : decode bSequence_append 23 = .ok (.invokestatic 23, 3) := by decide +kernel
theorem dSequence_append_26 : decode bSequence_append 26 = .ok (.aload_n 0, 1) := by decide +kernel
theorem dSequence_append_27 : decode bSequence_append 27 = .ok (.dup, 1) := by decide +kernel
theorem dSequence_append_28 : decode bSequence_append 28 = .ok (.getfield 15, 3) := by decide +kernel
theorem dSequence_append_31 : decode bSequence_append 31 = .ok (.aload_n 1, 1) := by decide +kernel
theorem dSequence_append_32 : decode bSequence_append 32 = .ok (.getfield 15, 3) := by decide +kernel
theorem dSequence_append_35 : decode bSequence_append 35 = .ok (.iadd, 1) := by decide +kernel
theorem dSequence_append_36 : decode bSequence_append 36 = .ok (.putfield 15, 3) := by decide +kernel
theorem dSequence_append_39 : decode bSequence_append 39 = .ok (.aload_n 0, 1) := by decide +kernel
theorem dSequence_append_40 : decode bSequence_append 40 = .ok (.iload_n 2, 1) := by decide +kernel
theorem dSequence_append_41 : decode bSequence_append 41 = .ok (.iconst 0, 1) := by decide +kernel
theorem dSequence_append_42 : decode bSequence_append 42 = .ok (.iload_n 2, 1) := by decide +kernel
theorem dSequence_append_43 : decode bSequence_append 43 = .ok (.invokevirtual 29, 3) := by decide +kernel
theorem dSequence_append_46 : decode bSequence_append 46 = .ok (.return_, 1) := by decide +kernel
def wpSequence_append (o : Nat) (o1 : Nat) (h : zM) (post : zM → Prop) : Prop := ∀ y4 : Int32, y4 = (h o 0) → (¬ (0 : Int32) < 0 ∧ ¬ (y4 * 5) < 0 ∧ ¬ ((h o1 0) * 5) < 0 ∧ Int32.toNatClampNeg 0 + Int32.toNatClampNeg ((h o1 0) * 5) ≤ 50 ∧ Int32.toNatClampNeg (y4 * 5) + Int32.toNatClampNeg ((h o1 0) * 5) ≤ 50 ∧ ∀ h23 : zM, h23 = va_up h (o + 1) (va_cpy (h (o1 + 1)) (h (o + 1)) (Int32.toNatClampNeg 0) (Int32.toNatClampNeg (y4 * 5)) (Int32.toNatClampNeg ((h o1 0) * 5))) → ∀ h36 : zM, h36 = zu h23 o 0 ((h23 o 0) + (h23 o1 0)) → wpSequence_moveVariables o y4 0 y4 h36 (fun h43 => post h43))
abbrev rmSequence_append : Room := { frames := 2, cells := 0, slots := 0, locals := 49 }
set_option maxHeartbeats 4000000 in
set_option maxRecDepth 100000 in
theorem cSequence_append (l : Launch) (D : va_G) (tys : List (ClassId × FieldType)) (N : Nat) (ad : Nat → Nat) (F : zSh) (A : Nat → Prop) (hJ : zJ A N ad) (cI : ClassId) (hI : tys[0]? = some (cI, .int)) (o : Nat) (hq : zSeq N ad F cI o) (o1 : Nat) (hq1 : zSeq N ad F cI o1) (h : zM) (post : zM → Prop) (hw : wpSequence_append o o1 h post) : Met l ySequence_append (.code ySequence_append bSequence_append 3 none :: zt) rmSequence_append (va_Pc [.ref (ad o), .ref (ad o1)] (zPre D tys N ad F A h)) (va_Qv post (zPst D tys N ad F) A) 0 0 A := by
  refine Met.ofW (cc := bSequence_append) (maxL := 3) (ret := none) (by decide) rfl ?_
  intro p e s m args below meth c s₁ B hml hv
  obtain ⟨rfl, hP, hK, hT, hN⟩ := hv
  have hr := B.returns
  have hlk := B.notSynchronized
  have S : zS p m c bSequence_append 3 s _ "CallExplorer$Sequence" := ⟨B.exec, B.bytes, hml, findClass_of_methodNamed B.named, fun w hw => atoms_spec (ws := .code ySequence_append bSequence_append 3 none :: zt) B.pre w (List.mem_cons_of_mem _ hw)⟩
  have hS : va_S A s.heap s.heap [] := va_S.rf
  have hl := lv_entry ([.ref (ad o), .ref (ad o1)]) (n := 3) (Nat.le_of_ble_eq_true rfl)
  rw [lg_entry_eq]
  generalize (lg_sl ([.ref (ad o), .ref (ad o1)]) ++ List.replicate (3 - (lg_sl ([.ref (ad o), .ref (ad o1)])).length) Slot.unset).toArray = ls at hl ⊢
  have hl : lv_has ls 3 [(0, .ref (ad o)), (1, .ref (ad o1))] := hl
  show W p l e rmSequence_append s m ([.ref (ad o), .ref (ad o1)] : List Value).toArray below meth c s.heap [] 0 0 (zQv post D tys N ad F A below ([.ref (ad o), .ref (ad o1)] : List Value).toArray s) _
  unfold wpSequence_append at hw
  refine lv_aload_n S.1 S.2.1 dSequence_append_0 rfl (lv_at hl 0 rfl) ?_
  refine zr_get S hK hP (Nat.lt_of_succ_lt (hq).1) ((hq).2.1 _) fSequence_size q182 rfl dSequence_append_1 ?_
  refine lv_topi (fun y4 e4 => ?_)
  have hw := hw y4 e4
  refine lv_istore_n (lv' := [(2, .int y4), (0, .ref (ad o)), (1, .ref (ad o1))]) S.1 S.2.1 dSequence_append_4 rfl hl (by decide) rfl (fun ls hl => ?_)
  refine lv_aload_n S.1 S.2.1 dSequence_append_5 rfl (lv_at hl 2 rfl) ?_
  refine zr_get S hK hP (Nat.lt_of_succ_lt (hq1).1) ((hq1).2.1 _) fSequence_cells q185 rfl dSequence_append_6 ?_
  refine lv_iconst (v := 0) S.1 S.2.1 dSequence_append_9 (by decide) ?_
  refine lv_aload_n S.1 S.2.1 dSequence_append_10 rfl (lv_at hl 1 rfl) ?_
  refine zr_get S hK hP (Nat.lt_of_succ_lt (hq).1) ((hq).2.1 _) fSequence_cells q185 rfl dSequence_append_11 ?_
  refine lv_iload_n S.1 S.2.1 dSequence_append_14 rfl (lv_at hl 0 rfl) ?_
  refine lv_iconst (v := 5) S.1 S.2.1 dSequence_append_15 (by decide) ?_
  refine lv_imul S.1 S.2.1 dSequence_append_16 ?_
  refine lv_aload_n S.1 S.2.1 dSequence_append_17 rfl (lv_at hl 2 rfl) ?_
  refine zr_get S hK hP (Nat.lt_of_succ_lt (hq1).1) ((hq1).2.1 _) fSequence_size q182 rfl dSequence_append_18 ?_
  refine lv_iconst (v := 5) S.1 S.2.1 dSequence_append_21 (by decide) ?_
  refine lv_imul S.1 S.2.1 dSequence_append_22 ?_
  obtain ⟨a1, a2, a3, a4, a5, hw⟩ := hw
  refine zr_copy S hl.1 hK hJ hP hS (hq1).1 ((hq1).2.2 _) (hq).1 (hq).2.2 0 hI q416 q418 q417 q12 a1 a2 a3 a4 a5 (Nat.le_of_ble_eq_true rfl) (Nat.le_of_ble_eq_true rfl) dSequence_append_23 (fun h23 H locs e23 hP hS => ?_)
  have hw := hw h23 e23
  refine lv_aload_n S.1 S.2.1 dSequence_append_26 rfl (lv_at hl 1 rfl) ?_
  refine lv_dup S.1 S.2.1 dSequence_append_27 rfl ?_
  refine zr_get S hK hP (Nat.lt_of_succ_lt (hq).1) ((hq).2.1 _) fSequence_size q182 rfl dSequence_append_28 ?_
  refine lv_aload_n S.1 S.2.1 dSequence_append_31 rfl (lv_at hl 2 rfl) ?_
  refine zr_get S hK hP (Nat.lt_of_succ_lt (hq1).1) ((hq1).2.1 _) fSequence_size q182 rfl dSequence_append_32 ?_
  refine lv_iadd S.1 S.2.1 dSequence_append_35 ?_
  refine zr_put S hK hJ hP hS (Nat.lt_of_succ_lt (hq).1) ((hq).2.1 _) fSequence_size q182 rfl rfl (Nat.le_of_ble_eq_true rfl) ((hq).2.1 _) dSequence_append_36 (fun h36 H locs e36 hP hS => ?_)
  have hw := hw h36 e36
  refine lv_aload_n S.1 S.2.1 dSequence_append_39 rfl (lv_at hl 1 rfl) ?_
  refine lv_iload_n S.1 S.2.1 dSequence_append_40 rfl (lv_at hl 0 rfl) ?_
  refine lv_iconst (v := 0) S.1 S.2.1 dSequence_append_41 (by decide) ?_
  refine lv_iload_n S.1 S.2.1 dSequence_append_42 rfl (lv_at hl 0 rfl) ?_
  refine zr_v (zr_V (As := [.int y4, .int 0, .int y4]) (rest := []) S hK hT hN hP hS (Nat.lt_of_succ_lt (hq).1) ((hq).2.1 _) rfl (cSequence_moveVariables l D tys N ad F A hJ cI hI o hq _ _ _ _ _ hw) caSequence_29 ⟨Nat.le_of_ble_eq_true rfl, Nat.le_of_ble_eq_true rfl⟩ ⟨rfl, rfl⟩ rfl hl.1 rfl (Nat.le_of_ble_eq_true rfl) dSequence_append_43) hS (fun h43 H locs hw hP hS => ?_)
  exact zr_vret S hr hlk hK hP hS hw dSequence_append_46
/-! Sequence.copy -/
theorem dSequence_copy_0 : decode bSequence_copy 0 = .ok (.aload_n 1, 1) := by decide +kernel
theorem dSequence_copy_1 : decode bSequence_copy 1 = .ok (.getfield 9, 3) := by decide +kernel
theorem dSequence_copy_4 : decode bSequence_copy 4 = .ok (.iconst 0, 1) := by decide +kernel
theorem dSequence_copy_5 : decode bSequence_copy 5 = .ok (.aload_n 0, 1) := by decide +kernel
theorem dSequence_copy_6 : decode bSequence_copy 6 = .ok (.getfield 9, 3) := by decide +kernel
theorem dSequence_copy_9 : decode bSequence_copy 9 = .ok (.iconst 0, 1) := by decide +kernel
theorem dSequence_copy_10 : decode bSequence_copy 10 = .ok (.aload_n 1, 1) := by decide +kernel
theorem dSequence_copy_11 : decode bSequence_copy 11 = .ok (.getfield 15, 3) := by decide +kernel
theorem dSequence_copy_14 : decode bSequence_copy 14 = .ok (.iconst 5, 1) := by decide +kernel
theorem dSequence_copy_15 : decode bSequence_copy 15 = .ok (.imul, 1) := by decide +kernel
theorem dSequence_copy_16 : decode bSequence_copy 16 = .ok (.invokestatic 23, 3) := by decide +kernel
theorem dSequence_copy_19 : decode bSequence_copy 19 = .ok (.aload_n 0, 1) := by decide +kernel
theorem dSequence_copy_20 : decode bSequence_copy 20 = .ok (.aload_n 1, 1) := by decide +kernel
theorem dSequence_copy_21 : decode bSequence_copy 21 = .ok (.getfield 15, 3) := by decide +kernel
theorem dSequence_copy_24 : decode bSequence_copy 24 = .ok (.putfield 15, 3) := by decide +kernel
theorem dSequence_copy_27 : decode bSequence_copy 27 = .ok (.return_, 1) := by decide +kernel
def wpSequence_copy (o : Nat) (o1 : Nat) (h : zM) (post : zM → Prop) : Prop := (¬ (0 : Int32) < 0 ∧ ¬ (0 : Int32) < 0 ∧ ¬ ((h o1 0) * 5) < 0 ∧ Int32.toNatClampNeg 0 + Int32.toNatClampNeg ((h o1 0) * 5) ≤ 50 ∧ Int32.toNatClampNeg 0 + Int32.toNatClampNeg ((h o1 0) * 5) ≤ 50 ∧ ∀ h16 : zM, h16 = va_up h (o + 1) (va_cpy (h (o1 + 1)) (h (o + 1)) (Int32.toNatClampNeg 0) (Int32.toNatClampNeg 0) (Int32.toNatClampNeg ((h o1 0) * 5))) → ∀ h24 : zM, h24 = zu h16 o 0 (h16 o1 0) → post h24)
abbrev rmSequence_copy : Room := { frames := 1, cells := 0, slots := 0, locals := 18 }
set_option maxHeartbeats 4000000 in
set_option maxRecDepth 100000 in
theorem cSequence_copy (l : Launch) (D : va_G) (tys : List (ClassId × FieldType)) (N : Nat) (ad : Nat → Nat) (F : zSh) (A : Nat → Prop) (hJ : zJ A N ad) (cI : ClassId) (hI : tys[0]? = some (cI, .int)) (o : Nat) (hq : zSeq N ad F cI o) (o1 : Nat) (hq1 : zSeq N ad F cI o1) (h : zM) (post : zM → Prop) (hw : wpSequence_copy o o1 h post) : Met l ySequence_copy (.code ySequence_copy bSequence_copy 2 none :: zt) rmSequence_copy (va_Pc [.ref (ad o), .ref (ad o1)] (zPre D tys N ad F A h)) (va_Qv post (zPst D tys N ad F) A) 0 0 A := by
  refine Met.ofW (cc := bSequence_copy) (maxL := 2) (ret := none) (by decide) rfl ?_
  intro p e s m args below meth c s₁ B hml hv
  obtain ⟨rfl, hP, hK, hT, hN⟩ := hv
  have hr := B.returns
  have hlk := B.notSynchronized
  have S : zS p m c bSequence_copy 2 s _ "CallExplorer$Sequence" := ⟨B.exec, B.bytes, hml, findClass_of_methodNamed B.named, fun w hw => atoms_spec (ws := .code ySequence_copy bSequence_copy 2 none :: zt) B.pre w (List.mem_cons_of_mem _ hw)⟩
  have hS : va_S A s.heap s.heap [] := va_S.rf
  have hl := lv_entry ([.ref (ad o), .ref (ad o1)]) (n := 2) (Nat.le_of_ble_eq_true rfl)
  rw [lg_entry_eq]
  generalize (lg_sl ([.ref (ad o), .ref (ad o1)]) ++ List.replicate (2 - (lg_sl ([.ref (ad o), .ref (ad o1)])).length) Slot.unset).toArray = ls at hl ⊢
  have hl : lv_has ls 2 [(0, .ref (ad o)), (1, .ref (ad o1))] := hl
  show W p l e rmSequence_copy s m ([.ref (ad o), .ref (ad o1)] : List Value).toArray below meth c s.heap [] 0 0 (zQv post D tys N ad F A below ([.ref (ad o), .ref (ad o1)] : List Value).toArray s) _
  unfold wpSequence_copy at hw
  refine lv_aload_n S.1 S.2.1 dSequence_copy_0 rfl (lv_at hl 1 rfl) ?_
  refine zr_get S hK hP (Nat.lt_of_succ_lt (hq1).1) ((hq1).2.1 _) fSequence_cells q185 rfl dSequence_copy_1 ?_
  refine lv_iconst (v := 0) S.1 S.2.1 dSequence_copy_4 (by decide) ?_
  refine lv_aload_n S.1 S.2.1 dSequence_copy_5 rfl (lv_at hl 0 rfl) ?_
  refine zr_get S hK hP (Nat.lt_of_succ_lt (hq).1) ((hq).2.1 _) fSequence_cells q185 rfl dSequence_copy_6 ?_
  refine lv_iconst (v := 0) S.1 S.2.1 dSequence_copy_9 (by decide) ?_
  refine lv_aload_n S.1 S.2.1 dSequence_copy_10 rfl (lv_at hl 1 rfl) ?_
  refine zr_get S hK hP (Nat.lt_of_succ_lt (hq1).1) ((hq1).2.1 _) fSequence_size q182 rfl dSequence_copy_11 ?_
  refine lv_iconst (v := 5) S.1 S.2.1 dSequence_copy_14 (by decide) ?_
  refine lv_imul S.1 S.2.1 dSequence_copy_15 ?_
  obtain ⟨a1, a2, a3, a4, a5, hw⟩ := hw
  refine zr_copy S hl.1 hK hJ hP hS (hq1).1 ((hq1).2.2 _) (hq).1 (hq).2.2 0 hI q416 q418 q417 q12 a1 a2 a3 a4 a5 (Nat.le_of_ble_eq_true rfl) (Nat.le_of_ble_eq_true rfl) dSequence_copy_16 (fun h16 H locs e16 hP hS => ?_)
  have hw := hw h16 e16
  refine lv_aload_n S.1 S.2.1 dSequence_copy_19 rfl (lv_at hl 0 rfl) ?_
  refine lv_aload_n S.1 S.2.1 dSequence_copy_20 rfl (lv_at hl 1 rfl) ?_
  refine zr_get S hK hP (Nat.lt_of_succ_lt (hq1).1) ((hq1).2.1 _) fSequence_size q182 rfl dSequence_copy_21 ?_
  refine zr_put S hK hJ hP hS (Nat.lt_of_succ_lt (hq).1) ((hq).2.1 _) fSequence_size q182 rfl rfl (Nat.le_of_ble_eq_true rfl) ((hq).2.1 _) dSequence_copy_24 (fun h24 H locs e24 hP hS => ?_)
  have hw := hw h24 e24
  exact zr_vret S hr hlk hK hP hS hw dSequence_copy_27
/-! Sequence.same -/
theorem dSequence_same_0 : decode bSequence_same 0 = .ok (.aload_n 0, 1) := by decide +kernel
theorem dSequence_same_1 : decode bSequence_same 1 = .ok (.getfield 15, 3) := by decide +kernel
theorem dSequence_same_4 : decode bSequence_same 4 = .ok (.aload_n 1, 1) := by decide +kernel
theorem dSequence_same_5 : decode bSequence_same 5 = .ok (.getfield 15, 3) := by decide +kernel
theorem dSequence_same_8 : decode bSequence_same 8 = .ok (.if_icmp .eq 5, 3) := by decide +kernel
theorem dSequence_same_11 : decode bSequence_same 11 = .ok (.iconst 0, 1) := by decide +kernel
theorem dSequence_same_12 : decode bSequence_same 12 = .ok (.ireturn, 1) := by decide +kernel
theorem dSequence_same_13 : decode bSequence_same 13 = .ok (.iconst 0, 1) := by decide +kernel
theorem dSequence_same_14 : decode bSequence_same 14 = .ok (.istore_n 2, 1) := by decide +kernel
theorem dSequence_same_15 : decode bSequence_same 15 = .ok (.iload_n 2, 1) := by decide +kernel
theorem dSequence_same_16 : decode bSequence_same 16 = .ok (.aload_n 0, 1) := by decide +kernel
theorem dSequence_same_17 : decode bSequence_same 17 = .ok (.getfield 15, 3) := by decide +kernel
theorem dSequence_same_20 : decode bSequence_same 20 = .ok (.iconst 5, 1) := by decide +kernel
theorem dSequence_same_21 : decode bSequence_same 21 = .ok (.imul, 1) := by decide +kernel
theorem dSequence_same_22 : decode bSequence_same 22 = .ok (.if_icmp .ge 26, 3) := by decide +kernel
theorem dSequence_same_25 : decode bSequence_same 25 = .ok (.aload_n 0, 1) := by decide +kernel
theorem dSequence_same_26 : decode bSequence_same 26 = .ok (.getfield 9, 3) := by decide +kernel
theorem dSequence_same_29 : decode bSequence_same 29 = .ok (.iload_n 2, 1) := by decide +kernel
theorem dSequence_same_30 : decode bSequence_same 30 = .ok (.iaload, 1) := by decide +kernel
theorem dSequence_same_31 : decode bSequence_same 31 = .ok (.aload_n 1, 1) := by decide +kernel
theorem dSequence_same_32 : decode bSequence_same 32 = .ok (.getfield 9, 3) := by decide +kernel
theorem dSequence_same_35 : decode bSequence_same 35 = .ok (.iload_n 2, 1) := by decide +kernel
theorem dSequence_same_36 : decode bSequence_same 36 = .ok (.iaload, 1) := by decide +kernel
theorem dSequence_same_37 : decode bSequence_same 37 = .ok (.if_icmp .eq 5, 3) := by decide +kernel
theorem dSequence_same_40 : decode bSequence_same 40 = .ok (.iconst 0, 1) := by decide +kernel
theorem dSequence_same_41 : decode bSequence_same 41 = .ok (.ireturn, 1) := by decide +kernel
theorem dSequence_same_42 : decode bSequence_same 42 = .ok (.iinc 2 1, 3) := by decide +kernel
theorem dSequence_same_45 : decode bSequence_same 45 = .ok (.goto (-30), 3) := by decide +kernel
theorem dSequence_same_48 : decode bSequence_same 48 = .ok (.iconst 1, 1) := by decide +kernel
theorem dSequence_same_49 : decode bSequence_same 49 = .ok (.ireturn, 1) := by decide +kernel
def stSequence_same_15 (o : Nat) (o1 : Nat) (post : Int32 → zM → Prop) (L15 : (Int32 × zM) → Prop) : (Int32 × zM) → Prop := fun s => match s with
  | (v2, h) => (((((h o 0) * 5) ≤ v2) → post 1 h) ∧ (¬ (((h o 0) * 5) ≤ v2) → (vp_in v2 50 ∧ (vp_in v2 50 ∧ (((h (o + 1) (Int32.toNatClampNeg v2)) = (h (o1 + 1) (Int32.toNatClampNeg v2)) → L15 ((v2 + 1), h)) ∧ (¬ (h (o + 1) (Int32.toNatClampNeg v2)) = (h (o1 + 1) (Int32.toNatClampNeg v2)) → post 0 h))))))
def wpSequence_same (o : Nat) (o1 : Nat) (h : zM) (post : Int32 → zM → Prop) : Prop := (((h o 0) = (h o1 0) → zL (stSequence_same_15 o o1 post) (0, h)) ∧ (¬ (h o 0) = (h o1 0) → post 0 h))
abbrev rmSequence_same : Room := { frames := 0, cells := 0, slots := 0, locals := 0 }
set_option maxHeartbeats 4000000 in
set_option maxRecDepth 100000 in
theorem cSequence_same (l : Launch) (D : va_G) (tys : List (ClassId × FieldType)) (N : Nat) (ad : Nat → Nat) (F : zSh) (A : Nat → Prop) (hJ : zJ A N ad) (cI : ClassId) (hI : tys[0]? = some (cI, .int)) (o : Nat) (hq : zSeq N ad F cI o) (o1 : Nat) (hq1 : zSeq N ad F cI o1) (h : zM) (post : Int32 → zM → Prop) (hw : wpSequence_same o o1 h post) : Met l ySequence_same (.code ySequence_same bSequence_same 3 (some .boolean) :: zt) rmSequence_same (va_Pc [.ref (ad o), .ref (ad o1)] (zPre D tys N ad F A h)) (va_Qi post (zPst D tys N ad F) A) 0 0 A := by
  refine Met.ofW (cc := bSequence_same) (maxL := 3) (ret := (some .boolean)) (by decide) rfl ?_
  intro p e s m args below meth c s₁ B hml hv
  obtain ⟨rfl, hP, hK, hT, hN⟩ := hv
  have hr := B.returns
  have hlk := B.notSynchronized
  have S : zS p m c bSequence_same 3 s _ "CallExplorer$Sequence" := ⟨B.exec, B.bytes, hml, findClass_of_methodNamed B.named, fun w hw => atoms_spec (ws := .code ySequence_same bSequence_same 3 (some .boolean) :: zt) B.pre w (List.mem_cons_of_mem _ hw)⟩
  have hS : va_S A s.heap s.heap [] := va_S.rf
  have hl := lv_entry ([.ref (ad o), .ref (ad o1)]) (n := 3) (Nat.le_of_ble_eq_true rfl)
  rw [lg_entry_eq]
  generalize (lg_sl ([.ref (ad o), .ref (ad o1)]) ++ List.replicate (3 - (lg_sl ([.ref (ad o), .ref (ad o1)])).length) Slot.unset).toArray = ls at hl ⊢
  have hl : lv_has ls 3 [(0, .ref (ad o)), (1, .ref (ad o1))] := hl
  show W p l e rmSequence_same s m ([.ref (ad o), .ref (ad o1)] : List Value).toArray below meth c s.heap [] 0 0 (zQi post D tys N ad F A below ([.ref (ad o), .ref (ad o1)] : List Value).toArray s) _
  have J15 : ∀ (fu : Nat) (v2 : Int32) (h : zM) (H : Heap) (locs : List Loc) (ls : Array Slot), zl (stSequence_same_15 o o1 post) fu (v2, h) → lv_has ls 3 [(0, .ref (ad o)), (1, .ref (ad o1)), (2, .int v2)] → va_P D zcl (zW N ad F h) H → va_S A s.heap H locs → W p l e rmSequence_same s m ([.ref (ad o), .ref (ad o1)] : List Value).toArray below meth c H locs 0 0 (zQi post D tys N ad F A below ([.ref (ad o), .ref (ad o1)] : List Value).toArray s) (F0 m 15 ls []) := by
    intro fu15
    induction fu15 with
    | zero =>
      intro v2 h H locs ls hw
      exact (zl_0 hw).elim
    | succ fu15 ih15 =>
      intro v2 h H locs ls hw hl hP hS
      have hw := zl_s hw
      generalize zl (stSequence_same_15 o o1 post) fu15 = L15 at hw ih15
      unfold stSequence_same_15 at hw
      dsimp only at hw
      refine lv_iload_n S.1 S.2.1 dSequence_same_15 rfl (lv_at hl 2 rfl) ?_
      refine lv_aload_n S.1 S.2.1 dSequence_same_16 rfl (lv_at hl 0 rfl) ?_
      refine zr_get S hK hP (Nat.lt_of_succ_lt (hq).1) ((hq).2.1 _) fSequence_size q182 rfl dSequence_same_17 ?_
      refine lv_iconst (v := 5) S.1 S.2.1 dSequence_same_20 (by decide) ?_
      refine lv_imul S.1 S.2.1 dSequence_same_21 ?_
      refine lv_icmp_ge S.1 S.2.1 dSequence_same_22 rfl (fun hc => ?_) (fun hc => ?_)
      · have hw := hw.1 hc
        refine lv_iconst (v := 1) S.1 S.2.1 dSequence_same_48 (by decide) ?_
        exact zr_iret S hr hlk hK hP hS rfl hw dSequence_same_49
      · have hw := hw.2 hc
        refine lv_aload_n S.1 S.2.1 dSequence_same_25 rfl (lv_at hl 0 rfl) ?_
        refine zr_get S hK hP (Nat.lt_of_succ_lt (hq).1) ((hq).2.1 _) fSequence_cells q185 rfl dSequence_same_26 ?_
        refine lv_iload_n S.1 S.2.1 dSequence_same_29 rfl (lv_at hl 2 rfl) ?_
        obtain ⟨z30, hw⟩ := hw
        refine zr_ald S hK hP (hq).1 ((hq).2.2 _) 0 hI z30 dSequence_same_30 ?_
        refine lv_aload_n S.1 S.2.1 dSequence_same_31 rfl (lv_at hl 1 rfl) ?_
        refine zr_get S hK hP (Nat.lt_of_succ_lt (hq1).1) ((hq1).2.1 _) fSequence_cells q185 rfl dSequence_same_32 ?_
        refine lv_iload_n S.1 S.2.1 dSequence_same_35 rfl (lv_at hl 2 rfl) ?_
        obtain ⟨z36, hw⟩ := hw
        refine zr_ald S hK hP (hq1).1 ((hq1).2.2 _) 0 hI z36 dSequence_same_36 ?_
        refine lv_icmp_eq S.1 S.2.1 dSequence_same_37 rfl (fun hc => ?_) (fun hc => ?_)
        · have hw := hw.1 hc
          refine lv_iinc (v := (v2 + 1)) (lv' := [(2, .int (v2 + 1)), (0, .ref (ad o)), (1, .ref (ad o1))]) (k := 2) S.1 S.2.1 dSequence_same_42 hl rfl rfl (by decide) rfl (fun ls hl => ?_)
          refine lv_goto S.1 S.2.1 dSequence_same_45 rfl ?_
          exact ih15 _ _ _ _ _ hw (lv_sub hl [1, 2, 0] rfl) hP hS
        · have hw := hw.2 hc
          refine lv_iconst (v := 0) S.1 S.2.1 dSequence_same_40 (by decide) ?_
          exact zr_iret S hr hlk hK hP hS rfl hw dSequence_same_41
  unfold wpSequence_same at hw
  refine lv_aload_n S.1 S.2.1 dSequence_same_0 rfl (lv_at hl 0 rfl) ?_
  refine zr_get S hK hP (Nat.lt_of_succ_lt (hq).1) ((hq).2.1 _) fSequence_size q182 rfl dSequence_same_1 ?_
  refine lv_aload_n S.1 S.2.1 dSequence_same_4 rfl (lv_at hl 1 rfl) ?_
  refine zr_get S hK hP (Nat.lt_of_succ_lt (hq1).1) ((hq1).2.1 _) fSequence_size q182 rfl dSequence_same_5 ?_
  refine lv_icmp_eq S.1 S.2.1 dSequence_same_8 rfl (fun hc => ?_) (fun hc => ?_)
  · have hw := hw.1 hc
    refine lv_iconst (v := 0) S.1 S.2.1 dSequence_same_13 (by decide) ?_
    refine lv_istore_n (lv' := [(2, .int 0), (0, .ref (ad o)), (1, .ref (ad o1))]) S.1 S.2.1 dSequence_same_14 rfl hl (by decide) rfl (fun ls hl => ?_)
    obtain ⟨fu, hw⟩ := hw
    exact J15 fu _ _ _ _ _ hw (lv_sub hl [1, 2, 0] rfl) hP hS
  · have hw := hw.2 hc
    refine lv_iconst (v := 0) S.1 S.2.1 dSequence_same_11 (by decide) ?_
    exact zr_iret S hr hlk hK hP hS rfl hw dSequence_same_12
/-! Sequence.usesLater -/
theorem dSequence_usesLater_0 : decode bSequence_usesLater 0 = .ok (.iload_n 1, 1) := by decide +kernel
theorem dSequence_usesLater_1 : decode bSequence_usesLater 1 = .ok (.iconst 1, 1) := by decide +kernel
theorem dSequence_usesLater_2 : decode bSequence_usesLater 2 = .ok (.iadd, 1) := by decide +kernel
theorem dSequence_usesLater_3 : decode bSequence_usesLater 3 = .ok (.istore_n 2, 1) := by decide +kernel
theorem dSequence_usesLater_4 : decode bSequence_usesLater 4 = .ok (.iload_n 2, 1) := by decide +kernel
theorem dSequence_usesLater_5 : decode bSequence_usesLater 5 = .ok (.aload_n 0, 1) := by decide +kernel
theorem dSequence_usesLater_6 : decode bSequence_usesLater 6 = .ok (.getfield 15, 3) := by decide +kernel
theorem dSequence_usesLater_9 : decode bSequence_usesLater 9 = .ok (.if_icmp .ge 43, 3) := by decide +kernel
theorem dSequence_usesLater_12 : decode bSequence_usesLater 12 = .ok (.iconst 0, 1) := by decide +kernel
theorem dSequence_usesLater_13 : decode bSequence_usesLater 13 = .ok (.istore_n 3, 1) := by decide +kernel
theorem dSequence_usesLater_14 : decode bSequence_usesLater 14 = .ok (.iload_n 3, 1) := by decide +kernel
theorem dSequence_usesLater_15 : decode bSequence_usesLater 15 = .ok (.iconst 2, 1) := by decide +kernel
theorem dSequence_usesLater_16 : decode bSequence_usesLater 16 = .ok (.if_icmp .ge 30, 3) := by decide +kernel
theorem dSequence_usesLater_19 : decode bSequence_usesLater 19 = .ok (.aload_n 0, 1) := by decide +kernel
theorem dSequence_usesLater_20 : decode bSequence_usesLater 20 = .ok (.iload_n 2, 1) := by decide +kernel
theorem dSequence_usesLater_21 : decode bSequence_usesLater 21 = .ok (.iload_n 3, 1) := by decide +kernel
theorem dSequence_usesLater_22 : decode bSequence_usesLater 22 = .ok (.invokevirtual 33, 3) := by decide +kernel
theorem dSequence_usesLater_25 : decode bSequence_usesLater 25 = .ok (.ifCond .eq 15, 3) := by decide +kernel
theorem dSequence_usesLater_28 : decode bSequence_usesLater 28 = .ok (.aload_n 0, 1) := by decide +kernel
theorem dSequence_usesLater_29 : decode bSequence_usesLater 29 = .ok (.iload_n 2, 1) := by decide +kernel
theorem dSequence_usesLater_30 : decode bSequence_usesLater 30 = .ok (.iload_n 3, 1) := by decide +kernel
theorem dSequence_usesLater_31 : decode bSequence_usesLater 31 = .ok (.invokevirtual 37, 3) := by decide +kernel
theorem dSequence_usesLater_34 : decode bSequence_usesLater 34 = .ok (.iload_n 1, 1) := by decide +kernel
theorem dSequence_usesLater_35 : decode bSequence_usesLater 35 = .ok (.if_icmp .ne 5, 3) := by decide +kernel
theorem dSequence_usesLater_38 : decode bSequence_usesLater 38 = .ok (.iconst 1, 1) := by decide +kernel
theorem dSequence_usesLater_39 : decode bSequence_usesLater 39 = .ok (.ireturn, 1) := by decide +kernel
theorem dSequence_usesLater_40 : decode bSequence_usesLater 40 = .ok (.iinc 3 1, 3) := by decide +kernel
theorem dSequence_usesLater_43 : decode bSequence_usesLater 43 = .ok (.goto (-29), 3) := by decide +kernel
theorem dSequence_usesLater_46 : decode bSequence_usesLater 46 = .ok (.iinc 2 1, 3) := by decide +kernel
theorem dSequence_usesLater_49 : decode bSequence_usesLater 49 = .ok (.goto (-45), 3) := by decide +kernel
theorem dSequence_usesLater_52 : decode bSequence_usesLater 52 = .ok (.iconst 0, 1) := by decide +kernel
theorem dSequence_usesLater_53 : decode bSequence_usesLater 53 = .ok (.ireturn, 1) := by decide +kernel
def wbSequence_usesLater_40 (o : Nat) (post : Int32 → zM → Prop) (L4 : (Int32 × Int32 × zM) → Prop) (L14 : (Int32 × Int32 × Int32 × zM) → Prop) (v1 : Int32) (v2 : Int32) (v3 : Int32) (h : zM) : Prop := L14 (v1, v2, (v3 + 1), h)
def stSequence_usesLater_14 (o : Nat) (post : Int32 → zM → Prop) (L4 : (Int32 × Int32 × zM) → Prop) (L14 : (Int32 × Int32 × Int32 × zM) → Prop) : (Int32 × Int32 × Int32 × zM) → Prop := fun s => match s with
  | (v1, v2, v3, h) => (((2 ≤ v3) → L4 (v1, (v2 + 1), h)) ∧ (¬ (2 ≤ v3) → wpSequence_isVariable o v2 v3 h (fun r22 h22 => ((r22 = 0 → wbSequence_usesLater_40 o post L4 L14 v1 v2 v3 h22) ∧ (¬ r22 = 0 → wpSequence_content o v2 v3 h22 (fun r31 h31 => ((¬ r31 = v1 → wbSequence_usesLater_40 o post L4 L14 v1 v2 v3 h31) ∧ (r31 = v1 → post 1 h31))))))))
def stSequence_usesLater_4 (o : Nat) (post : Int32 → zM → Prop) (L4 : (Int32 × Int32 × zM) → Prop) : (Int32 × Int32 × zM) → Prop := fun s => match s with
  | (v1, v2, h) => ((((h o 0) ≤ v2) → post 0 h) ∧ (¬ ((h o 0) ≤ v2) → zL (stSequence_usesLater_14 o post L4) (v1, v2, 0, h)))
def wpSequence_usesLater (o : Nat) (x1 : Int32) (h : zM) (post : Int32 → zM → Prop) : Prop := ∀ y3 : Int32, y3 = (x1 + 1) → zL (stSequence_usesLater_4 o post) (x1, y3, h)
abbrev rmSequence_usesLater : Room := { frames := 1, cells := 0, slots := 0, locals := 22 }
set_option maxHeartbeats 4000000 in
set_option maxRecDepth 100000 in
theorem cSequence_usesLater (l : Launch) (D : va_G) (tys : List (ClassId × FieldType)) (N : Nat) (ad : Nat → Nat) (F : zSh) (A : Nat → Prop) (hJ : zJ A N ad) (cI : ClassId) (hI : tys[0]? = some (cI, .int)) (o : Nat) (hq : zSeq N ad F cI o) (x1 : Int32) (h : zM) (post : Int32 → zM → Prop) (hw : wpSequence_usesLater o x1 h post) : Met l ySequence_usesLater (.code ySequence_usesLater bSequence_usesLater 4 (some .boolean) :: zt) rmSequence_usesLater (va_Pc [.ref (ad o), .int x1] (zPre D tys N ad F A h)) (va_Qi post (zPst D tys N ad F) A) 0 0 A := by
  refine Met.ofW (cc := bSequence_usesLater) (maxL := 4) (ret := (some .boolean)) (by decide) rfl ?_
  intro p e s m args below meth c s₁ B hml hv
  obtain ⟨rfl, hP, hK, hT, hN⟩ := hv
  have hr := B.returns
  have hlk := B.notSynchronized
  have S : zS p m c bSequence_usesLater 4 s _ "CallExplorer$Sequence" := ⟨B.exec, B.bytes, hml, findClass_of_methodNamed B.named, fun w hw => atoms_spec (ws := .code ySequence_usesLater bSequence_usesLater 4 (some .boolean) :: zt) B.pre w (List.mem_cons_of_mem _ hw)⟩
  have hS : va_S A s.heap s.heap [] := va_S.rf
  have hl := lv_entry ([.ref (ad o), .int x1]) (n := 4) (Nat.le_of_ble_eq_true rfl)
  rw [lg_entry_eq]
  generalize (lg_sl ([.ref (ad o), .int x1]) ++ List.replicate (4 - (lg_sl ([.ref (ad o), .int x1])).length) Slot.unset).toArray = ls at hl ⊢
  have hl : lv_has ls 4 [(0, .ref (ad o)), (1, .int x1)] := hl
  show W p l e rmSequence_usesLater s m ([.ref (ad o), .int x1] : List Value).toArray below meth c s.heap [] 0 0 (zQi post D tys N ad F A below ([.ref (ad o), .int x1] : List Value).toArray s) _
  have J4 : ∀ (fu : Nat) (v1 : Int32) (v2 : Int32) (h : zM) (H : Heap) (locs : List Loc) (ls : Array Slot), zl (stSequence_usesLater_4 o post) fu (v1, v2, h) → lv_has ls 4 [(0, .ref (ad o)), (1, .int v1), (2, .int v2)] → va_P D zcl (zW N ad F h) H → va_S A s.heap H locs → W p l e rmSequence_usesLater s m ([.ref (ad o), .int x1] : List Value).toArray below meth c H locs 0 0 (zQi post D tys N ad F A below ([.ref (ad o), .int x1] : List Value).toArray s) (F0 m 4 ls []) := by
    intro fu4
    induction fu4 with
    | zero =>
      intro v1 v2 h H locs ls hw
      exact (zl_0 hw).elim
    | succ fu4 ih4 =>
      intro v1 v2 h H locs ls hw hl hP hS
      have hw := zl_s hw
      generalize zl (stSequence_usesLater_4 o post) fu4 = L4 at hw ih4
      have J14 : ∀ (fu : Nat) (v1 : Int32) (v2 : Int32) (v3 : Int32) (h : zM) (H : Heap) (locs : List Loc) (ls : Array Slot), zl (stSequence_usesLater_14 o post L4) fu (v1, v2, v3, h) → lv_has ls 4 [(0, .ref (ad o)), (1, .int v1), (2, .int v2), (3, .int v3)] → va_P D zcl (zW N ad F h) H → va_S A s.heap H locs → W p l e rmSequence_usesLater s m ([.ref (ad o), .int x1] : List Value).toArray below meth c H locs 0 0 (zQi post D tys N ad F A below ([.ref (ad o), .int x1] : List Value).toArray s) (F0 m 14 ls []) := by
        intro fu14
        induction fu14 with
        | zero =>
          intro v1 v2 v3 h H locs ls hw
          exact (zl_0 hw).elim
        | succ fu14 ih14 =>
          intro v1 v2 v3 h H locs ls hw hl hP hS
          have hw := zl_s hw
          generalize zl (stSequence_usesLater_14 o post L4) fu14 = L14 at hw ih14
          have J40 : ∀ (v1 : Int32) (v2 : Int32) (v3 : Int32) (h : zM) (H : Heap) (locs : List Loc) (ls : Array Slot), wbSequence_usesLater_40 o post L4 L14 v1 v2 v3 h → lv_has ls 4 [(0, .ref (ad o)), (1, .int v1), (2, .int v2), (3, .int v3)] → va_P D zcl (zW N ad F h) H → va_S A s.heap H locs → W p l e rmSequence_usesLater s m ([.ref (ad o), .int x1] : List Value).toArray below meth c H locs 0 0 (zQi post D tys N ad F A below ([.ref (ad o), .int x1] : List Value).toArray s) (F0 m 40 ls []) := by
            intro v1 v2 v3 h H locs ls hw hl hP hS
            unfold wbSequence_usesLater_40 at hw
            refine lv_iinc (v := (v3 + 1)) (lv' := [(3, .int (v3 + 1)), (0, .ref (ad o)), (1, .int v1), (2, .int v2)]) (k := 3) S.1 S.2.1 dSequence_usesLater_40 hl rfl rfl (by decide) rfl (fun ls hl => ?_)
            refine lv_goto S.1 S.2.1 dSequence_usesLater_43 rfl ?_
            exact ih14 _ _ _ _ _ _ _ hw (lv_sub hl [1, 2, 3, 0] rfl) hP hS
          unfold stSequence_usesLater_14 at hw
          dsimp only at hw
          refine lv_iload_n S.1 S.2.1 dSequence_usesLater_14 rfl (lv_at hl 3 rfl) ?_
          refine lv_iconst (v := 2) S.1 S.2.1 dSequence_usesLater_15 (by decide) ?_
          refine lv_icmp_ge S.1 S.2.1 dSequence_usesLater_16 rfl (fun hc => ?_) (fun hc => ?_)
          · have hw := hw.1 hc
            refine lv_iinc (v := (v2 + 1)) (lv' := [(2, .int (v2 + 1)), (0, .ref (ad o)), (1, .int v1), (3, .int v3)]) (k := 2) S.1 S.2.1 dSequence_usesLater_46 hl rfl rfl (by decide) rfl (fun ls hl => ?_)
            refine lv_goto S.1 S.2.1 dSequence_usesLater_49 rfl ?_
            exact ih4 _ _ _ _ _ _ hw (lv_sub hl [1, 2, 0] rfl) hP hS
          · have hw := hw.2 hc
            refine lv_aload_n S.1 S.2.1 dSequence_usesLater_19 rfl (lv_at hl 0 rfl) ?_
            refine lv_iload_n S.1 S.2.1 dSequence_usesLater_20 rfl (lv_at hl 2 rfl) ?_
            refine lv_iload_n S.1 S.2.1 dSequence_usesLater_21 rfl (lv_at hl 3 rfl) ?_
            refine zr_i (zr_V (As := [.int v2, .int v3]) (rest := []) S hK hT hN hP hS (Nat.lt_of_succ_lt (hq).1) ((hq).2.1 _) rfl (cSequence_isVariable l D tys N ad F A hJ cI hI o hq _ _ _ _ hw) caSequence_33 ⟨Nat.le_of_ble_eq_true rfl, Nat.le_of_ble_eq_true rfl⟩ ⟨rfl, rfl⟩ rfl hl.1 rfl (Nat.le_of_ble_eq_true rfl) dSequence_usesLater_22) hS (fun r22 h22 H locs hw hP hS => ?_)
            refine lv_if_eq S.1 S.2.1 dSequence_usesLater_25 rfl (fun hc => ?_) (fun hc => ?_)
            · have hw := hw.1 hc
              exact J40 _ _ _ _ _ _ _ hw (lv_sub hl [0, 1, 2, 3] rfl) hP hS
            · have hw := hw.2 hc
              refine lv_aload_n S.1 S.2.1 dSequence_usesLater_28 rfl (lv_at hl 0 rfl) ?_
              refine lv_iload_n S.1 S.2.1 dSequence_usesLater_29 rfl (lv_at hl 2 rfl) ?_
              refine lv_iload_n S.1 S.2.1 dSequence_usesLater_30 rfl (lv_at hl 3 rfl) ?_
              refine zr_i (zr_V (As := [.int v2, .int v3]) (rest := []) S hK hT hN hP hS (Nat.lt_of_succ_lt (hq).1) ((hq).2.1 _) rfl (cSequence_content l D tys N ad F A hJ cI hI o hq _ _ _ _ hw) caSequence_37 ⟨Nat.le_of_ble_eq_true rfl, Nat.le_of_ble_eq_true rfl⟩ ⟨rfl, rfl⟩ rfl hl.1 rfl (Nat.le_of_ble_eq_true rfl) dSequence_usesLater_31) hS (fun r31 h31 H locs hw hP hS => ?_)
              refine lv_iload_n S.1 S.2.1 dSequence_usesLater_34 rfl (lv_at hl 1 rfl) ?_
              refine lv_icmp_ne S.1 S.2.1 dSequence_usesLater_35 rfl (fun hc => ?_) (fun hc => ?_)
              · have hw := hw.1 hc
                exact J40 _ _ _ _ _ _ _ hw (lv_sub hl [0, 1, 2, 3] rfl) hP hS
              · have hw := hw.2 hc
                refine lv_iconst (v := 1) S.1 S.2.1 dSequence_usesLater_38 (by decide) ?_
                exact zr_iret S hr hlk hK hP hS rfl hw dSequence_usesLater_39
      unfold stSequence_usesLater_4 at hw
      dsimp only at hw
      refine lv_iload_n S.1 S.2.1 dSequence_usesLater_4 rfl (lv_at hl 2 rfl) ?_
      refine lv_aload_n S.1 S.2.1 dSequence_usesLater_5 rfl (lv_at hl 0 rfl) ?_
      refine zr_get S hK hP (Nat.lt_of_succ_lt (hq).1) ((hq).2.1 _) fSequence_size q182 rfl dSequence_usesLater_6 ?_
      refine lv_icmp_ge S.1 S.2.1 dSequence_usesLater_9 rfl (fun hc => ?_) (fun hc => ?_)
      · have hw := hw.1 hc
        refine lv_iconst (v := 0) S.1 S.2.1 dSequence_usesLater_52 (by decide) ?_
        exact zr_iret S hr hlk hK hP hS rfl hw dSequence_usesLater_53
      · have hw := hw.2 hc
        refine lv_iconst (v := 0) S.1 S.2.1 dSequence_usesLater_12 (by decide) ?_
        refine lv_istore_n (lv' := [(3, .int 0), (0, .ref (ad o)), (1, .int v1), (2, .int v2)]) S.1 S.2.1 dSequence_usesLater_13 rfl hl (by decide) rfl (fun ls hl => ?_)
        obtain ⟨fu, hw⟩ := hw
        exact J14 fu _ _ _ _ _ _ _ hw (lv_sub hl [1, 2, 3, 0] rfl) hP hS
  unfold wpSequence_usesLater at hw
  refine lv_iload_n S.1 S.2.1 dSequence_usesLater_0 rfl (lv_at hl 1 rfl) ?_
  refine lv_iconst (v := 1) S.1 S.2.1 dSequence_usesLater_1 (by decide) ?_
  refine lv_iadd S.1 S.2.1 dSequence_usesLater_2 ?_
  refine lv_topi (fun y3 e3 => ?_)
  have hw := hw y3 e3
  refine lv_istore_n (lv' := [(2, .int y3), (0, .ref (ad o)), (1, .int x1)]) S.1 S.2.1 dSequence_usesLater_3 rfl hl (by decide) rfl (fun ls hl => ?_)
  obtain ⟨fu, hw⟩ := hw
  exact J4 fu _ _ _ _ _ _ hw (lv_sub hl [1, 2, 0] rfl) hP hS
/-! Sequence.remove -/
theorem dSequence_remove_0 : decode bSequence_remove 0 = .ok (.iload_n 1, 1) := by decide +kernel
theorem dSequence_remove_1 : decode bSequence_remove 1 = .ok (.iconst 1, 1) := by decide +kernel
theorem dSequence_remove_2 : decode bSequence_remove 2 = .ok (.iadd, 1) := by decide +kernel
theorem dSequence_remove_3 : decode bSequence_remove 3 = .ok (.iconst 5, 1) := by decide +kernel
theorem dSequence_remove_4 : decode bSequence_remove 4 = .ok (.imul, 1) := by decide +kernel
theorem dSequence_remove_5 : decode bSequence_remove 5 = .ok (.istore_n 2, 1) := by decide +kernel
theorem dSequence_remove_6 : decode bSequence_remove 6 = .ok (.aload_n 0, 1) := by decide +kernel
theorem dSequence_remove_7 : decode bSequence_remove 7 = .ok (.getfield 9, 3) := by decide +kernel
theorem dSequence_remove_10 : decode bSequence_remove 10 = .ok (.iload_n 2, 1) := by decide +kernel
theorem dSequence_remove_11 : decode bSequence_remove 11 = .ok (.aload_n 0, 1) := by decide +kernel
theorem dSequence_remove_12 : decode bSequence_remove 12 = .ok (.getfield 9, 3) := by decide +kernel
theorem dSequence_remove_15 : decode bSequence_remove 15 = .ok (.iload_n 1, 1) := by decide +kernel
theorem dSequence_remove_16 : decode bSequence_remove 16 = .ok (.iconst 5, 1) := by decide +kernel
theorem dSequence_remove_17 : decode bSequence_remove 17 = .ok (.imul, 1) := by decide +kernel
theorem dSequence_remove_18 : decode bSequence_remove 18 = .ok (.aload_n 0, 1) := by decide +kernel
theorem dSequence_remove_19 : decode bSequence_remove 19 = .ok (.getfield 15, 3) := by decide +kernel
theorem dSequence_remove_22 : decode bSequence_remove 22 = .ok (.iconst 5, 1) := by decide +kernel
theorem dSequence_remove_23 : decode bSequence_remove 23 = .ok (.imul, 1) := by decide +kernel
theorem dSequence_remove_24 : decode bSequence_remove 24 = .ok (.iload_n 2, 1) := by decide +kernel
theorem dSequence_remove_25 : decode bSequence_remove 25 = .ok (.isub, 1) := by decide +kernel
theorem dSequence_remove_26 : decode bSequence_remove 26 = .ok (.invokestatic 23, 3) := by decide +kernel
theorem dSequence_remove_29 : decode bSequence_remove 29 = .ok (.aload_n 0, 1) := by decide +kernel
theorem dSequence_remove_30 : decode bSequence_remove 30 = .ok (.dup, 1) := by decide +kernel
theorem dSequence_remove_31 : decode bSequence_remove 31 = .ok (.getfield 15, 3) := by decide +kernel
theorem dSequence_remove_34 : decode bSequence_remove 34 = .ok (.iconst 1, 1) := by decide +kernel
theorem dSequence_remove_35 : decode bSequence_remove 35 = .ok (.isub, 1) := by decide +kernel
theorem dSequence_remove_36 : decode bSequence_remove 36 = .ok (.putfield 15, 3) := by decide +kernel
theorem dSequence_remove_39 : decode bSequence_remove 39 = .ok (.aload_n 0, 1) := by decide +kernel
theorem dSequence_remove_40 : decode bSequence_remove 40 = .ok (.iload_n 1, 1) := by decide +kernel
theorem dSequence_remove_41 : decode bSequence_remove 41 = .ok (.iload_n 1, 1) := by decide +kernel
theorem dSequence_remove_42 : decode bSequence_remove 42 = .ok (.iconst (-1), 1) := by decide +kernel
theorem dSequence_remove_43 : decode bSequence_remove 43 = .ok (.invokevirtual 29, 3) := by decide +kernel
theorem dSequence_remove_46 : decode bSequence_remove 46 = .ok (.return_, 1) := by decide +kernel
def wpSequence_remove (o : Nat) (x1 : Int32) (h : zM) (post : zM → Prop) : Prop := ∀ y5 : Int32, y5 = ((x1 + 1) * 5) → (¬ y5 < 0 ∧ ¬ (x1 * 5) < 0 ∧ ¬ (((h o 0) * 5) - y5) < 0 ∧ Int32.toNatClampNeg y5 + Int32.toNatClampNeg (((h o 0) * 5) - y5) ≤ 50 ∧ Int32.toNatClampNeg (x1 * 5) + Int32.toNatClampNeg (((h o 0) * 5) - y5) ≤ 50 ∧ ∀ h26 : zM, h26 = va_up h (o + 1) (va_cpy (h (o + 1)) (h (o + 1)) (Int32.toNatClampNeg y5) (Int32.toNatClampNeg (x1 * 5)) (Int32.toNatClampNeg (((h o 0) * 5) - y5))) → ∀ h36 : zM, h36 = zu h26 o 0 ((h26 o 0) - 1) → wpSequence_moveVariables o x1 x1 (-1) h36 (fun h43 => post h43))
abbrev rmSequence_remove : Room := { frames := 2, cells := 0, slots := 0, locals := 49 }
set_option maxHeartbeats 4000000 in
set_option maxRecDepth 100000 in
theorem cSequence_remove (l : Launch) (D : va_G) (tys : List (ClassId × FieldType)) (N : Nat) (ad : Nat → Nat) (F : zSh) (A : Nat → Prop) (hJ : zJ A N ad) (cI : ClassId) (hI : tys[0]? = some (cI, .int)) (o : Nat) (hq : zSeq N ad F cI o) (x1 : Int32) (h : zM) (post : zM → Prop) (hw : wpSequence_remove o x1 h post) : Met l ySequence_remove (.code ySequence_remove bSequence_remove 3 none :: zt) rmSequence_remove (va_Pc [.ref (ad o), .int x1] (zPre D tys N ad F A h)) (va_Qv post (zPst D tys N ad F) A) 0 0 A := by
  refine Met.ofW (cc := bSequence_remove) (maxL := 3) (ret := none) (by decide) rfl ?_
  intro p e s m args below meth c s₁ B hml hv
  obtain ⟨rfl, hP, hK, hT, hN⟩ := hv
  have hr := B.returns
  have hlk := B.notSynchronized
  have S : zS p m c bSequence_remove 3 s _ "CallExplorer$Sequence" := ⟨B.exec, B.bytes, hml, findClass_of_methodNamed B.named, fun w hw => atoms_spec (ws := .code ySequence_remove bSequence_remove 3 none :: zt) B.pre w (List.mem_cons_of_mem _ hw)⟩
  have hS : va_S A s.heap s.heap [] := va_S.rf
  have hl := lv_entry ([.ref (ad o), .int x1]) (n := 3) (Nat.le_of_ble_eq_true rfl)
  rw [lg_entry_eq]
  generalize (lg_sl ([.ref (ad o), .int x1]) ++ List.replicate (3 - (lg_sl ([.ref (ad o), .int x1])).length) Slot.unset).toArray = ls at hl ⊢
  have hl : lv_has ls 3 [(0, .ref (ad o)), (1, .int x1)] := hl
  show W p l e rmSequence_remove s m ([.ref (ad o), .int x1] : List Value).toArray below meth c s.heap [] 0 0 (zQv post D tys N ad F A below ([.ref (ad o), .int x1] : List Value).toArray s) _
  unfold wpSequence_remove at hw
  refine lv_iload_n S.1 S.2.1 dSequence_remove_0 rfl (lv_at hl 1 rfl) ?_
  refine lv_iconst (v := 1) S.1 S.2.1 dSequence_remove_1 (by decide) ?_
  refine lv_iadd S.1 S.2.1 dSequence_remove_2 ?_
  refine lv_iconst (v := 5) S.1 S.2.1 dSequence_remove_3 (by decide) ?_
  refine lv_imul S.1 S.2.1 dSequence_remove_4 ?_
  refine lv_topi (fun y5 e5 => ?_)
  have hw := hw y5 e5
  refine lv_istore_n (lv' := [(2, .int y5), (0, .ref (ad o)), (1, .int x1)]) S.1 S.2.1 dSequence_remove_5 rfl hl (by decide) rfl (fun ls hl => ?_)
  refine lv_aload_n S.1 S.2.1 dSequence_remove_6 rfl (lv_at hl 1 rfl) ?_
  refine zr_get S hK hP (Nat.lt_of_succ_lt (hq).1) ((hq).2.1 _) fSequence_cells q185 rfl dSequence_remove_7 ?_
  refine lv_iload_n S.1 S.2.1 dSequence_remove_10 rfl (lv_at hl 0 rfl) ?_
  refine lv_aload_n S.1 S.2.1 dSequence_remove_11 rfl (lv_at hl 1 rfl) ?_
  refine zr_get S hK hP (Nat.lt_of_succ_lt (hq).1) ((hq).2.1 _) fSequence_cells q185 rfl dSequence_remove_12 ?_
  refine lv_iload_n S.1 S.2.1 dSequence_remove_15 rfl (lv_at hl 2 rfl) ?_
  refine lv_iconst (v := 5) S.1 S.2.1 dSequence_remove_16 (by decide) ?_
  refine lv_imul S.1 S.2.1 dSequence_remove_17 ?_
  refine lv_aload_n S.1 S.2.1 dSequence_remove_18 rfl (lv_at hl 1 rfl) ?_
  refine zr_get S hK hP (Nat.lt_of_succ_lt (hq).1) ((hq).2.1 _) fSequence_size q182 rfl dSequence_remove_19 ?_
  refine lv_iconst (v := 5) S.1 S.2.1 dSequence_remove_22 (by decide) ?_
  refine lv_imul S.1 S.2.1 dSequence_remove_23 ?_
  refine lv_iload_n S.1 S.2.1 dSequence_remove_24 rfl (lv_at hl 0 rfl) ?_
  refine lv_isub S.1 S.2.1 dSequence_remove_25 ?_
  obtain ⟨a1, a2, a3, a4, a5, hw⟩ := hw
  refine zr_copy S hl.1 hK hJ hP hS (hq).1 ((hq).2.2 _) (hq).1 (hq).2.2 0 hI q416 q418 q417 q12 a1 a2 a3 a4 a5 (Nat.le_of_ble_eq_true rfl) (Nat.le_of_ble_eq_true rfl) dSequence_remove_26 (fun h26 H locs e26 hP hS => ?_)
  have hw := hw h26 e26
  refine lv_aload_n S.1 S.2.1 dSequence_remove_29 rfl (lv_at hl 1 rfl) ?_
  refine lv_dup S.1 S.2.1 dSequence_remove_30 rfl ?_
  refine zr_get S hK hP (Nat.lt_of_succ_lt (hq).1) ((hq).2.1 _) fSequence_size q182 rfl dSequence_remove_31 ?_
  refine lv_iconst (v := 1) S.1 S.2.1 dSequence_remove_34 (by decide) ?_
  refine lv_isub S.1 S.2.1 dSequence_remove_35 ?_
  refine zr_put S hK hJ hP hS (Nat.lt_of_succ_lt (hq).1) ((hq).2.1 _) fSequence_size q182 rfl rfl (Nat.le_of_ble_eq_true rfl) ((hq).2.1 _) dSequence_remove_36 (fun h36 H locs e36 hP hS => ?_)
  have hw := hw h36 e36
  refine lv_aload_n S.1 S.2.1 dSequence_remove_39 rfl (lv_at hl 1 rfl) ?_
  refine lv_iload_n S.1 S.2.1 dSequence_remove_40 rfl (lv_at hl 2 rfl) ?_
  refine lv_iload_n S.1 S.2.1 dSequence_remove_41 rfl (lv_at hl 2 rfl) ?_
  refine lv_iconst (v := (-1)) S.1 S.2.1 dSequence_remove_42 (by decide) ?_
  refine zr_v (zr_V (As := [.int x1, .int x1, .int (-1)]) (rest := []) S hK hT hN hP hS (Nat.lt_of_succ_lt (hq).1) ((hq).2.1 _) rfl (cSequence_moveVariables l D tys N ad F A hJ cI hI o hq _ _ _ _ _ hw) caSequence_29 ⟨Nat.le_of_ble_eq_true rfl, Nat.le_of_ble_eq_true rfl⟩ ⟨rfl, rfl⟩ rfl hl.1 rfl (Nat.le_of_ble_eq_true rfl) dSequence_remove_43) hS (fun h43 H locs hw hP hS => ?_)
  exact zr_vret S hr hlk hK hP hS hw dSequence_remove_46
end
