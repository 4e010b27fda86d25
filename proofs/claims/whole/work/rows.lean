section
-- ===== PART A: goes FIRST, ahead of the names: the tables' words, and 'selects' of the private methods out of them =====
/-- a private method of a class that the tables say can be made, by its rows of tables_1 -/
def lw_okq (q : MethodName × Nat) : Prop := (q.1.cls ≠ "java/lang/invoke/MethodHandle" ∧ q.1.cls ≠ "java/lang/invoke/VarHandle") ∧ Cond.instantiable q.1.cls q.2 ∈ tables_1 ∧ Cond.privateMethod q.1 ∈ tables_1 ∧ Cond.instanceMethod q.1 ∈ tables_1
theorem lw_p0 : lw_okq (⟨"CallExplorer$Catalog", "isClass", "(I)Z"⟩, 9) := ⟨⟨by decide +kernel, by decide +kernel⟩, List.mem_of_getElem? (i := 25) (by decide +kernel), List.mem_of_getElem? (i := 326) (by decide +kernel), List.mem_of_getElem? (i := 327) (by decide +kernel)⟩
theorem lw_p1 : lw_okq (⟨"CallExplorer$Catalog", "hasPartner", "(I)Z"⟩, 9) := ⟨⟨by decide +kernel, by decide +kernel⟩, List.mem_of_getElem? (i := 25) (by decide +kernel), List.mem_of_getElem? (i := 338) (by decide +kernel), List.mem_of_getElem? (i := 339) (by decide +kernel)⟩
theorem lw_p2 : lw_okq (⟨"CallExplorer$Catalog", "typeOf", "(III)I"⟩, 9) := ⟨⟨by decide +kernel, by decide +kernel⟩, List.mem_of_getElem? (i := 25) (by decide +kernel), List.mem_of_getElem? (i := 348) (by decide +kernel), List.mem_of_getElem? (i := 349) (by decide +kernel)⟩
theorem lw_p3 : lw_okq (⟨"CallExplorer$Grower", "random", "(I)I"⟩, 9) := ⟨⟨by decide +kernel, by decide +kernel⟩, List.mem_of_getElem? (i := 166) (by decide +kernel), List.mem_of_getElem? (i := 372) (by decide +kernel), List.mem_of_getElem? (i := 373) (by decide +kernel)⟩
theorem lw_p4 : lw_okq (⟨"CallExplorer$Grower", "chooseArgument", "(II)I"⟩, 9) := ⟨⟨by decide +kernel, by decide +kernel⟩, List.mem_of_getElem? (i := 166) (by decide +kernel), List.mem_of_getElem? (i := 385) (by decide +kernel), List.mem_of_getElem? (i := 386) (by decide +kernel)⟩
theorem lw_p5 : lw_okq (⟨"CallExplorer$Grower", "choose", "(III)I"⟩, 9) := ⟨⟨by decide +kernel, by decide +kernel⟩, List.mem_of_getElem? (i := 166) (by decide +kernel), List.mem_of_getElem? (i := 389) (by decide +kernel), List.mem_of_getElem? (i := 390) (by decide +kernel)⟩
theorem lw_p6 : lw_okq (⟨"CallExplorer$Grower", "chooseNumber", "(I)I"⟩, 9) := ⟨⟨by decide +kernel, by decide +kernel⟩, List.mem_of_getElem? (i := 166) (by decide +kernel), List.mem_of_getElem? (i := 393) (by decide +kernel), List.mem_of_getElem? (i := 394) (by decide +kernel)⟩
theorem lw_p7 : lw_okq (⟨"CallExplorer$Grower", "take", "(II)I"⟩, 9) := ⟨⟨by decide +kernel, by decide +kernel⟩, List.mem_of_getElem? (i := 166) (by decide +kernel), List.mem_of_getElem? (i := 405) (by decide +kernel), List.mem_of_getElem? (i := 406) (by decide +kernel)⟩
theorem lw_p8 : lw_okq (⟨"CallExplorer$Sequence", "moveVariables", "(III)V"⟩, 2) := ⟨⟨by decide +kernel, by decide +kernel⟩, List.mem_of_getElem? (i := 172) (by decide +kernel), List.mem_of_getElem? (i := 420) (by decide +kernel), List.mem_of_getElem? (i := 421) (by decide +kernel)⟩
theorem lw_p9 : lw_okq (⟨"CallExplorer$Grower", "chooseObject", "(II)I"⟩, 9) := ⟨⟨by decide +kernel, by decide +kernel⟩, List.mem_of_getElem? (i := 166) (by decide +kernel), List.mem_of_getElem? (i := 436) (by decide +kernel), List.mem_of_getElem? (i := 437) (by decide +kernel)⟩
theorem lw_p10 : lw_okq (⟨"CallExplorer$Grower", "firstFits", "(I)Z"⟩, 9) := ⟨⟨by decide +kernel, by decide +kernel⟩, List.mem_of_getElem? (i := 166) (by decide +kernel), List.mem_of_getElem? (i := 440) (by decide +kernel), List.mem_of_getElem? (i := 441) (by decide +kernel)⟩
theorem lw_p11 : lw_okq (⟨"CallExplorer$Grower", "pushChosen", "(I)V"⟩, 9) := ⟨⟨by decide +kernel, by decide +kernel⟩, List.mem_of_getElem? (i := 166) (by decide +kernel), List.mem_of_getElem? (i := 449) (by decide +kernel), List.mem_of_getElem? (i := 450) (by decide +kernel)⟩
theorem lw_p12 : lw_okq (⟨"CallExplorer$Runner", "execute", "(LCallExplorer$Sequence;I)I"⟩, 9) := ⟨⟨by decide +kernel, by decide +kernel⟩, List.mem_of_getElem? (i := 93) (by decide +kernel), List.mem_of_getElem? (i := 470) (by decide +kernel), List.mem_of_getElem? (i := 471) (by decide +kernel)⟩
theorem lw_p13 : lw_okq (⟨"CallExplorer$Runner", "isNull", "(LCallExplorer$Sequence;II)Z"⟩, 9) := ⟨⟨by decide +kernel, by decide +kernel⟩, List.mem_of_getElem? (i := 93) (by decide +kernel), List.mem_of_getElem? (i := 474) (by decide +kernel), List.mem_of_getElem? (i := 475) (by decide +kernel)⟩
theorem lw_p14 : lw_okq (⟨"CallExplorer$Runner", "argumentValue", "(LCallExplorer$Sequence;II)I"⟩, 9) := ⟨⟨by decide +kernel, by decide +kernel⟩, List.mem_of_getElem? (i := 93) (by decide +kernel), List.mem_of_getElem? (i := 480) (by decide +kernel), List.mem_of_getElem? (i := 481) (by decide +kernel)⟩
theorem lw_p15 : lw_okq (⟨"CallExplorer$Runner", "make", "(III)I"⟩, 9) := ⟨⟨by decide +kernel, by decide +kernel⟩, List.mem_of_getElem? (i := 93) (by decide +kernel), List.mem_of_getElem? (i := 489) (by decide +kernel), List.mem_of_getElem? (i := 490) (by decide +kernel)⟩
def lw_privs_1 : List (MethodName × Nat) := [(⟨"CallExplorer$Catalog", "isClass", "(I)Z"⟩, 9), (⟨"CallExplorer$Catalog", "hasPartner", "(I)Z"⟩, 9), (⟨"CallExplorer$Catalog", "typeOf", "(III)I"⟩, 9), (⟨"CallExplorer$Grower", "random", "(I)I"⟩, 9), (⟨"CallExplorer$Grower", "chooseArgument", "(II)I"⟩, 9), (⟨"CallExplorer$Grower", "choose", "(III)I"⟩, 9), (⟨"CallExplorer$Grower", "chooseNumber", "(I)I"⟩, 9), (⟨"CallExplorer$Grower", "take", "(II)I"⟩, 9), (⟨"CallExplorer$Sequence", "moveVariables", "(III)V"⟩, 2), (⟨"CallExplorer$Grower", "chooseObject", "(II)I"⟩, 9), (⟨"CallExplorer$Grower", "firstFits", "(I)Z"⟩, 9), (⟨"CallExplorer$Grower", "pushChosen", "(I)V"⟩, 9), (⟨"CallExplorer$Runner", "execute", "(LCallExplorer$Sequence;I)I"⟩, 9), (⟨"CallExplorer$Runner", "isNull", "(LCallExplorer$Sequence;II)Z"⟩, 9), (⟨"CallExplorer$Runner", "argumentValue", "(LCallExplorer$Sequence;II)I"⟩, 9), (⟨"CallExplorer$Runner", "make", "(III)I"⟩, 9)]
theorem lw_r1 : ∀ q ∈ lw_privs_1, lw_okq q := List.forall_mem_cons.mpr ⟨lw_p0, List.forall_mem_cons.mpr ⟨lw_p1, List.forall_mem_cons.mpr ⟨lw_p2, List.forall_mem_cons.mpr ⟨lw_p3, List.forall_mem_cons.mpr ⟨lw_p4, List.forall_mem_cons.mpr ⟨lw_p5, List.forall_mem_cons.mpr ⟨lw_p6, List.forall_mem_cons.mpr ⟨lw_p7, List.forall_mem_cons.mpr ⟨lw_p8, List.forall_mem_cons.mpr ⟨lw_p9, List.forall_mem_cons.mpr ⟨lw_p10, List.forall_mem_cons.mpr ⟨lw_p11, List.forall_mem_cons.mpr ⟨lw_p12, List.forall_mem_cons.mpr ⟨lw_p13, List.forall_mem_cons.mpr ⟨lw_p14, List.forall_mem_cons.mpr ⟨lw_p15, fun _ h => absurd h List.not_mem_nil⟩⟩⟩⟩⟩⟩⟩⟩⟩⟩⟩⟩⟩⟩⟩⟩
theorem lw_p16 : lw_okq (⟨"CallExplorer$Runner", "canBeValue", "(J)Z"⟩, 9) := ⟨⟨by decide +kernel, by decide +kernel⟩, List.mem_of_getElem? (i := 93) (by decide +kernel), List.mem_of_getElem? (i := 493) (by decide +kernel), List.mem_of_getElem? (i := 494) (by decide +kernel)⟩
theorem lw_p17 : lw_okq (⟨"CallExplorer$Runner", "give", "(II)I"⟩, 9) := ⟨⟨by decide +kernel, by decide +kernel⟩, List.mem_of_getElem? (i := 93) (by decide +kernel), List.mem_of_getElem? (i := 503) (by decide +kernel), List.mem_of_getElem? (i := 504) (by decide +kernel)⟩
theorem lw_p18 : lw_okq (⟨"CallExplorer$Runner", "add", "(III)I"⟩, 9) := ⟨⟨by decide +kernel, by decide +kernel⟩, List.mem_of_getElem? (i := 93) (by decide +kernel), List.mem_of_getElem? (i := 507) (by decide +kernel), List.mem_of_getElem? (i := 508) (by decide +kernel)⟩
theorem lw_p19 : lw_okq (⟨"CallExplorer$Runner", "link", "(III)I"⟩, 9) := ⟨⟨by decide +kernel, by decide +kernel⟩, List.mem_of_getElem? (i := 93) (by decide +kernel), List.mem_of_getElem? (i := 511) (by decide +kernel), List.mem_of_getElem? (i := 512) (by decide +kernel)⟩
theorem lw_p20 : lw_okq (⟨"CallExplorer$Runner", "getNext", "(III)I"⟩, 9) := ⟨⟨by decide +kernel, by decide +kernel⟩, List.mem_of_getElem? (i := 93) (by decide +kernel), List.mem_of_getElem? (i := 519) (by decide +kernel), List.mem_of_getElem? (i := 520) (by decide +kernel)⟩
theorem lw_p21 : lw_okq (⟨"CallExplorer$Runner", "getNextValue", "(II)I"⟩, 9) := ⟨⟨by decide +kernel, by decide +kernel⟩, List.mem_of_getElem? (i := 93) (by decide +kernel), List.mem_of_getElem? (i := 524) (by decide +kernel), List.mem_of_getElem? (i := 525) (by decide +kernel)⟩
theorem lw_p22 : lw_okq (⟨"CallExplorer$Runner", "endWithTrouble", "(LCallExplorer$Sequence;II)V"⟩, 9) := ⟨⟨by decide +kernel, by decide +kernel⟩, List.mem_of_getElem? (i := 93) (by decide +kernel), List.mem_of_getElem? (i := 537) (by decide +kernel), List.mem_of_getElem? (i := 538) (by decide +kernel)⟩
theorem lw_p23 : lw_okq (⟨"CallExplorer$Runner", "keepResult", "(LCallExplorer$Sequence;)V"⟩, 9) := ⟨⟨by decide +kernel, by decide +kernel⟩, List.mem_of_getElem? (i := 93) (by decide +kernel), List.mem_of_getElem? (i := 541) (by decide +kernel), List.mem_of_getElem? (i := 542) (by decide +kernel)⟩
theorem lw_p24 : lw_okq (⟨"CallExplorer$Runner", "keepRow", "(I)V"⟩, 9) := ⟨⟨by decide +kernel, by decide +kernel⟩, List.mem_of_getElem? (i := 93) (by decide +kernel), List.mem_of_getElem? (i := 545) (by decide +kernel), List.mem_of_getElem? (i := 546) (by decide +kernel)⟩
theorem lw_p25 : lw_okq (⟨"CallExplorer$Heap", "faultOfPair", "(II)I"⟩, 5) := ⟨⟨by decide +kernel, by decide +kernel⟩, List.mem_of_getElem? (i := 99) (by decide +kernel), List.mem_of_getElem? (i := 554) (by decide +kernel), List.mem_of_getElem? (i := 555) (by decide +kernel)⟩
theorem lw_p26 : lw_okq (⟨"CallExplorer$Heap", "code", "(I)I"⟩, 5) := ⟨⟨by decide +kernel, by decide +kernel⟩, List.mem_of_getElem? (i := 99) (by decide +kernel), List.mem_of_getElem? (i := 558) (by decide +kernel), List.mem_of_getElem? (i := 559) (by decide +kernel)⟩
theorem lw_p27 : lw_okq (⟨"CallExplorer$Book", "knowsShape", "(LCallExplorer$Runner;)Z"⟩, 4) := ⟨⟨by decide +kernel, by decide +kernel⟩, List.mem_of_getElem? (i := 70) (by decide +kernel), List.mem_of_getElem? (i := 567) (by decide +kernel), List.mem_of_getElem? (i := 568) (by decide +kernel)⟩
theorem lw_p28 : lw_okq (⟨"CallExplorer$Shortener", "lowerInTrial", "(LCallExplorer$Sequence;II)Z"⟩, 3) := ⟨⟨by decide +kernel, by decide +kernel⟩, List.mem_of_getElem? (i := 222) (by decide +kernel), List.mem_of_getElem? (i := 653) (by decide +kernel), List.mem_of_getElem? (i := 654) (by decide +kernel)⟩
theorem lw_p29 : lw_okq (⟨"CallExplorer$Shortener", "keepIfSame", "(LCallExplorer$Entry;)V"⟩, 3) := ⟨⟨by decide +kernel, by decide +kernel⟩, List.mem_of_getElem? (i := 222) (by decide +kernel), List.mem_of_getElem? (i := 663) (by decide +kernel), List.mem_of_getElem? (i := 664) (by decide +kernel)⟩
theorem lw_p30 : lw_okq (⟨"CallExplorer$Writer", "writeCall", "(LCallExplorer$Sequence;I)V"⟩, 2) := ⟨⟨by decide +kernel, by decide +kernel⟩, List.mem_of_getElem? (i := 240) (by decide +kernel), List.mem_of_getElem? (i := 705) (by decide +kernel), List.mem_of_getElem? (i := 706) (by decide +kernel)⟩
theorem lw_p31 : lw_okq (⟨"CallExplorer$Writer", "put", "(C)V"⟩, 2) := ⟨⟨by decide +kernel, by decide +kernel⟩, List.mem_of_getElem? (i := 240) (by decide +kernel), List.mem_of_getElem? (i := 710) (by decide +kernel), List.mem_of_getElem? (i := 711) (by decide +kernel)⟩
def lw_privs_2 : List (MethodName × Nat) := [(⟨"CallExplorer$Runner", "canBeValue", "(J)Z"⟩, 9), (⟨"CallExplorer$Runner", "give", "(II)I"⟩, 9), (⟨"CallExplorer$Runner", "add", "(III)I"⟩, 9), (⟨"CallExplorer$Runner", "link", "(III)I"⟩, 9), (⟨"CallExplorer$Runner", "getNext", "(III)I"⟩, 9), (⟨"CallExplorer$Runner", "getNextValue", "(II)I"⟩, 9), (⟨"CallExplorer$Runner", "endWithTrouble", "(LCallExplorer$Sequence;II)V"⟩, 9), (⟨"CallExplorer$Runner", "keepResult", "(LCallExplorer$Sequence;)V"⟩, 9), (⟨"CallExplorer$Runner", "keepRow", "(I)V"⟩, 9), (⟨"CallExplorer$Heap", "faultOfPair", "(II)I"⟩, 5), (⟨"CallExplorer$Heap", "code", "(I)I"⟩, 5), (⟨"CallExplorer$Book", "knowsShape", "(LCallExplorer$Runner;)Z"⟩, 4), (⟨"CallExplorer$Shortener", "lowerInTrial", "(LCallExplorer$Sequence;II)Z"⟩, 3), (⟨"CallExplorer$Shortener", "keepIfSame", "(LCallExplorer$Entry;)V"⟩, 3), (⟨"CallExplorer$Writer", "writeCall", "(LCallExplorer$Sequence;I)V"⟩, 2), (⟨"CallExplorer$Writer", "put", "(C)V"⟩, 2)]
theorem lw_r2 : ∀ q ∈ lw_privs_2, lw_okq q := List.forall_mem_cons.mpr ⟨lw_p16, List.forall_mem_cons.mpr ⟨lw_p17, List.forall_mem_cons.mpr ⟨lw_p18, List.forall_mem_cons.mpr ⟨lw_p19, List.forall_mem_cons.mpr ⟨lw_p20, List.forall_mem_cons.mpr ⟨lw_p21, List.forall_mem_cons.mpr ⟨lw_p22, List.forall_mem_cons.mpr ⟨lw_p23, List.forall_mem_cons.mpr ⟨lw_p24, List.forall_mem_cons.mpr ⟨lw_p25, List.forall_mem_cons.mpr ⟨lw_p26, List.forall_mem_cons.mpr ⟨lw_p27, List.forall_mem_cons.mpr ⟨lw_p28, List.forall_mem_cons.mpr ⟨lw_p29, List.forall_mem_cons.mpr ⟨lw_p30, List.forall_mem_cons.mpr ⟨lw_p31, fun _ h => absurd h List.not_mem_nil⟩⟩⟩⟩⟩⟩⟩⟩⟩⟩⟩⟩⟩⟩⟩⟩
theorem lw_p32 : lw_okq (⟨"CallExplorer$Writer", "writeArgument", "(II)V"⟩, 2) := ⟨⟨by decide +kernel, by decide +kernel⟩, List.mem_of_getElem? (i := 240) (by decide +kernel), List.mem_of_getElem? (i := 716) (by decide +kernel), List.mem_of_getElem? (i := 717) (by decide +kernel)⟩
theorem lw_p33 : lw_okq (⟨"CallExplorer$Writer", "writeNumber", "(I)V"⟩, 2) := ⟨⟨by decide +kernel, by decide +kernel⟩, List.mem_of_getElem? (i := 240) (by decide +kernel), List.mem_of_getElem? (i := 720) (by decide +kernel), List.mem_of_getElem? (i := 721) (by decide +kernel)⟩
theorem lw_p34 : lw_okq (⟨"CallExplorer$Writer", "writeEnd", "(LCallExplorer$Entry;)V"⟩, 2) := ⟨⟨by decide +kernel, by decide +kernel⟩, List.mem_of_getElem? (i := 240) (by decide +kernel), List.mem_of_getElem? (i := 727) (by decide +kernel), List.mem_of_getElem? (i := 728) (by decide +kernel)⟩
theorem lw_p35 : lw_okq (⟨"CallExplorer$Writer", "writeResult", "(LCallExplorer$Entry;)V"⟩, 2) := ⟨⟨by decide +kernel, by decide +kernel⟩, List.mem_of_getElem? (i := 240) (by decide +kernel), List.mem_of_getElem? (i := 731) (by decide +kernel), List.mem_of_getElem? (i := 732) (by decide +kernel)⟩
theorem lw_p36 : lw_okq (⟨"CallExplorer$Reader", "countBytes", "(J)I"⟩, 10) := ⟨⟨by decide +kernel, by decide +kernel⟩, List.mem_of_getElem? (i := 256) (by decide +kernel), List.mem_of_getElem? (i := 743) (by decide +kernel), List.mem_of_getElem? (i := 744) (by decide +kernel)⟩
theorem lw_p37 : lw_okq (⟨"CallExplorer$Reader", "byteOf", "(JI)I"⟩, 10) := ⟨⟨by decide +kernel, by decide +kernel⟩, List.mem_of_getElem? (i := 256) (by decide +kernel), List.mem_of_getElem? (i := 747) (by decide +kernel), List.mem_of_getElem? (i := 748) (by decide +kernel)⟩
theorem lw_p38 : lw_okq (⟨"CallExplorer$Reader", "isAtEnd", "()Z"⟩, 10) := ⟨⟨by decide +kernel, by decide +kernel⟩, List.mem_of_getElem? (i := 256) (by decide +kernel), List.mem_of_getElem? (i := 761) (by decide +kernel), List.mem_of_getElem? (i := 762) (by decide +kernel)⟩
theorem lw_p39 : lw_okq (⟨"CallExplorer$Reader", "peek", "()C"⟩, 10) := ⟨⟨by decide +kernel, by decide +kernel⟩, List.mem_of_getElem? (i := 256) (by decide +kernel), List.mem_of_getElem? (i := 765) (by decide +kernel), List.mem_of_getElem? (i := 766) (by decide +kernel)⟩
theorem lw_p40 : lw_okq (⟨"CallExplorer$Reader", "readCall", "()Z"⟩, 10) := ⟨⟨by decide +kernel, by decide +kernel⟩, List.mem_of_getElem? (i := 256) (by decide +kernel), List.mem_of_getElem? (i := 769) (by decide +kernel), List.mem_of_getElem? (i := 770) (by decide +kernel)⟩
theorem lw_p41 : lw_okq (⟨"CallExplorer$Reader", "accept", "(C)Z"⟩, 10) := ⟨⟨by decide +kernel, by decide +kernel⟩, List.mem_of_getElem? (i := 256) (by decide +kernel), List.mem_of_getElem? (i := 774) (by decide +kernel), List.mem_of_getElem? (i := 775) (by decide +kernel)⟩
theorem lw_p42 : lw_okq (⟨"CallExplorer$Reader", "readArgument", "(II)Z"⟩, 10) := ⟨⟨by decide +kernel, by decide +kernel⟩, List.mem_of_getElem? (i := 256) (by decide +kernel), List.mem_of_getElem? (i := 778) (by decide +kernel), List.mem_of_getElem? (i := 779) (by decide +kernel)⟩
theorem lw_p43 : lw_okq (⟨"CallExplorer$Reader", "readVariable", "(III)Z"⟩, 10) := ⟨⟨by decide +kernel, by decide +kernel⟩, List.mem_of_getElem? (i := 256) (by decide +kernel), List.mem_of_getElem? (i := 784) (by decide +kernel), List.mem_of_getElem? (i := 785) (by decide +kernel)⟩
theorem lw_p44 : lw_okq (⟨"CallExplorer$Reader", "isAtDigit", "()Z"⟩, 10) := ⟨⟨by decide +kernel, by decide +kernel⟩, List.mem_of_getElem? (i := 256) (by decide +kernel), List.mem_of_getElem? (i := 788) (by decide +kernel), List.mem_of_getElem? (i := 789) (by decide +kernel)⟩
theorem lw_p45 : lw_okq (⟨"CallExplorer$Reader", "readNumber", "()Z"⟩, 10) := ⟨⟨by decide +kernel, by decide +kernel⟩, List.mem_of_getElem? (i := 256) (by decide +kernel), List.mem_of_getElem? (i := 792) (by decide +kernel), List.mem_of_getElem? (i := 793) (by decide +kernel)⟩
theorem lw_p46 : lw_okq (⟨"CallExplorer$Reader", "readEnd", "()Z"⟩, 10) := ⟨⟨by decide +kernel, by decide +kernel⟩, List.mem_of_getElem? (i := 256) (by decide +kernel), List.mem_of_getElem? (i := 799) (by decide +kernel), List.mem_of_getElem? (i := 800) (by decide +kernel)⟩
theorem lw_p47 : lw_okq (⟨"CallExplorer$Reader", "readDetail", "(I)Z"⟩, 10) := ⟨⟨by decide +kernel, by decide +kernel⟩, List.mem_of_getElem? (i := 256) (by decide +kernel), List.mem_of_getElem? (i := 803) (by decide +kernel), List.mem_of_getElem? (i := 804) (by decide +kernel)⟩
def lw_privs_3 : List (MethodName × Nat) := [(⟨"CallExplorer$Writer", "writeArgument", "(II)V"⟩, 2), (⟨"CallExplorer$Writer", "writeNumber", "(I)V"⟩, 2), (⟨"CallExplorer$Writer", "writeEnd", "(LCallExplorer$Entry;)V"⟩, 2), (⟨"CallExplorer$Writer", "writeResult", "(LCallExplorer$Entry;)V"⟩, 2), (⟨"CallExplorer$Reader", "countBytes", "(J)I"⟩, 10), (⟨"CallExplorer$Reader", "byteOf", "(JI)I"⟩, 10), (⟨"CallExplorer$Reader", "isAtEnd", "()Z"⟩, 10), (⟨"CallExplorer$Reader", "peek", "()C"⟩, 10), (⟨"CallExplorer$Reader", "readCall", "()Z"⟩, 10), (⟨"CallExplorer$Reader", "accept", "(C)Z"⟩, 10), (⟨"CallExplorer$Reader", "readArgument", "(II)Z"⟩, 10), (⟨"CallExplorer$Reader", "readVariable", "(III)Z"⟩, 10), (⟨"CallExplorer$Reader", "isAtDigit", "()Z"⟩, 10), (⟨"CallExplorer$Reader", "readNumber", "()Z"⟩, 10), (⟨"CallExplorer$Reader", "readEnd", "()Z"⟩, 10), (⟨"CallExplorer$Reader", "readDetail", "(I)Z"⟩, 10)]
theorem lw_r3 : ∀ q ∈ lw_privs_3, lw_okq q := List.forall_mem_cons.mpr ⟨lw_p32, List.forall_mem_cons.mpr ⟨lw_p33, List.forall_mem_cons.mpr ⟨lw_p34, List.forall_mem_cons.mpr ⟨lw_p35, List.forall_mem_cons.mpr ⟨lw_p36, List.forall_mem_cons.mpr ⟨lw_p37, List.forall_mem_cons.mpr ⟨lw_p38, List.forall_mem_cons.mpr ⟨lw_p39, List.forall_mem_cons.mpr ⟨lw_p40, List.forall_mem_cons.mpr ⟨lw_p41, List.forall_mem_cons.mpr ⟨lw_p42, List.forall_mem_cons.mpr ⟨lw_p43, List.forall_mem_cons.mpr ⟨lw_p44, List.forall_mem_cons.mpr ⟨lw_p45, List.forall_mem_cons.mpr ⟨lw_p46, List.forall_mem_cons.mpr ⟨lw_p47, fun _ h => absurd h List.not_mem_nil⟩⟩⟩⟩⟩⟩⟩⟩⟩⟩⟩⟩⟩⟩⟩⟩
theorem lw_p48 : lw_okq (⟨"CallExplorer$Reader", "readResult", "()Z"⟩, 10) := ⟨⟨by decide +kernel, by decide +kernel⟩, List.mem_of_getElem? (i := 256) (by decide +kernel), List.mem_of_getElem? (i := 807) (by decide +kernel), List.mem_of_getElem? (i := 808) (by decide +kernel)⟩
theorem lw_p49 : lw_okq (⟨"CallExplorerModel", "isClass", "(I)Z"⟩, 43) := ⟨⟨by decide +kernel, by decide +kernel⟩, List.mem_of_getElem? (i := 823) (by decide +kernel), List.mem_of_getElem? (i := 967) (by decide +kernel), List.mem_of_getElem? (i := 968) (by decide +kernel)⟩
theorem lw_p50 : lw_okq (⟨"CallExplorerModel", "random", "(I)I"⟩, 43) := ⟨⟨by decide +kernel, by decide +kernel⟩, List.mem_of_getElem? (i := 823) (by decide +kernel), List.mem_of_getElem? (i := 982) (by decide +kernel), List.mem_of_getElem? (i := 983) (by decide +kernel)⟩
theorem lw_p51 : lw_okq (⟨"CallExplorerModel", "wants", "(II)I"⟩, 43) := ⟨⟨by decide +kernel, by decide +kernel⟩, List.mem_of_getElem? (i := 823) (by decide +kernel), List.mem_of_getElem? (i := 990) (by decide +kernel), List.mem_of_getElem? (i := 991) (by decide +kernel)⟩
theorem lw_p52 : lw_okq (⟨"CallExplorerModel", "chosen", "(II)I"⟩, 43) := ⟨⟨by decide +kernel, by decide +kernel⟩, List.mem_of_getElem? (i := 823) (by decide +kernel), List.mem_of_getElem? (i := 994) (by decide +kernel), List.mem_of_getElem? (i := 995) (by decide +kernel)⟩
theorem lw_p53 : lw_okq (⟨"CallExplorerModel", "offered", "(I)I"⟩, 43) := ⟨⟨by decide +kernel, by decide +kernel⟩, List.mem_of_getElem? (i := 823) (by decide +kernel), List.mem_of_getElem? (i := 998) (by decide +kernel), List.mem_of_getElem? (i := 999) (by decide +kernel)⟩
theorem lw_p54 : lw_okq (⟨"CallExplorerModel", "offers", "(II)Z"⟩, 43) := ⟨⟨by decide +kernel, by decide +kernel⟩, List.mem_of_getElem? (i := 823) (by decide +kernel), List.mem_of_getElem? (i := 1002) (by decide +kernel), List.mem_of_getElem? (i := 1003) (by decide +kernel)⟩
theorem lw_p55 : lw_okq (⟨"CallExplorerModel", "typeOf", "(I)I"⟩, 43) := ⟨⟨by decide +kernel, by decide +kernel⟩, List.mem_of_getElem? (i := 823) (by decide +kernel), List.mem_of_getElem? (i := 1006) (by decide +kernel), List.mem_of_getElem? (i := 1007) (by decide +kernel)⟩
theorem lw_p56 : lw_okq (⟨"CallExplorerModel", "gives", "(I)I"⟩, 43) := ⟨⟨by decide +kernel, by decide +kernel⟩, List.mem_of_getElem? (i := 823) (by decide +kernel), List.mem_of_getElem? (i := 1010) (by decide +kernel), List.mem_of_getElem? (i := 1011) (by decide +kernel)⟩
theorem lw_p57 : lw_okq (⟨"CallExplorerModel", "is", "(II)Z"⟩, 43) := ⟨⟨by decide +kernel, by decide +kernel⟩, List.mem_of_getElem? (i := 823) (by decide +kernel), List.mem_of_getElem? (i := 1014) (by decide +kernel), List.mem_of_getElem? (i := 1015) (by decide +kernel)⟩
theorem lw_p58 : lw_okq (⟨"CallExplorerModel", "take", "(III)V"⟩, 43) := ⟨⟨by decide +kernel, by decide +kernel⟩, List.mem_of_getElem? (i := 823) (by decide +kernel), List.mem_of_getElem? (i := 1018) (by decide +kernel), List.mem_of_getElem? (i := 1019) (by decide +kernel)⟩
theorem lw_p59 : lw_okq (⟨"CallExplorerModel", "copyFrom", "(II)V"⟩, 43) := ⟨⟨by decide +kernel, by decide +kernel⟩, List.mem_of_getElem? (i := 823) (by decide +kernel), List.mem_of_getElem? (i := 1022) (by decide +kernel), List.mem_of_getElem? (i := 1023) (by decide +kernel)⟩
theorem lw_p60 : lw_okq (⟨"CallExplorerModel", "choose", "(III)V"⟩, 43) := ⟨⟨by decide +kernel, by decide +kernel⟩, List.mem_of_getElem? (i := 823) (by decide +kernel), List.mem_of_getElem? (i := 1026) (by decide +kernel), List.mem_of_getElem? (i := 1027) (by decide +kernel)⟩
theorem lw_p61 : lw_okq (⟨"CallExplorerModel", "put", "(I)V"⟩, 43) := ⟨⟨by decide +kernel, by decide +kernel⟩, List.mem_of_getElem? (i := 823) (by decide +kernel), List.mem_of_getElem? (i := 1030) (by decide +kernel), List.mem_of_getElem? (i := 1031) (by decide +kernel)⟩
theorem lw_p62 : lw_okq (⟨"CallExplorerModel", "known", "()Z"⟩, 43) := ⟨⟨by decide +kernel, by decide +kernel⟩, List.mem_of_getElem? (i := 823) (by decide +kernel), List.mem_of_getElem? (i := 1034) (by decide +kernel), List.mem_of_getElem? (i := 1035) (by decide +kernel)⟩
theorem lw_p63 : lw_okq (⟨"CallExplorerModel", "alike", "(II)Z"⟩, 43) := ⟨⟨by decide +kernel, by decide +kernel⟩, List.mem_of_getElem? (i := 823) (by decide +kernel), List.mem_of_getElem? (i := 1038) (by decide +kernel), List.mem_of_getElem? (i := 1039) (by decide +kernel)⟩
def lw_privs_4 : List (MethodName × Nat) := [(⟨"CallExplorer$Reader", "readResult", "()Z"⟩, 10), (⟨"CallExplorerModel", "isClass", "(I)Z"⟩, 43), (⟨"CallExplorerModel", "random", "(I)I"⟩, 43), (⟨"CallExplorerModel", "wants", "(II)I"⟩, 43), (⟨"CallExplorerModel", "chosen", "(II)I"⟩, 43), (⟨"CallExplorerModel", "offered", "(I)I"⟩, 43), (⟨"CallExplorerModel", "offers", "(II)Z"⟩, 43), (⟨"CallExplorerModel", "typeOf", "(I)I"⟩, 43), (⟨"CallExplorerModel", "gives", "(I)I"⟩, 43), (⟨"CallExplorerModel", "is", "(II)Z"⟩, 43), (⟨"CallExplorerModel", "take", "(III)V"⟩, 43), (⟨"CallExplorerModel", "copyFrom", "(II)V"⟩, 43), (⟨"CallExplorerModel", "choose", "(III)V"⟩, 43), (⟨"CallExplorerModel", "put", "(I)V"⟩, 43), (⟨"CallExplorerModel", "known", "()Z"⟩, 43), (⟨"CallExplorerModel", "alike", "(II)Z"⟩, 43)]
theorem lw_r4 : ∀ q ∈ lw_privs_4, lw_okq q := List.forall_mem_cons.mpr ⟨lw_p48, List.forall_mem_cons.mpr ⟨lw_p49, List.forall_mem_cons.mpr ⟨lw_p50, List.forall_mem_cons.mpr ⟨lw_p51, List.forall_mem_cons.mpr ⟨lw_p52, List.forall_mem_cons.mpr ⟨lw_p53, List.forall_mem_cons.mpr ⟨lw_p54, List.forall_mem_cons.mpr ⟨lw_p55, List.forall_mem_cons.mpr ⟨lw_p56, List.forall_mem_cons.mpr ⟨lw_p57, List.forall_mem_cons.mpr ⟨lw_p58, List.forall_mem_cons.mpr ⟨lw_p59, List.forall_mem_cons.mpr ⟨lw_p60, List.forall_mem_cons.mpr ⟨lw_p61, List.forall_mem_cons.mpr ⟨lw_p62, List.forall_mem_cons.mpr ⟨lw_p63, fun _ h => absurd h List.not_mem_nil⟩⟩⟩⟩⟩⟩⟩⟩⟩⟩⟩⟩⟩⟩⟩⟩
theorem lw_p64 : lw_okq (⟨"CallExplorerModel", "entered", "()I"⟩, 43) := ⟨⟨by decide +kernel, by decide +kernel⟩, List.mem_of_getElem? (i := 823) (by decide +kernel), List.mem_of_getElem? (i := 1042) (by decide +kernel), List.mem_of_getElem? (i := 1043) (by decide +kernel)⟩
theorem lw_p65 : lw_okq (⟨"CallExplorerModel", "store", "(I)V"⟩, 43) := ⟨⟨by decide +kernel, by decide +kernel⟩, List.mem_of_getElem? (i := 823) (by decide +kernel), List.mem_of_getElem? (i := 1046) (by decide +kernel), List.mem_of_getElem? (i := 1047) (by decide +kernel)⟩
theorem lw_p66 : lw_okq (⟨"CallExplorerModel", "run", "()V"⟩, 43) := ⟨⟨by decide +kernel, by decide +kernel⟩, List.mem_of_getElem? (i := 823) (by decide +kernel), List.mem_of_getElem? (i := 1050) (by decide +kernel), List.mem_of_getElem? (i := 1051) (by decide +kernel)⟩
theorem lw_p67 : lw_okq (⟨"CallExplorerModel", "perform", "(I)I"⟩, 43) := ⟨⟨by decide +kernel, by decide +kernel⟩, List.mem_of_getElem? (i := 823) (by decide +kernel), List.mem_of_getElem? (i := 1054) (by decide +kernel), List.mem_of_getElem? (i := 1055) (by decide +kernel)⟩
theorem lw_p68 : lw_okq (⟨"CallExplorerModel", "valueOf", "(II)I"⟩, 43) := ⟨⟨by decide +kernel, by decide +kernel⟩, List.mem_of_getElem? (i := 823) (by decide +kernel), List.mem_of_getElem? (i := 1058) (by decide +kernel), List.mem_of_getElem? (i := 1059) (by decide +kernel)⟩
theorem lw_p69 : lw_okq (⟨"CallExplorerModel", "made", "(III)I"⟩, 43) := ⟨⟨by decide +kernel, by decide +kernel⟩, List.mem_of_getElem? (i := 823) (by decide +kernel), List.mem_of_getElem? (i := 1067) (by decide +kernel), List.mem_of_getElem? (i := 1068) (by decide +kernel)⟩
theorem lw_p70 : lw_okq (⟨"CallExplorerModel", "reaches", "(II)Z"⟩, 43) := ⟨⟨by decide +kernel, by decide +kernel⟩, List.mem_of_getElem? (i := 823) (by decide +kernel), List.mem_of_getElem? (i := 1071) (by decide +kernel), List.mem_of_getElem? (i := 1072) (by decide +kernel)⟩
theorem lw_p71 : lw_okq (⟨"CallExplorerModel", "count", "(I)I"⟩, 43) := ⟨⟨by decide +kernel, by decide +kernel⟩, List.mem_of_getElem? (i := 823) (by decide +kernel), List.mem_of_getElem? (i := 1075) (by decide +kernel), List.mem_of_getElem? (i := 1076) (by decide +kernel)⟩
theorem lw_p72 : lw_okq (⟨"CallExplorerModel", "equal", "(II)Z"⟩, 43) := ⟨⟨by decide +kernel, by decide +kernel⟩, List.mem_of_getElem? (i := 823) (by decide +kernel), List.mem_of_getElem? (i := 1079) (by decide +kernel), List.mem_of_getElem? (i := 1080) (by decide +kernel)⟩
theorem lw_p73 : lw_okq (⟨"CallExplorerModel", "hadNull", "(I)Z"⟩, 43) := ⟨⟨by decide +kernel, by decide +kernel⟩, List.mem_of_getElem? (i := 823) (by decide +kernel), List.mem_of_getElem? (i := 1083) (by decide +kernel), List.mem_of_getElem? (i := 1084) (by decide +kernel)⟩
theorem lw_p74 : lw_okq (⟨"CallExplorerModel", "unsound", "()I"⟩, 43) := ⟨⟨by decide +kernel, by decide +kernel⟩, List.mem_of_getElem? (i := 823) (by decide +kernel), List.mem_of_getElem? (i := 1087) (by decide +kernel), List.mem_of_getElem? (i := 1088) (by decide +kernel)⟩
theorem lw_p75 : lw_okq (⟨"CallExplorerModel", "codeOf", "(I)I"⟩, 43) := ⟨⟨by decide +kernel, by decide +kernel⟩, List.mem_of_getElem? (i := 823) (by decide +kernel), List.mem_of_getElem? (i := 1091) (by decide +kernel), List.mem_of_getElem? (i := 1092) (by decide +kernel)⟩
theorem lw_p76 : lw_okq (⟨"CallExplorerModel", "form", "()V"⟩, 43) := ⟨⟨by decide +kernel, by decide +kernel⟩, List.mem_of_getElem? (i := 823) (by decide +kernel), List.mem_of_getElem? (i := 1095) (by decide +kernel), List.mem_of_getElem? (i := 1096) (by decide +kernel)⟩
theorem lw_p77 : lw_okq (⟨"CallExplorerModel", "seen", "()Z"⟩, 43) := ⟨⟨by decide +kernel, by decide +kernel⟩, List.mem_of_getElem? (i := 823) (by decide +kernel), List.mem_of_getElem? (i := 1099) (by decide +kernel), List.mem_of_getElem? (i := 1100) (by decide +kernel)⟩
theorem lw_p78 : lw_okq (⟨"CallExplorerModel", "load", "(I)V"⟩, 43) := ⟨⟨by decide +kernel, by decide +kernel⟩, List.mem_of_getElem? (i := 823) (by decide +kernel), List.mem_of_getElem? (i := 1103) (by decide +kernel), List.mem_of_getElem? (i := 1104) (by decide +kernel)⟩
theorem lw_p79 : lw_okq (⟨"CallExplorerModel", "simpler", "(II)V"⟩, 43) := ⟨⟨by decide +kernel, by decide +kernel⟩, List.mem_of_getElem? (i := 823) (by decide +kernel), List.mem_of_getElem? (i := 1116) (by decide +kernel), List.mem_of_getElem? (i := 1117) (by decide +kernel)⟩
def lw_privs_5 : List (MethodName × Nat) := [(⟨"CallExplorerModel", "entered", "()I"⟩, 43), (⟨"CallExplorerModel", "store", "(I)V"⟩, 43), (⟨"CallExplorerModel", "run", "()V"⟩, 43), (⟨"CallExplorerModel", "perform", "(I)I"⟩, 43), (⟨"CallExplorerModel", "valueOf", "(II)I"⟩, 43), (⟨"CallExplorerModel", "made", "(III)I"⟩, 43), (⟨"CallExplorerModel", "reaches", "(II)Z"⟩, 43), (⟨"CallExplorerModel", "count", "(I)I"⟩, 43), (⟨"CallExplorerModel", "equal", "(II)Z"⟩, 43), (⟨"CallExplorerModel", "hadNull", "(I)Z"⟩, 43), (⟨"CallExplorerModel", "unsound", "()I"⟩, 43), (⟨"CallExplorerModel", "codeOf", "(I)I"⟩, 43), (⟨"CallExplorerModel", "form", "()V"⟩, 43), (⟨"CallExplorerModel", "seen", "()Z"⟩, 43), (⟨"CallExplorerModel", "load", "(I)V"⟩, 43), (⟨"CallExplorerModel", "simpler", "(II)V"⟩, 43)]
theorem lw_r5 : ∀ q ∈ lw_privs_5, lw_okq q := List.forall_mem_cons.mpr ⟨lw_p64, List.forall_mem_cons.mpr ⟨lw_p65, List.forall_mem_cons.mpr ⟨lw_p66, List.forall_mem_cons.mpr ⟨lw_p67, List.forall_mem_cons.mpr ⟨lw_p68, List.forall_mem_cons.mpr ⟨lw_p69, List.forall_mem_cons.mpr ⟨lw_p70, List.forall_mem_cons.mpr ⟨lw_p71, List.forall_mem_cons.mpr ⟨lw_p72, List.forall_mem_cons.mpr ⟨lw_p73, List.forall_mem_cons.mpr ⟨lw_p74, List.forall_mem_cons.mpr ⟨lw_p75, List.forall_mem_cons.mpr ⟨lw_p76, List.forall_mem_cons.mpr ⟨lw_p77, List.forall_mem_cons.mpr ⟨lw_p78, List.forall_mem_cons.mpr ⟨lw_p79, fun _ h => absurd h List.not_mem_nil⟩⟩⟩⟩⟩⟩⟩⟩⟩⟩⟩⟩⟩⟩⟩⟩
theorem lw_p80 : lw_okq (⟨"CallExplorerModel", "settle", "(I)V"⟩, 43) := ⟨⟨by decide +kernel, by decide +kernel⟩, List.mem_of_getElem? (i := 823) (by decide +kernel), List.mem_of_getElem? (i := 1120) (by decide +kernel), List.mem_of_getElem? (i := 1121) (by decide +kernel)⟩
theorem lw_p81 : lw_okq (⟨"CallExplorerModel", "used", "(I)Z"⟩, 43) := ⟨⟨by decide +kernel, by decide +kernel⟩, List.mem_of_getElem? (i := 823) (by decide +kernel), List.mem_of_getElem? (i := 1124) (by decide +kernel), List.mem_of_getElem? (i := 1125) (by decide +kernel)⟩
theorem lw_p82 : lw_okq (⟨"CallExplorerModel", "without", "(I)V"⟩, 43) := ⟨⟨by decide +kernel, by decide +kernel⟩, List.mem_of_getElem? (i := 823) (by decide +kernel), List.mem_of_getElem? (i := 1128) (by decide +kernel), List.mem_of_getElem? (i := 1129) (by decide +kernel)⟩
theorem lw_p83 : lw_okq (⟨"CallExplorerModel", "writeAll", "(I)V"⟩, 43) := ⟨⟨by decide +kernel, by decide +kernel⟩, List.mem_of_getElem? (i := 823) (by decide +kernel), List.mem_of_getElem? (i := 1148) (by decide +kernel), List.mem_of_getElem? (i := 1149) (by decide +kernel)⟩
theorem lw_p84 : lw_okq (⟨"CallExplorerModel", "write", "(I)V"⟩, 43) := ⟨⟨by decide +kernel, by decide +kernel⟩, List.mem_of_getElem? (i := 823) (by decide +kernel), List.mem_of_getElem? (i := 1152) (by decide +kernel), List.mem_of_getElem? (i := 1153) (by decide +kernel)⟩
theorem lw_p85 : lw_okq (⟨"CallExplorerModel", "writeNumber", "(I)V"⟩, 43) := ⟨⟨by decide +kernel, by decide +kernel⟩, List.mem_of_getElem? (i := 823) (by decide +kernel), List.mem_of_getElem? (i := 1156) (by decide +kernel), List.mem_of_getElem? (i := 1157) (by decide +kernel)⟩
theorem lw_p86 : lw_okq (⟨"CallExplorerModel", "peek", "()I"⟩, 43) := ⟨⟨by decide +kernel, by decide +kernel⟩, List.mem_of_getElem? (i := 823) (by decide +kernel), List.mem_of_getElem? (i := 1172) (by decide +kernel), List.mem_of_getElem? (i := 1173) (by decide +kernel)⟩
theorem lw_p87 : lw_okq (⟨"CallExplorerModel", "readStatement", "()V"⟩, 43) := ⟨⟨by decide +kernel, by decide +kernel⟩, List.mem_of_getElem? (i := 823) (by decide +kernel), List.mem_of_getElem? (i := 1176) (by decide +kernel), List.mem_of_getElem? (i := 1177) (by decide +kernel)⟩
theorem lw_p88 : lw_okq (⟨"CallExplorerModel", "expect", "(I)V"⟩, 43) := ⟨⟨by decide +kernel, by decide +kernel⟩, List.mem_of_getElem? (i := 823) (by decide +kernel), List.mem_of_getElem? (i := 1180) (by decide +kernel), List.mem_of_getElem? (i := 1181) (by decide +kernel)⟩
theorem lw_p89 : lw_okq (⟨"CallExplorerModel", "readArgument", "(II)V"⟩, 43) := ⟨⟨by decide +kernel, by decide +kernel⟩, List.mem_of_getElem? (i := 823) (by decide +kernel), List.mem_of_getElem? (i := 1184) (by decide +kernel), List.mem_of_getElem? (i := 1185) (by decide +kernel)⟩
theorem lw_p90 : lw_okq (⟨"CallExplorerModel", "number", "(Z)I"⟩, 43) := ⟨⟨by decide +kernel, by decide +kernel⟩, List.mem_of_getElem? (i := 823) (by decide +kernel), List.mem_of_getElem? (i := 1188) (by decide +kernel), List.mem_of_getElem? (i := 1189) (by decide +kernel)⟩
theorem lw_p91 : lw_okq (⟨"CallExplorerModel", "rightEnd", "()Z"⟩, 43) := ⟨⟨by decide +kernel, by decide +kernel⟩, List.mem_of_getElem? (i := 823) (by decide +kernel), List.mem_of_getElem? (i := 1195) (by decide +kernel), List.mem_of_getElem? (i := 1196) (by decide +kernel)⟩
def lw_privs_6 : List (MethodName × Nat) := [(⟨"CallExplorerModel", "settle", "(I)V"⟩, 43), (⟨"CallExplorerModel", "used", "(I)Z"⟩, 43), (⟨"CallExplorerModel", "without", "(I)V"⟩, 43), (⟨"CallExplorerModel", "writeAll", "(I)V"⟩, 43), (⟨"CallExplorerModel", "write", "(I)V"⟩, 43), (⟨"CallExplorerModel", "writeNumber", "(I)V"⟩, 43), (⟨"CallExplorerModel", "peek", "()I"⟩, 43), (⟨"CallExplorerModel", "readStatement", "()V"⟩, 43), (⟨"CallExplorerModel", "expect", "(I)V"⟩, 43), (⟨"CallExplorerModel", "readArgument", "(II)V"⟩, 43), (⟨"CallExplorerModel", "number", "(Z)I"⟩, 43), (⟨"CallExplorerModel", "rightEnd", "()Z"⟩, 43)]
theorem lw_r6 : ∀ q ∈ lw_privs_6, lw_okq q := List.forall_mem_cons.mpr ⟨lw_p80, List.forall_mem_cons.mpr ⟨lw_p81, List.forall_mem_cons.mpr ⟨lw_p82, List.forall_mem_cons.mpr ⟨lw_p83, List.forall_mem_cons.mpr ⟨lw_p84, List.forall_mem_cons.mpr ⟨lw_p85, List.forall_mem_cons.mpr ⟨lw_p86, List.forall_mem_cons.mpr ⟨lw_p87, List.forall_mem_cons.mpr ⟨lw_p88, List.forall_mem_cons.mpr ⟨lw_p89, List.forall_mem_cons.mpr ⟨lw_p90, List.forall_mem_cons.mpr ⟨lw_p91, fun _ h => absurd h List.not_mem_nil⟩⟩⟩⟩⟩⟩⟩⟩⟩⟩⟩⟩
def lw_privs : List (MethodName × Nat) := lw_privs_1 ++ (lw_privs_2 ++ (lw_privs_3 ++ (lw_privs_4 ++ (lw_privs_5 ++ (lw_privs_6)))))
def lw_tbl : List Cond := k2_sels lw_privs ++ tables_1
theorem lw_privs_ok : ∀ q ∈ lw_privs, lw_okq q := by
  show ∀ q ∈ lw_privs_1 ++ (lw_privs_2 ++ (lw_privs_3 ++ (lw_privs_4 ++ (lw_privs_5 ++ (lw_privs_6))))), lw_okq q
  exact List.forall_mem_append.mpr ⟨lw_r1, List.forall_mem_append.mpr ⟨lw_r2, List.forall_mem_append.mpr ⟨lw_r3, List.forall_mem_append.mpr ⟨lw_r4, List.forall_mem_append.mpr ⟨lw_r5, lw_r6⟩⟩⟩⟩⟩
end
section
/-! names: classes with their fields, methods, and the words of the tables by their places; printed by wip/whole/gen/names.py -/
def zt : List Cond := lw_tbl.filter goodWord
theorem zgood : ∀ w ∈ zt, (w.onTables && w.keeps) = true ∨ ∃ ty, w = .arrayClass ty := fun w h => good_of_word (List.mem_filter.mp h).2
theorem zin {w : Cond} (h : w ∈ lw_tbl) (g : goodWord w = true) : w ∈ zt := List.mem_filter.mpr ⟨h, g⟩
def RBook : String := "CallExplorer$Book"
def TBook : u_T := fun k => match k with
  | 0 => ("CallExplorer$Book", "catalog", "LCallExplorer$Catalog;", true)
  | 1 => ("CallExplorer$Book", "size", "I", false)
  | 2 => ("CallExplorer$Book", "rows", "[LCallExplorer$Entry;", true)
  | _ => ("CallExplorer$Book", "listed", "[I", true)
def tyBook : Nat → FieldType := fun k => match k with
  | 0 => .object "CallExplorer$Catalog"
  | 1 => .int
  | 2 => .array (.object "CallExplorer$Entry")
  | _ => .array .int
theorem nmBook : ∀ a, a < 4 → ∀ b, b < 4 → a ≠ b → (TBook a).2.1 ≠ (TBook b).2.1 := by decide +kernel
theorem tyBook_ok : ∀ k, k < 4 → parseFieldDescriptor (TBook k).2.2.1 = some (tyBook k) := by decide +kernel
theorem inBook : ∀ w ∈ u_ws "CallExplorer$Book" TBook 4, w ∈ zt := fun w h => zin (List.mem_append_right _ (of_decide_eq_true (List.all_eq_true.mp (show (u_ws "CallExplorer$Book" TBook 4).all (fun w => decide (w ∈ tables_1)) = true by decide +kernel) w h))) (List.all_eq_true.mp (show (u_ws "CallExplorer$Book" TBook 4).all goodWord = true by decide +kernel) w h)
def RCatalog : String := "CallExplorer$Catalog"
def TCatalog : u_T := fun k => match k with
  | 0 => ("CallExplorer$Catalog", "classes", "I", false)
  | 1 => ("CallExplorer$Catalog", "operations", "I", false)
  | 2 => ("CallExplorer$Catalog", "parents", "[I", true)
  | 3 => ("CallExplorer$Catalog", "senses", "[I", true)
  | 4 => ("CallExplorer$Catalog", "marks", "[I", true)
  | 5 => ("CallExplorer$Catalog", "kinds", "[I", true)
  | 6 => ("CallExplorer$Catalog", "firstTypes", "[I", true)
  | 7 => ("CallExplorer$Catalog", "secondTypes", "[I", true)
  | _ => ("CallExplorer$Catalog", "resultTypes", "[I", true)
def tyCatalog : Nat → FieldType := fun k => match k with
  | 0 => .int
  | 1 => .int
  | 2 => .array .int
  | 3 => .array .int
  | 4 => .array .int
  | 5 => .array .int
  | 6 => .array .int
  | 7 => .array .int
  | _ => .array .int
theorem nmCatalog : ∀ a, a < 9 → ∀ b, b < 9 → a ≠ b → (TCatalog a).2.1 ≠ (TCatalog b).2.1 := by decide +kernel
theorem tyCatalog_ok : ∀ k, k < 9 → parseFieldDescriptor (TCatalog k).2.2.1 = some (tyCatalog k) := by decide +kernel
theorem inCatalog : ∀ w ∈ u_ws "CallExplorer$Catalog" TCatalog 9, w ∈ zt := fun w h => zin (List.mem_append_right _ (of_decide_eq_true (List.all_eq_true.mp (show (u_ws "CallExplorer$Catalog" TCatalog 9).all (fun w => decide (w ∈ tables_1)) = true by decide +kernel) w h))) (List.all_eq_true.mp (show (u_ws "CallExplorer$Catalog" TCatalog 9).all goodWord = true by decide +kernel) w h)
def REntry : String := "CallExplorer$Entry"
def TEntry : u_T := fun k => match k with
  | 0 => ("CallExplorer$Entry", "sequence", "LCallExplorer$Sequence;", true)
  | 1 => ("CallExplorer$Entry", "outcome", "I", true)
  | 2 => ("CallExplorer$Entry", "detail", "I", true)
  | 3 => ("CallExplorer$Entry", "type", "I", true)
  | 4 => ("CallExplorer$Entry", "gave", "I", true)
  | 5 => ("CallExplorer$Entry", "number", "I", true)
  | _ => ("CallExplorer$Entry", "row", "[I", true)
def tyEntry : Nat → FieldType := fun k => match k with
  | 0 => .object "CallExplorer$Sequence"
  | 1 => .int
  | 2 => .int
  | 3 => .int
  | 4 => .int
  | 5 => .int
  | _ => .array .int
theorem nmEntry : ∀ a, a < 7 → ∀ b, b < 7 → a ≠ b → (TEntry a).2.1 ≠ (TEntry b).2.1 := by decide +kernel
theorem tyEntry_ok : ∀ k, k < 7 → parseFieldDescriptor (TEntry k).2.2.1 = some (tyEntry k) := by decide +kernel
theorem inEntry : ∀ w ∈ u_ws "CallExplorer$Entry" TEntry 7, w ∈ zt := fun w h => zin (List.mem_append_right _ (of_decide_eq_true (List.all_eq_true.mp (show (u_ws "CallExplorer$Entry" TEntry 7).all (fun w => decide (w ∈ tables_1)) = true by decide +kernel) w h))) (List.all_eq_true.mp (show (u_ws "CallExplorer$Entry" TEntry 7).all goodWord = true by decide +kernel) w h)
def RGrower : String := "CallExplorer$Grower"
def TGrower : u_T := fun k => match k with
  | 0 => ("CallExplorer$Grower", "catalog", "LCallExplorer$Catalog;", true)
  | 1 => ("CallExplorer$Grower", "book", "LCallExplorer$Book;", true)
  | 2 => ("CallExplorer$Grower", "runner", "LCallExplorer$Runner;", true)
  | 3 => ("CallExplorer$Grower", "sequence", "LCallExplorer$Sequence;", true)
  | 4 => ("CallExplorer$Grower", "literals", "[I", true)
  | 5 => ("CallExplorer$Grower", "literalCount", "I", false)
  | 6 => ("CallExplorer$Grower", "seed", "I", false)
  | 7 => ("CallExplorer$Grower", "forms", "[I", true)
  | _ => ("CallExplorer$Grower", "contents", "[I", true)
def tyGrower : Nat → FieldType := fun k => match k with
  | 0 => .object "CallExplorer$Catalog"
  | 1 => .object "CallExplorer$Book"
  | 2 => .object "CallExplorer$Runner"
  | 3 => .object "CallExplorer$Sequence"
  | 4 => .array .int
  | 5 => .int
  | 6 => .int
  | 7 => .array .int
  | _ => .array .int
theorem nmGrower : ∀ a, a < 9 → ∀ b, b < 9 → a ≠ b → (TGrower a).2.1 ≠ (TGrower b).2.1 := by decide +kernel
theorem tyGrower_ok : ∀ k, k < 9 → parseFieldDescriptor (TGrower k).2.2.1 = some (tyGrower k) := by decide +kernel
theorem inGrower : ∀ w ∈ u_ws "CallExplorer$Grower" TGrower 9, w ∈ zt := fun w h => zin (List.mem_append_right _ (of_decide_eq_true (List.all_eq_true.mp (show (u_ws "CallExplorer$Grower" TGrower 9).all (fun w => decide (w ∈ tables_1)) = true by decide +kernel) w h))) (List.all_eq_true.mp (show (u_ws "CallExplorer$Grower" TGrower 9).all goodWord = true by decide +kernel) w h)
def RHeap : String := "CallExplorer$Heap"
def THeap : u_T := fun k => match k with
  | 0 => ("CallExplorer$Heap", "catalog", "LCallExplorer$Catalog;", true)
  | 1 => ("CallExplorer$Heap", "count", "I", false)
  | 2 => ("CallExplorer$Heap", "classes", "[I", true)
  | 3 => ("CallExplorer$Heap", "values", "[I", true)
  | _ => ("CallExplorer$Heap", "nexts", "[I", true)
def tyHeap : Nat → FieldType := fun k => match k with
  | 0 => .object "CallExplorer$Catalog"
  | 1 => .int
  | 2 => .array .int
  | 3 => .array .int
  | _ => .array .int
theorem nmHeap : ∀ a, a < 5 → ∀ b, b < 5 → a ≠ b → (THeap a).2.1 ≠ (THeap b).2.1 := by decide +kernel
theorem tyHeap_ok : ∀ k, k < 5 → parseFieldDescriptor (THeap k).2.2.1 = some (tyHeap k) := by decide +kernel
theorem inHeap : ∀ w ∈ u_ws "CallExplorer$Heap" THeap 5, w ∈ zt := fun w h => zin (List.mem_append_right _ (of_decide_eq_true (List.all_eq_true.mp (show (u_ws "CallExplorer$Heap" THeap 5).all (fun w => decide (w ∈ tables_1)) = true by decide +kernel) w h))) (List.all_eq_true.mp (show (u_ws "CallExplorer$Heap" THeap 5).all goodWord = true by decide +kernel) w h)
def RReader : String := "CallExplorer$Reader"
def TReader : u_T := fun k => match k with
  | 0 => ("CallExplorer$Reader", "catalog", "LCallExplorer$Catalog;", true)
  | 1 => ("CallExplorer$Reader", "letters", "[C", true)
  | 2 => ("CallExplorer$Reader", "length", "I", false)
  | 3 => ("CallExplorer$Reader", "sequence", "LCallExplorer$Sequence;", true)
  | 4 => ("CallExplorer$Reader", "at", "I", false)
  | 5 => ("CallExplorer$Reader", "numberRead", "I", false)
  | 6 => ("CallExplorer$Reader", "outcome", "I", false)
  | 7 => ("CallExplorer$Reader", "detail", "I", false)
  | 8 => ("CallExplorer$Reader", "gave", "I", false)
  | _ => ("CallExplorer$Reader", "number", "I", false)
def tyReader : Nat → FieldType := fun k => match k with
  | 0 => .object "CallExplorer$Catalog"
  | 1 => .array .char
  | 2 => .int
  | 3 => .object "CallExplorer$Sequence"
  | 4 => .int
  | 5 => .int
  | 6 => .int
  | 7 => .int
  | 8 => .int
  | _ => .int
theorem nmReader : ∀ a, a < 10 → ∀ b, b < 10 → a ≠ b → (TReader a).2.1 ≠ (TReader b).2.1 := by decide +kernel
theorem tyReader_ok : ∀ k, k < 10 → parseFieldDescriptor (TReader k).2.2.1 = some (tyReader k) := by decide +kernel
theorem inReader : ∀ w ∈ u_ws "CallExplorer$Reader" TReader 10, w ∈ zt := fun w h => zin (List.mem_append_right _ (of_decide_eq_true (List.all_eq_true.mp (show (u_ws "CallExplorer$Reader" TReader 10).all (fun w => decide (w ∈ tables_1)) = true by decide +kernel) w h))) (List.all_eq_true.mp (show (u_ws "CallExplorer$Reader" TReader 10).all goodWord = true by decide +kernel) w h)
def RRunner : String := "CallExplorer$Runner"
def TRunner : u_T := fun k => match k with
  | 0 => ("CallExplorer$Runner", "catalog", "LCallExplorer$Catalog;", true)
  | 1 => ("CallExplorer$Runner", "heap", "LCallExplorer$Heap;", true)
  | 2 => ("CallExplorer$Runner", "results", "[I", true)
  | 3 => ("CallExplorer$Runner", "outcome", "I", false)
  | 4 => ("CallExplorer$Runner", "detail", "I", false)
  | 5 => ("CallExplorer$Runner", "gave", "I", false)
  | 6 => ("CallExplorer$Runner", "number", "I", false)
  | 7 => ("CallExplorer$Runner", "rowLength", "I", false)
  | _ => ("CallExplorer$Runner", "row", "[I", true)
def tyRunner : Nat → FieldType := fun k => match k with
  | 0 => .object "CallExplorer$Catalog"
  | 1 => .object "CallExplorer$Heap"
  | 2 => .array .int
  | 3 => .int
  | 4 => .int
  | 5 => .int
  | 6 => .int
  | 7 => .int
  | _ => .array .int
theorem nmRunner : ∀ a, a < 9 → ∀ b, b < 9 → a ≠ b → (TRunner a).2.1 ≠ (TRunner b).2.1 := by decide +kernel
theorem tyRunner_ok : ∀ k, k < 9 → parseFieldDescriptor (TRunner k).2.2.1 = some (tyRunner k) := by decide +kernel
theorem inRunner : ∀ w ∈ u_ws "CallExplorer$Runner" TRunner 9, w ∈ zt := fun w h => zin (List.mem_append_right _ (of_decide_eq_true (List.all_eq_true.mp (show (u_ws "CallExplorer$Runner" TRunner 9).all (fun w => decide (w ∈ tables_1)) = true by decide +kernel) w h))) (List.all_eq_true.mp (show (u_ws "CallExplorer$Runner" TRunner 9).all goodWord = true by decide +kernel) w h)
def RSequence : String := "CallExplorer$Sequence"
def TSequence : u_T := fun k => match k with
  | 0 => ("CallExplorer$Sequence", "size", "I", false)
  | _ => ("CallExplorer$Sequence", "cells", "[I", true)
def tySequence : Nat → FieldType := fun k => match k with
  | 0 => .int
  | _ => .array .int
theorem nmSequence : ∀ a, a < 2 → ∀ b, b < 2 → a ≠ b → (TSequence a).2.1 ≠ (TSequence b).2.1 := by decide +kernel
theorem tySequence_ok : ∀ k, k < 2 → parseFieldDescriptor (TSequence k).2.2.1 = some (tySequence k) := by decide +kernel
theorem inSequence : ∀ w ∈ u_ws "CallExplorer$Sequence" TSequence 2, w ∈ zt := fun w h => zin (List.mem_append_right _ (of_decide_eq_true (List.all_eq_true.mp (show (u_ws "CallExplorer$Sequence" TSequence 2).all (fun w => decide (w ∈ tables_1)) = true by decide +kernel) w h))) (List.all_eq_true.mp (show (u_ws "CallExplorer$Sequence" TSequence 2).all goodWord = true by decide +kernel) w h)
def RShortener : String := "CallExplorer$Shortener"
def TShortener : u_T := fun k => match k with
  | 0 => ("CallExplorer$Shortener", "catalog", "LCallExplorer$Catalog;", true)
  | 1 => ("CallExplorer$Shortener", "runner", "LCallExplorer$Runner;", true)
  | _ => ("CallExplorer$Shortener", "trial", "LCallExplorer$Sequence;", true)
def tyShortener : Nat → FieldType := fun k => match k with
  | 0 => .object "CallExplorer$Catalog"
  | 1 => .object "CallExplorer$Runner"
  | _ => .object "CallExplorer$Sequence"
theorem nmShortener : ∀ a, a < 3 → ∀ b, b < 3 → a ≠ b → (TShortener a).2.1 ≠ (TShortener b).2.1 := by decide +kernel
theorem tyShortener_ok : ∀ k, k < 3 → parseFieldDescriptor (TShortener k).2.2.1 = some (tyShortener k) := by decide +kernel
theorem inShortener : ∀ w ∈ u_ws "CallExplorer$Shortener" TShortener 3, w ∈ zt := fun w h => zin (List.mem_append_right _ (of_decide_eq_true (List.all_eq_true.mp (show (u_ws "CallExplorer$Shortener" TShortener 3).all (fun w => decide (w ∈ tables_1)) = true by decide +kernel) w h))) (List.all_eq_true.mp (show (u_ws "CallExplorer$Shortener" TShortener 3).all goodWord = true by decide +kernel) w h)
def RWriter : String := "CallExplorer$Writer"
def TWriter : u_T := fun k => match k with
  | 0 => ("CallExplorer$Writer", "letters", "[C", true)
  | _ => ("CallExplorer$Writer", "length", "I", false)
def tyWriter : Nat → FieldType := fun k => match k with
  | 0 => .array .char
  | _ => .int
theorem nmWriter : ∀ a, a < 2 → ∀ b, b < 2 → a ≠ b → (TWriter a).2.1 ≠ (TWriter b).2.1 := by decide +kernel
theorem tyWriter_ok : ∀ k, k < 2 → parseFieldDescriptor (TWriter k).2.2.1 = some (tyWriter k) := by decide +kernel
theorem inWriter : ∀ w ∈ u_ws "CallExplorer$Writer" TWriter 2, w ∈ zt := fun w h => zin (List.mem_append_right _ (of_decide_eq_true (List.all_eq_true.mp (show (u_ws "CallExplorer$Writer" TWriter 2).all (fun w => decide (w ∈ tables_1)) = true by decide +kernel) w h))) (List.all_eq_true.mp (show (u_ws "CallExplorer$Writer" TWriter 2).all goodWord = true by decide +kernel) w h)
def RTop : String := "CallExplorer"
def TTop : u_T := fun k => match k with
  | 0 => ("CallExplorer", "catalog", "LCallExplorer$Catalog;", true)
  | 1 => ("CallExplorer", "book", "LCallExplorer$Book;", true)
  | 2 => ("CallExplorer", "runner", "LCallExplorer$Runner;", true)
  | 3 => ("CallExplorer", "grower", "LCallExplorer$Grower;", true)
  | 4 => ("CallExplorer", "shortener", "LCallExplorer$Shortener;", true)
  | 5 => ("CallExplorer", "writer", "LCallExplorer$Writer;", true)
  | _ => ("CallExplorer", "reader", "LCallExplorer$Reader;", true)
def tyTop : Nat → FieldType := fun k => match k with
  | 0 => .object "CallExplorer$Catalog"
  | 1 => .object "CallExplorer$Book"
  | 2 => .object "CallExplorer$Runner"
  | 3 => .object "CallExplorer$Grower"
  | 4 => .object "CallExplorer$Shortener"
  | 5 => .object "CallExplorer$Writer"
  | _ => .object "CallExplorer$Reader"
theorem nmTop : ∀ a, a < 7 → ∀ b, b < 7 → a ≠ b → (TTop a).2.1 ≠ (TTop b).2.1 := by decide +kernel
theorem tyTop_ok : ∀ k, k < 7 → parseFieldDescriptor (TTop k).2.2.1 = some (tyTop k) := by decide +kernel
theorem inTop : ∀ w ∈ u_ws "CallExplorer" TTop 7, w ∈ zt := fun w h => zin (List.mem_append_right _ (of_decide_eq_true (List.all_eq_true.mp (show (u_ws "CallExplorer" TTop 7).all (fun w => decide (w ∈ tables_1)) = true by decide +kernel) w h))) (List.all_eq_true.mp (show (u_ws "CallExplorer" TTop 7).all goodWord = true by decide +kernel) w h)
def RMod : String := "CallExplorerModel"
def TMod : u_T := fun k => match k with
  | 0 => ("CallExplorerModel", "state", "I", false)
  | 1 => ("CallExplorerModel", "classes", "I", false)
  | 2 => ("CallExplorerModel", "parent", "[I", true)
  | 3 => ("CallExplorerModel", "sense", "[I", true)
  | 4 => ("CallExplorerModel", "mark", "[I", true)
  | 5 => ("CallExplorerModel", "operations", "I", false)
  | 6 => ("CallExplorerModel", "kind", "[I", true)
  | 7 => ("CallExplorerModel", "first", "[I", true)
  | 8 => ("CallExplorerModel", "second", "[I", true)
  | 9 => ("CallExplorerModel", "literals", "I", false)
  | 10 => ("CallExplorerModel", "literal", "[I", true)
  | 11 => ("CallExplorerModel", "size", "I", false)
  | 12 => ("CallExplorerModel", "op", "[I", true)
  | 13 => ("CallExplorerModel", "how", "[I", true)
  | 14 => ("CallExplorerModel", "arg", "[I", true)
  | 15 => ("CallExplorerModel", "nowHow", "[I", true)
  | 16 => ("CallExplorerModel", "nowArg", "[I", true)
  | 17 => ("CallExplorerModel", "entries", "I", false)
  | 18 => ("CallExplorerModel", "sizes", "[I", true)
  | 19 => ("CallExplorerModel", "ops", "[I", true)
  | 20 => ("CallExplorerModel", "hows", "[I", true)
  | 21 => ("CallExplorerModel", "args", "[I", true)
  | 22 => ("CallExplorerModel", "outcome", "[I", true)
  | 23 => ("CallExplorerModel", "detail", "[I", true)
  | 24 => ("CallExplorerModel", "gave", "[I", true)
  | 25 => ("CallExplorerModel", "objects", "I", false)
  | 26 => ("CallExplorerModel", "of", "[I", true)
  | 27 => ("CallExplorerModel", "value", "[I", true)
  | 28 => ("CallExplorerModel", "next", "[I", true)
  | 29 => ("CallExplorerModel", "result", "[I", true)
  | 30 => ("CallExplorerModel", "trouble", "I", false)
  | 31 => ("CallExplorerModel", "came", "I", false)
  | 32 => ("CallExplorerModel", "cameBy", "I", false)
  | 33 => ("CallExplorerModel", "shapeN", "I", false)
  | 34 => ("CallExplorerModel", "shape", "[I", true)
  | 35 => ("CallExplorerModel", "wantedN", "I", false)
  | 36 => ("CallExplorerModel", "wanted", "[I", true)
  | 37 => ("CallExplorerModel", "drafted", "I", false)
  | 38 => ("CallExplorerModel", "draft", "[I", true)
  | 39 => ("CallExplorerModel", "written", "I", false)
  | 40 => ("CallExplorerModel", "text", "[I", true)
  | 41 => ("CallExplorerModel", "at", "I", false)
  | _ => ("CallExplorerModel", "bad", "Z", false)
def tyMod : Nat → FieldType := fun k => match k with
  | 0 => .int
  | 1 => .int
  | 2 => .array .int
  | 3 => .array .int
  | 4 => .array .int
  | 5 => .int
  | 6 => .array .int
  | 7 => .array .int
  | 8 => .array .int
  | 9 => .int
  | 10 => .array .int
  | 11 => .int
  | 12 => .array .int
  | 13 => .array .int
  | 14 => .array .int
  | 15 => .array .int
  | 16 => .array .int
  | 17 => .int
  | 18 => .array .int
  | 19 => .array .int
  | 20 => .array .int
  | 21 => .array .int
  | 22 => .array .int
  | 23 => .array .int
  | 24 => .array .int
  | 25 => .int
  | 26 => .array .int
  | 27 => .array .int
  | 28 => .array .int
  | 29 => .array .int
  | 30 => .int
  | 31 => .int
  | 32 => .int
  | 33 => .int
  | 34 => .array .int
  | 35 => .int
  | 36 => .array .int
  | 37 => .int
  | 38 => .array .int
  | 39 => .int
  | 40 => .array .int
  | 41 => .int
  | _ => .boolean
theorem nmMod : ∀ a, a < 43 → ∀ b, b < 43 → a ≠ b → (TMod a).2.1 ≠ (TMod b).2.1 := by decide +kernel
theorem tyMod_ok : ∀ k, k < 43 → parseFieldDescriptor (TMod k).2.2.1 = some (tyMod k) := by decide +kernel
theorem inMod : ∀ w ∈ u_ws "CallExplorerModel" TMod 43, w ∈ zt := fun w h => zin (List.mem_append_right _ (of_decide_eq_true (List.all_eq_true.mp (show (u_ws "CallExplorerModel" TMod 43).all (fun w => decide (w ∈ tables_1)) = true by decide +kernel) w h))) (List.all_eq_true.mp (show (u_ws "CallExplorerModel" TMod 43).all goodWord = true by decide +kernel) w h)
abbrev zcl : List vw_C := [("CallExplorer$Book", TBook, 4), ("CallExplorer$Catalog", TCatalog, 9), ("CallExplorer$Entry", TEntry, 7), ("CallExplorer$Grower", TGrower, 9), ("CallExplorer$Heap", THeap, 5), ("CallExplorer$Reader", TReader, 10), ("CallExplorer$Runner", TRunner, 9), ("CallExplorer$Sequence", TSequence, 2), ("CallExplorer$Shortener", TShortener, 3), ("CallExplorer$Writer", TWriter, 2), ("CallExplorer", TTop, 7), ("CallExplorerModel", TMod, 43)]
def zFld (ci k : Nat) (C nm ds : String) (fin : Bool) (ty : FieldType) : Prop := ∃ (T : u_T) (N0 : Nat) (ty0 : Nat → FieldType), zcl[ci]? = some (C, T, N0) ∧ (∀ w ∈ u_ws C T N0, w ∈ zt) ∧ (∀ j, j < N0 → parseFieldDescriptor (T j).2.2.1 = some (ty0 j)) ∧ (∀ a, a < N0 → ∀ b, b < N0 → a ≠ b → (T a).2.1 ≠ (T b).2.1) ∧ k < N0 ∧ T k = (C, nm, ds, fin) ∧ parseFieldDescriptor ds = some ty
theorem fBook_catalog : zFld 0 0 "CallExplorer$Book" "catalog" "LCallExplorer$Catalog;" true (.object "CallExplorer$Catalog") := ⟨TBook, 4, tyBook, rfl, inBook, tyBook_ok, nmBook, by decide, rfl, by decide +kernel⟩
theorem fBook_size : zFld 0 1 "CallExplorer$Book" "size" "I" false .int := ⟨TBook, 4, tyBook, rfl, inBook, tyBook_ok, nmBook, by decide, rfl, by decide +kernel⟩
theorem fBook_rows : zFld 0 2 "CallExplorer$Book" "rows" "[LCallExplorer$Entry;" true (.array (.object "CallExplorer$Entry")) := ⟨TBook, 4, tyBook, rfl, inBook, tyBook_ok, nmBook, by decide, rfl, by decide +kernel⟩
theorem fBook_listed : zFld 0 3 "CallExplorer$Book" "listed" "[I" true (.array .int) := ⟨TBook, 4, tyBook, rfl, inBook, tyBook_ok, nmBook, by decide, rfl, by decide +kernel⟩
theorem fCatalog_classes : zFld 1 0 "CallExplorer$Catalog" "classes" "I" false .int := ⟨TCatalog, 9, tyCatalog, rfl, inCatalog, tyCatalog_ok, nmCatalog, by decide, rfl, by decide +kernel⟩
theorem fCatalog_operations : zFld 1 1 "CallExplorer$Catalog" "operations" "I" false .int := ⟨TCatalog, 9, tyCatalog, rfl, inCatalog, tyCatalog_ok, nmCatalog, by decide, rfl, by decide +kernel⟩
theorem fCatalog_parents : zFld 1 2 "CallExplorer$Catalog" "parents" "[I" true (.array .int) := ⟨TCatalog, 9, tyCatalog, rfl, inCatalog, tyCatalog_ok, nmCatalog, by decide, rfl, by decide +kernel⟩
theorem fCatalog_senses : zFld 1 3 "CallExplorer$Catalog" "senses" "[I" true (.array .int) := ⟨TCatalog, 9, tyCatalog, rfl, inCatalog, tyCatalog_ok, nmCatalog, by decide, rfl, by decide +kernel⟩
theorem fCatalog_marks : zFld 1 4 "CallExplorer$Catalog" "marks" "[I" true (.array .int) := ⟨TCatalog, 9, tyCatalog, rfl, inCatalog, tyCatalog_ok, nmCatalog, by decide, rfl, by decide +kernel⟩
theorem fCatalog_kinds : zFld 1 5 "CallExplorer$Catalog" "kinds" "[I" true (.array .int) := ⟨TCatalog, 9, tyCatalog, rfl, inCatalog, tyCatalog_ok, nmCatalog, by decide, rfl, by decide +kernel⟩
theorem fCatalog_firstTypes : zFld 1 6 "CallExplorer$Catalog" "firstTypes" "[I" true (.array .int) := ⟨TCatalog, 9, tyCatalog, rfl, inCatalog, tyCatalog_ok, nmCatalog, by decide, rfl, by decide +kernel⟩
theorem fCatalog_secondTypes : zFld 1 7 "CallExplorer$Catalog" "secondTypes" "[I" true (.array .int) := ⟨TCatalog, 9, tyCatalog, rfl, inCatalog, tyCatalog_ok, nmCatalog, by decide, rfl, by decide +kernel⟩
theorem fCatalog_resultTypes : zFld 1 8 "CallExplorer$Catalog" "resultTypes" "[I" true (.array .int) := ⟨TCatalog, 9, tyCatalog, rfl, inCatalog, tyCatalog_ok, nmCatalog, by decide, rfl, by decide +kernel⟩
theorem fEntry_sequence : zFld 2 0 "CallExplorer$Entry" "sequence" "LCallExplorer$Sequence;" true (.object "CallExplorer$Sequence") := ⟨TEntry, 7, tyEntry, rfl, inEntry, tyEntry_ok, nmEntry, by decide, rfl, by decide +kernel⟩
theorem fEntry_outcome : zFld 2 1 "CallExplorer$Entry" "outcome" "I" true .int := ⟨TEntry, 7, tyEntry, rfl, inEntry, tyEntry_ok, nmEntry, by decide, rfl, by decide +kernel⟩
theorem fEntry_detail : zFld 2 2 "CallExplorer$Entry" "detail" "I" true .int := ⟨TEntry, 7, tyEntry, rfl, inEntry, tyEntry_ok, nmEntry, by decide, rfl, by decide +kernel⟩
theorem fEntry_type : zFld 2 3 "CallExplorer$Entry" "type" "I" true .int := ⟨TEntry, 7, tyEntry, rfl, inEntry, tyEntry_ok, nmEntry, by decide, rfl, by decide +kernel⟩
theorem fEntry_gave : zFld 2 4 "CallExplorer$Entry" "gave" "I" true .int := ⟨TEntry, 7, tyEntry, rfl, inEntry, tyEntry_ok, nmEntry, by decide, rfl, by decide +kernel⟩
theorem fEntry_number : zFld 2 5 "CallExplorer$Entry" "number" "I" true .int := ⟨TEntry, 7, tyEntry, rfl, inEntry, tyEntry_ok, nmEntry, by decide, rfl, by decide +kernel⟩
theorem fEntry_row : zFld 2 6 "CallExplorer$Entry" "row" "[I" true (.array .int) := ⟨TEntry, 7, tyEntry, rfl, inEntry, tyEntry_ok, nmEntry, by decide, rfl, by decide +kernel⟩
theorem fGrower_catalog : zFld 3 0 "CallExplorer$Grower" "catalog" "LCallExplorer$Catalog;" true (.object "CallExplorer$Catalog") := ⟨TGrower, 9, tyGrower, rfl, inGrower, tyGrower_ok, nmGrower, by decide, rfl, by decide +kernel⟩
theorem fGrower_book : zFld 3 1 "CallExplorer$Grower" "book" "LCallExplorer$Book;" true (.object "CallExplorer$Book") := ⟨TGrower, 9, tyGrower, rfl, inGrower, tyGrower_ok, nmGrower, by decide, rfl, by decide +kernel⟩
theorem fGrower_runner : zFld 3 2 "CallExplorer$Grower" "runner" "LCallExplorer$Runner;" true (.object "CallExplorer$Runner") := ⟨TGrower, 9, tyGrower, rfl, inGrower, tyGrower_ok, nmGrower, by decide, rfl, by decide +kernel⟩
theorem fGrower_sequence : zFld 3 3 "CallExplorer$Grower" "sequence" "LCallExplorer$Sequence;" true (.object "CallExplorer$Sequence") := ⟨TGrower, 9, tyGrower, rfl, inGrower, tyGrower_ok, nmGrower, by decide, rfl, by decide +kernel⟩
theorem fGrower_literals : zFld 3 4 "CallExplorer$Grower" "literals" "[I" true (.array .int) := ⟨TGrower, 9, tyGrower, rfl, inGrower, tyGrower_ok, nmGrower, by decide, rfl, by decide +kernel⟩
theorem fGrower_literalCount : zFld 3 5 "CallExplorer$Grower" "literalCount" "I" false .int := ⟨TGrower, 9, tyGrower, rfl, inGrower, tyGrower_ok, nmGrower, by decide, rfl, by decide +kernel⟩
theorem fGrower_seed : zFld 3 6 "CallExplorer$Grower" "seed" "I" false .int := ⟨TGrower, 9, tyGrower, rfl, inGrower, tyGrower_ok, nmGrower, by decide, rfl, by decide +kernel⟩
theorem fGrower_forms : zFld 3 7 "CallExplorer$Grower" "forms" "[I" true (.array .int) := ⟨TGrower, 9, tyGrower, rfl, inGrower, tyGrower_ok, nmGrower, by decide, rfl, by decide +kernel⟩
theorem fGrower_contents : zFld 3 8 "CallExplorer$Grower" "contents" "[I" true (.array .int) := ⟨TGrower, 9, tyGrower, rfl, inGrower, tyGrower_ok, nmGrower, by decide, rfl, by decide +kernel⟩
theorem fHeap_catalog : zFld 4 0 "CallExplorer$Heap" "catalog" "LCallExplorer$Catalog;" true (.object "CallExplorer$Catalog") := ⟨THeap, 5, tyHeap, rfl, inHeap, tyHeap_ok, nmHeap, by decide, rfl, by decide +kernel⟩
theorem fHeap_count : zFld 4 1 "CallExplorer$Heap" "count" "I" false .int := ⟨THeap, 5, tyHeap, rfl, inHeap, tyHeap_ok, nmHeap, by decide, rfl, by decide +kernel⟩
theorem fHeap_classes : zFld 4 2 "CallExplorer$Heap" "classes" "[I" true (.array .int) := ⟨THeap, 5, tyHeap, rfl, inHeap, tyHeap_ok, nmHeap, by decide, rfl, by decide +kernel⟩
theorem fHeap_values : zFld 4 3 "CallExplorer$Heap" "values" "[I" true (.array .int) := ⟨THeap, 5, tyHeap, rfl, inHeap, tyHeap_ok, nmHeap, by decide, rfl, by decide +kernel⟩
theorem fHeap_nexts : zFld 4 4 "CallExplorer$Heap" "nexts" "[I" true (.array .int) := ⟨THeap, 5, tyHeap, rfl, inHeap, tyHeap_ok, nmHeap, by decide, rfl, by decide +kernel⟩
theorem fReader_catalog : zFld 5 0 "CallExplorer$Reader" "catalog" "LCallExplorer$Catalog;" true (.object "CallExplorer$Catalog") := ⟨TReader, 10, tyReader, rfl, inReader, tyReader_ok, nmReader, by decide, rfl, by decide +kernel⟩
theorem fReader_letters : zFld 5 1 "CallExplorer$Reader" "letters" "[C" true (.array .char) := ⟨TReader, 10, tyReader, rfl, inReader, tyReader_ok, nmReader, by decide, rfl, by decide +kernel⟩
theorem fReader_length : zFld 5 2 "CallExplorer$Reader" "length" "I" false .int := ⟨TReader, 10, tyReader, rfl, inReader, tyReader_ok, nmReader, by decide, rfl, by decide +kernel⟩
theorem fReader_sequence : zFld 5 3 "CallExplorer$Reader" "sequence" "LCallExplorer$Sequence;" true (.object "CallExplorer$Sequence") := ⟨TReader, 10, tyReader, rfl, inReader, tyReader_ok, nmReader, by decide, rfl, by decide +kernel⟩
theorem fReader_at : zFld 5 4 "CallExplorer$Reader" "at" "I" false .int := ⟨TReader, 10, tyReader, rfl, inReader, tyReader_ok, nmReader, by decide, rfl, by decide +kernel⟩
theorem fReader_numberRead : zFld 5 5 "CallExplorer$Reader" "numberRead" "I" false .int := ⟨TReader, 10, tyReader, rfl, inReader, tyReader_ok, nmReader, by decide, rfl, by decide +kernel⟩
theorem fReader_outcome : zFld 5 6 "CallExplorer$Reader" "outcome" "I" false .int := ⟨TReader, 10, tyReader, rfl, inReader, tyReader_ok, nmReader, by decide, rfl, by decide +kernel⟩
theorem fReader_detail : zFld 5 7 "CallExplorer$Reader" "detail" "I" false .int := ⟨TReader, 10, tyReader, rfl, inReader, tyReader_ok, nmReader, by decide, rfl, by decide +kernel⟩
theorem fReader_gave : zFld 5 8 "CallExplorer$Reader" "gave" "I" false .int := ⟨TReader, 10, tyReader, rfl, inReader, tyReader_ok, nmReader, by decide, rfl, by decide +kernel⟩
theorem fReader_number : zFld 5 9 "CallExplorer$Reader" "number" "I" false .int := ⟨TReader, 10, tyReader, rfl, inReader, tyReader_ok, nmReader, by decide, rfl, by decide +kernel⟩
theorem fRunner_catalog : zFld 6 0 "CallExplorer$Runner" "catalog" "LCallExplorer$Catalog;" true (.object "CallExplorer$Catalog") := ⟨TRunner, 9, tyRunner, rfl, inRunner, tyRunner_ok, nmRunner, by decide, rfl, by decide +kernel⟩
theorem fRunner_heap : zFld 6 1 "CallExplorer$Runner" "heap" "LCallExplorer$Heap;" true (.object "CallExplorer$Heap") := ⟨TRunner, 9, tyRunner, rfl, inRunner, tyRunner_ok, nmRunner, by decide, rfl, by decide +kernel⟩
theorem fRunner_results : zFld 6 2 "CallExplorer$Runner" "results" "[I" true (.array .int) := ⟨TRunner, 9, tyRunner, rfl, inRunner, tyRunner_ok, nmRunner, by decide, rfl, by decide +kernel⟩
theorem fRunner_outcome : zFld 6 3 "CallExplorer$Runner" "outcome" "I" false .int := ⟨TRunner, 9, tyRunner, rfl, inRunner, tyRunner_ok, nmRunner, by decide, rfl, by decide +kernel⟩
theorem fRunner_detail : zFld 6 4 "CallExplorer$Runner" "detail" "I" false .int := ⟨TRunner, 9, tyRunner, rfl, inRunner, tyRunner_ok, nmRunner, by decide, rfl, by decide +kernel⟩
theorem fRunner_gave : zFld 6 5 "CallExplorer$Runner" "gave" "I" false .int := ⟨TRunner, 9, tyRunner, rfl, inRunner, tyRunner_ok, nmRunner, by decide, rfl, by decide +kernel⟩
theorem fRunner_number : zFld 6 6 "CallExplorer$Runner" "number" "I" false .int := ⟨TRunner, 9, tyRunner, rfl, inRunner, tyRunner_ok, nmRunner, by decide, rfl, by decide +kernel⟩
theorem fRunner_rowLength : zFld 6 7 "CallExplorer$Runner" "rowLength" "I" false .int := ⟨TRunner, 9, tyRunner, rfl, inRunner, tyRunner_ok, nmRunner, by decide, rfl, by decide +kernel⟩
theorem fRunner_row : zFld 6 8 "CallExplorer$Runner" "row" "[I" true (.array .int) := ⟨TRunner, 9, tyRunner, rfl, inRunner, tyRunner_ok, nmRunner, by decide, rfl, by decide +kernel⟩
theorem fSequence_size : zFld 7 0 "CallExplorer$Sequence" "size" "I" false .int := ⟨TSequence, 2, tySequence, rfl, inSequence, tySequence_ok, nmSequence, by decide, rfl, by decide +kernel⟩
theorem fSequence_cells : zFld 7 1 "CallExplorer$Sequence" "cells" "[I" true (.array .int) := ⟨TSequence, 2, tySequence, rfl, inSequence, tySequence_ok, nmSequence, by decide, rfl, by decide +kernel⟩
theorem fShortener_catalog : zFld 8 0 "CallExplorer$Shortener" "catalog" "LCallExplorer$Catalog;" true (.object "CallExplorer$Catalog") := ⟨TShortener, 3, tyShortener, rfl, inShortener, tyShortener_ok, nmShortener, by decide, rfl, by decide +kernel⟩
theorem fShortener_runner : zFld 8 1 "CallExplorer$Shortener" "runner" "LCallExplorer$Runner;" true (.object "CallExplorer$Runner") := ⟨TShortener, 3, tyShortener, rfl, inShortener, tyShortener_ok, nmShortener, by decide, rfl, by decide +kernel⟩
theorem fShortener_trial : zFld 8 2 "CallExplorer$Shortener" "trial" "LCallExplorer$Sequence;" true (.object "CallExplorer$Sequence") := ⟨TShortener, 3, tyShortener, rfl, inShortener, tyShortener_ok, nmShortener, by decide, rfl, by decide +kernel⟩
theorem fWriter_letters : zFld 9 0 "CallExplorer$Writer" "letters" "[C" true (.array .char) := ⟨TWriter, 2, tyWriter, rfl, inWriter, tyWriter_ok, nmWriter, by decide, rfl, by decide +kernel⟩
theorem fWriter_length : zFld 9 1 "CallExplorer$Writer" "length" "I" false .int := ⟨TWriter, 2, tyWriter, rfl, inWriter, tyWriter_ok, nmWriter, by decide, rfl, by decide +kernel⟩
theorem fTop_catalog : zFld 10 0 "CallExplorer" "catalog" "LCallExplorer$Catalog;" true (.object "CallExplorer$Catalog") := ⟨TTop, 7, tyTop, rfl, inTop, tyTop_ok, nmTop, by decide, rfl, by decide +kernel⟩
theorem fTop_book : zFld 10 1 "CallExplorer" "book" "LCallExplorer$Book;" true (.object "CallExplorer$Book") := ⟨TTop, 7, tyTop, rfl, inTop, tyTop_ok, nmTop, by decide, rfl, by decide +kernel⟩
theorem fTop_runner : zFld 10 2 "CallExplorer" "runner" "LCallExplorer$Runner;" true (.object "CallExplorer$Runner") := ⟨TTop, 7, tyTop, rfl, inTop, tyTop_ok, nmTop, by decide, rfl, by decide +kernel⟩
theorem fTop_grower : zFld 10 3 "CallExplorer" "grower" "LCallExplorer$Grower;" true (.object "CallExplorer$Grower") := ⟨TTop, 7, tyTop, rfl, inTop, tyTop_ok, nmTop, by decide, rfl, by decide +kernel⟩
theorem fTop_shortener : zFld 10 4 "CallExplorer" "shortener" "LCallExplorer$Shortener;" true (.object "CallExplorer$Shortener") := ⟨TTop, 7, tyTop, rfl, inTop, tyTop_ok, nmTop, by decide, rfl, by decide +kernel⟩
theorem fTop_writer : zFld 10 5 "CallExplorer" "writer" "LCallExplorer$Writer;" true (.object "CallExplorer$Writer") := ⟨TTop, 7, tyTop, rfl, inTop, tyTop_ok, nmTop, by decide, rfl, by decide +kernel⟩
theorem fTop_reader : zFld 10 6 "CallExplorer" "reader" "LCallExplorer$Reader;" true (.object "CallExplorer$Reader") := ⟨TTop, 7, tyTop, rfl, inTop, tyTop_ok, nmTop, by decide, rfl, by decide +kernel⟩
theorem fMod_state : zFld 11 0 "CallExplorerModel" "state" "I" false .int := ⟨TMod, 43, tyMod, rfl, inMod, tyMod_ok, nmMod, by decide, rfl, by decide +kernel⟩
theorem fMod_classes : zFld 11 1 "CallExplorerModel" "classes" "I" false .int := ⟨TMod, 43, tyMod, rfl, inMod, tyMod_ok, nmMod, by decide, rfl, by decide +kernel⟩
theorem fMod_parent : zFld 11 2 "CallExplorerModel" "parent" "[I" true (.array .int) := ⟨TMod, 43, tyMod, rfl, inMod, tyMod_ok, nmMod, by decide, rfl, by decide +kernel⟩
theorem fMod_sense : zFld 11 3 "CallExplorerModel" "sense" "[I" true (.array .int) := ⟨TMod, 43, tyMod, rfl, inMod, tyMod_ok, nmMod, by decide, rfl, by decide +kernel⟩
theorem fMod_mark : zFld 11 4 "CallExplorerModel" "mark" "[I" true (.array .int) := ⟨TMod, 43, tyMod, rfl, inMod, tyMod_ok, nmMod, by decide, rfl, by decide +kernel⟩
theorem fMod_operations : zFld 11 5 "CallExplorerModel" "operations" "I" false .int := ⟨TMod, 43, tyMod, rfl, inMod, tyMod_ok, nmMod, by decide, rfl, by decide +kernel⟩
theorem fMod_kind : zFld 11 6 "CallExplorerModel" "kind" "[I" true (.array .int) := ⟨TMod, 43, tyMod, rfl, inMod, tyMod_ok, nmMod, by decide, rfl, by decide +kernel⟩
theorem fMod_first : zFld 11 7 "CallExplorerModel" "first" "[I" true (.array .int) := ⟨TMod, 43, tyMod, rfl, inMod, tyMod_ok, nmMod, by decide, rfl, by decide +kernel⟩
theorem fMod_second : zFld 11 8 "CallExplorerModel" "second" "[I" true (.array .int) := ⟨TMod, 43, tyMod, rfl, inMod, tyMod_ok, nmMod, by decide, rfl, by decide +kernel⟩
theorem fMod_literals : zFld 11 9 "CallExplorerModel" "literals" "I" false .int := ⟨TMod, 43, tyMod, rfl, inMod, tyMod_ok, nmMod, by decide, rfl, by decide +kernel⟩
theorem fMod_literal : zFld 11 10 "CallExplorerModel" "literal" "[I" true (.array .int) := ⟨TMod, 43, tyMod, rfl, inMod, tyMod_ok, nmMod, by decide, rfl, by decide +kernel⟩
theorem fMod_size : zFld 11 11 "CallExplorerModel" "size" "I" false .int := ⟨TMod, 43, tyMod, rfl, inMod, tyMod_ok, nmMod, by decide, rfl, by decide +kernel⟩
theorem fMod_op : zFld 11 12 "CallExplorerModel" "op" "[I" true (.array .int) := ⟨TMod, 43, tyMod, rfl, inMod, tyMod_ok, nmMod, by decide, rfl, by decide +kernel⟩
theorem fMod_how : zFld 11 13 "CallExplorerModel" "how" "[I" true (.array .int) := ⟨TMod, 43, tyMod, rfl, inMod, tyMod_ok, nmMod, by decide, rfl, by decide +kernel⟩
theorem fMod_arg : zFld 11 14 "CallExplorerModel" "arg" "[I" true (.array .int) := ⟨TMod, 43, tyMod, rfl, inMod, tyMod_ok, nmMod, by decide, rfl, by decide +kernel⟩
theorem fMod_nowHow : zFld 11 15 "CallExplorerModel" "nowHow" "[I" true (.array .int) := ⟨TMod, 43, tyMod, rfl, inMod, tyMod_ok, nmMod, by decide, rfl, by decide +kernel⟩
theorem fMod_nowArg : zFld 11 16 "CallExplorerModel" "nowArg" "[I" true (.array .int) := ⟨TMod, 43, tyMod, rfl, inMod, tyMod_ok, nmMod, by decide, rfl, by decide +kernel⟩
theorem fMod_entries : zFld 11 17 "CallExplorerModel" "entries" "I" false .int := ⟨TMod, 43, tyMod, rfl, inMod, tyMod_ok, nmMod, by decide, rfl, by decide +kernel⟩
theorem fMod_sizes : zFld 11 18 "CallExplorerModel" "sizes" "[I" true (.array .int) := ⟨TMod, 43, tyMod, rfl, inMod, tyMod_ok, nmMod, by decide, rfl, by decide +kernel⟩
theorem fMod_ops : zFld 11 19 "CallExplorerModel" "ops" "[I" true (.array .int) := ⟨TMod, 43, tyMod, rfl, inMod, tyMod_ok, nmMod, by decide, rfl, by decide +kernel⟩
theorem fMod_hows : zFld 11 20 "CallExplorerModel" "hows" "[I" true (.array .int) := ⟨TMod, 43, tyMod, rfl, inMod, tyMod_ok, nmMod, by decide, rfl, by decide +kernel⟩
theorem fMod_args : zFld 11 21 "CallExplorerModel" "args" "[I" true (.array .int) := ⟨TMod, 43, tyMod, rfl, inMod, tyMod_ok, nmMod, by decide, rfl, by decide +kernel⟩
theorem fMod_outcome : zFld 11 22 "CallExplorerModel" "outcome" "[I" true (.array .int) := ⟨TMod, 43, tyMod, rfl, inMod, tyMod_ok, nmMod, by decide, rfl, by decide +kernel⟩
theorem fMod_detail : zFld 11 23 "CallExplorerModel" "detail" "[I" true (.array .int) := ⟨TMod, 43, tyMod, rfl, inMod, tyMod_ok, nmMod, by decide, rfl, by decide +kernel⟩
theorem fMod_gave : zFld 11 24 "CallExplorerModel" "gave" "[I" true (.array .int) := ⟨TMod, 43, tyMod, rfl, inMod, tyMod_ok, nmMod, by decide, rfl, by decide +kernel⟩
theorem fMod_objects : zFld 11 25 "CallExplorerModel" "objects" "I" false .int := ⟨TMod, 43, tyMod, rfl, inMod, tyMod_ok, nmMod, by decide, rfl, by decide +kernel⟩
theorem fMod_of : zFld 11 26 "CallExplorerModel" "of" "[I" true (.array .int) := ⟨TMod, 43, tyMod, rfl, inMod, tyMod_ok, nmMod, by decide, rfl, by decide +kernel⟩
theorem fMod_value : zFld 11 27 "CallExplorerModel" "value" "[I" true (.array .int) := ⟨TMod, 43, tyMod, rfl, inMod, tyMod_ok, nmMod, by decide, rfl, by decide +kernel⟩
theorem fMod_next : zFld 11 28 "CallExplorerModel" "next" "[I" true (.array .int) := ⟨TMod, 43, tyMod, rfl, inMod, tyMod_ok, nmMod, by decide, rfl, by decide +kernel⟩
theorem fMod_result : zFld 11 29 "CallExplorerModel" "result" "[I" true (.array .int) := ⟨TMod, 43, tyMod, rfl, inMod, tyMod_ok, nmMod, by decide, rfl, by decide +kernel⟩
theorem fMod_trouble : zFld 11 30 "CallExplorerModel" "trouble" "I" false .int := ⟨TMod, 43, tyMod, rfl, inMod, tyMod_ok, nmMod, by decide, rfl, by decide +kernel⟩
theorem fMod_came : zFld 11 31 "CallExplorerModel" "came" "I" false .int := ⟨TMod, 43, tyMod, rfl, inMod, tyMod_ok, nmMod, by decide, rfl, by decide +kernel⟩
theorem fMod_cameBy : zFld 11 32 "CallExplorerModel" "cameBy" "I" false .int := ⟨TMod, 43, tyMod, rfl, inMod, tyMod_ok, nmMod, by decide, rfl, by decide +kernel⟩
theorem fMod_shapeN : zFld 11 33 "CallExplorerModel" "shapeN" "I" false .int := ⟨TMod, 43, tyMod, rfl, inMod, tyMod_ok, nmMod, by decide, rfl, by decide +kernel⟩
theorem fMod_shape : zFld 11 34 "CallExplorerModel" "shape" "[I" true (.array .int) := ⟨TMod, 43, tyMod, rfl, inMod, tyMod_ok, nmMod, by decide, rfl, by decide +kernel⟩
theorem fMod_wantedN : zFld 11 35 "CallExplorerModel" "wantedN" "I" false .int := ⟨TMod, 43, tyMod, rfl, inMod, tyMod_ok, nmMod, by decide, rfl, by decide +kernel⟩
theorem fMod_wanted : zFld 11 36 "CallExplorerModel" "wanted" "[I" true (.array .int) := ⟨TMod, 43, tyMod, rfl, inMod, tyMod_ok, nmMod, by decide, rfl, by decide +kernel⟩
theorem fMod_drafted : zFld 11 37 "CallExplorerModel" "drafted" "I" false .int := ⟨TMod, 43, tyMod, rfl, inMod, tyMod_ok, nmMod, by decide, rfl, by decide +kernel⟩
theorem fMod_draft : zFld 11 38 "CallExplorerModel" "draft" "[I" true (.array .int) := ⟨TMod, 43, tyMod, rfl, inMod, tyMod_ok, nmMod, by decide, rfl, by decide +kernel⟩
theorem fMod_written : zFld 11 39 "CallExplorerModel" "written" "I" false .int := ⟨TMod, 43, tyMod, rfl, inMod, tyMod_ok, nmMod, by decide, rfl, by decide +kernel⟩
theorem fMod_text : zFld 11 40 "CallExplorerModel" "text" "[I" true (.array .int) := ⟨TMod, 43, tyMod, rfl, inMod, tyMod_ok, nmMod, by decide, rfl, by decide +kernel⟩
theorem fMod_at : zFld 11 41 "CallExplorerModel" "at" "I" false .int := ⟨TMod, 43, tyMod, rfl, inMod, tyMod_ok, nmMod, by decide, rfl, by decide +kernel⟩
theorem fMod_bad : zFld 11 42 "CallExplorerModel" "bad" "Z" false .boolean := ⟨TMod, 43, tyMod, rfl, inMod, tyMod_ok, nmMod, by decide, rfl, by decide +kernel⟩
abbrev bTop_init : ByteArray := prog_1_method_1_code
abbrev yTop_init : MethodName := ⟨"CallExplorer", "<init>", "(I)V"⟩
abbrev bCatalog_init : ByteArray := prog_3_method_1_code
abbrev yCatalog_init : MethodName := ⟨"CallExplorer$Catalog", "<init>", "()V"⟩
abbrev bBook_init : ByteArray := prog_2_method_1_code
abbrev yBook_init : MethodName := ⟨"CallExplorer$Book", "<init>", "(LCallExplorer$Catalog;)V"⟩
abbrev bRunner_init : ByteArray := prog_8_method_1_code
abbrev yRunner_init : MethodName := ⟨"CallExplorer$Runner", "<init>", "(LCallExplorer$Catalog;)V"⟩
abbrev bHeap_init : ByteArray := prog_6_method_1_code
abbrev yHeap_init : MethodName := ⟨"CallExplorer$Heap", "<init>", "(LCallExplorer$Catalog;)V"⟩
abbrev bGrower_init : ByteArray := prog_5_method_1_code
abbrev yGrower_init : MethodName := ⟨"CallExplorer$Grower", "<init>", "(LCallExplorer$Catalog;LCallExplorer$Book;LCallExplorer$Runner;I)V"⟩
abbrev bSequence_init : ByteArray := prog_9_method_1_code
abbrev ySequence_init : MethodName := ⟨"CallExplorer$Sequence", "<init>", "()V"⟩
abbrev bShortener_init : ByteArray := prog_10_method_1_code
abbrev yShortener_init : MethodName := ⟨"CallExplorer$Shortener", "<init>", "(LCallExplorer$Catalog;LCallExplorer$Runner;)V"⟩
abbrev bWriter_init : ByteArray := prog_11_method_1_code
abbrev yWriter_init : MethodName := ⟨"CallExplorer$Writer", "<init>", "()V"⟩
abbrev bReader_init : ByteArray := prog_7_method_1_code
abbrev yReader_init : MethodName := ⟨"CallExplorer$Reader", "<init>", "(LCallExplorer$Catalog;)V"⟩
abbrev bTop_type : ByteArray := prog_1_method_2_code
abbrev yTop_type : MethodName := ⟨"CallExplorer", "type", "(III)I"⟩
abbrev bCatalog_addClass : ByteArray := prog_3_method_2_code
abbrev yCatalog_addClass : MethodName := ⟨"CallExplorer$Catalog", "addClass", "(III)I"⟩
abbrev bCatalog_isClass : ByteArray := prog_3_method_4_code
abbrev yCatalog_isClass : MethodName := ⟨"CallExplorer$Catalog", "isClass", "(I)Z"⟩
abbrev bTop_operation : ByteArray := prog_1_method_3_code
abbrev yTop_operation : MethodName := ⟨"CallExplorer", "operation", "(III)I"⟩
abbrev bCatalog_addOperation : ByteArray := prog_3_method_3_code
abbrev yCatalog_addOperation : MethodName := ⟨"CallExplorer$Catalog", "addOperation", "(III)I"⟩
abbrev bCatalog_hasPartner : ByteArray := prog_3_method_5_code
abbrev yCatalog_hasPartner : MethodName := ⟨"CallExplorer$Catalog", "hasPartner", "(I)Z"⟩
abbrev bCatalog_typeOf : ByteArray := prog_3_method_6_code
abbrev yCatalog_typeOf : MethodName := ⟨"CallExplorer$Catalog", "typeOf", "(III)I"⟩
abbrev bTop_literal : ByteArray := prog_1_method_4_code
abbrev yTop_literal : MethodName := ⟨"CallExplorer", "literal", "(I)I"⟩
abbrev bGrower_addLiteral : ByteArray := prog_5_method_2_code
abbrev yGrower_addLiteral : MethodName := ⟨"CallExplorer$Grower", "addLiteral", "(I)I"⟩
abbrev bTop_step : ByteArray := prog_1_method_5_code
abbrev yTop_step : MethodName := ⟨"CallExplorer", "step", "()I"⟩
abbrev bGrower_grow : ByteArray := prog_5_method_4_code
abbrev yGrower_grow : MethodName := ⟨"CallExplorer$Grower", "grow", "()I"⟩
abbrev bBook_isFull : ByteArray := prog_2_method_2_code
abbrev yBook_isFull : MethodName := ⟨"CallExplorer$Book", "isFull", "()Z"⟩
abbrev bGrower_random : ByteArray := prog_5_method_3_code
abbrev yGrower_random : MethodName := ⟨"CallExplorer$Grower", "random", "(I)I"⟩
abbrev bSequence_clear : ByteArray := prog_9_method_7_code
abbrev ySequence_clear : MethodName := ⟨"CallExplorer$Sequence", "clear", "()V"⟩
abbrev bCatalog_argumentType : ByteArray := prog_3_method_7_code
abbrev yCatalog_argumentType : MethodName := ⟨"CallExplorer$Catalog", "argumentType", "(II)I"⟩
abbrev bGrower_chooseArgument : ByteArray := prog_5_method_5_code
abbrev yGrower_chooseArgument : MethodName := ⟨"CallExplorer$Grower", "chooseArgument", "(II)I"⟩
abbrev bGrower_choose : ByteArray := prog_5_method_6_code
abbrev yGrower_choose : MethodName := ⟨"CallExplorer$Grower", "choose", "(III)I"⟩
abbrev bGrower_chooseNumber : ByteArray := prog_5_method_7_code
abbrev yGrower_chooseNumber : MethodName := ⟨"CallExplorer$Grower", "chooseNumber", "(I)I"⟩
abbrev bBook_listFresh : ByteArray := prog_2_method_7_code
abbrev yBook_listFresh : MethodName := ⟨"CallExplorer$Book", "listFresh", "(I)I"⟩
abbrev bCatalog_is : ByteArray := prog_3_method_8_code
abbrev yCatalog_is : MethodName := ⟨"CallExplorer$Catalog", "is", "(II)Z"⟩
abbrev bGrower_take : ByteArray := prog_5_method_10_code
abbrev yGrower_take : MethodName := ⟨"CallExplorer$Grower", "take", "(II)I"⟩
abbrev bBook_get : ByteArray := prog_2_method_3_code
abbrev yBook_get : MethodName := ⟨"CallExplorer$Book", "get", "(I)LCallExplorer$Entry;"⟩
abbrev bSequence_append : ByteArray := prog_9_method_9_code
abbrev ySequence_append : MethodName := ⟨"CallExplorer$Sequence", "append", "(LCallExplorer$Sequence;)V"⟩
abbrev bSequence_moveVariables : ByteArray := prog_9_method_14_code
abbrev ySequence_moveVariables : MethodName := ⟨"CallExplorer$Sequence", "moveVariables", "(III)V"⟩
abbrev bSequence_isVariable : ByteArray := prog_9_method_6_code
abbrev ySequence_isVariable : MethodName := ⟨"CallExplorer$Sequence", "isVariable", "(II)Z"⟩
abbrev bSequence_content : ByteArray := prog_9_method_4_code
abbrev ySequence_content : MethodName := ⟨"CallExplorer$Sequence", "content", "(II)I"⟩
abbrev bSequence_setArgument : ByteArray := prog_9_method_5_code
abbrev ySequence_setArgument : MethodName := ⟨"CallExplorer$Sequence", "setArgument", "(IIII)V"⟩
abbrev bGrower_chooseObject : ByteArray := prog_5_method_8_code
abbrev yGrower_chooseObject : MethodName := ⟨"CallExplorer$Grower", "chooseObject", "(II)I"⟩
abbrev bGrower_firstFits : ByteArray := prog_5_method_9_code
abbrev yGrower_firstFits : MethodName := ⟨"CallExplorer$Grower", "firstFits", "(I)Z"⟩
abbrev bSequence_operationOf : ByteArray := prog_9_method_2_code
abbrev ySequence_operationOf : MethodName := ⟨"CallExplorer$Sequence", "operationOf", "(I)I"⟩
abbrev bGrower_pushChosen : ByteArray := prog_5_method_11_code
abbrev yGrower_pushChosen : MethodName := ⟨"CallExplorer$Grower", "pushChosen", "(I)V"⟩
abbrev bSequence_push : ByteArray := prog_9_method_8_code
abbrev ySequence_push : MethodName := ⟨"CallExplorer$Sequence", "push", "(I)I"⟩
abbrev bBook_holds : ByteArray := prog_2_method_6_code
abbrev yBook_holds : MethodName := ⟨"CallExplorer$Book", "holds", "(LCallExplorer$Sequence;)Z"⟩
abbrev bSequence_same : ByteArray := prog_9_method_11_code
abbrev ySequence_same : MethodName := ⟨"CallExplorer$Sequence", "same", "(LCallExplorer$Sequence;)Z"⟩
abbrev bRunner_run : ByteArray := prog_8_method_2_code
abbrev yRunner_run : MethodName := ⟨"CallExplorer$Runner", "run", "(LCallExplorer$Sequence;)V"⟩
abbrev bRunner_execute : ByteArray := prog_8_method_6_code
abbrev yRunner_execute : MethodName := ⟨"CallExplorer$Runner", "execute", "(LCallExplorer$Sequence;I)I"⟩
abbrev bRunner_isNull : ByteArray := prog_8_method_4_code
abbrev yRunner_isNull : MethodName := ⟨"CallExplorer$Runner", "isNull", "(LCallExplorer$Sequence;II)Z"⟩
abbrev bRunner_argumentValue : ByteArray := prog_8_method_5_code
abbrev yRunner_argumentValue : MethodName := ⟨"CallExplorer$Runner", "argumentValue", "(LCallExplorer$Sequence;II)I"⟩
abbrev bSequence_form : ByteArray := prog_9_method_3_code
abbrev ySequence_form : MethodName := ⟨"CallExplorer$Sequence", "form", "(II)I"⟩
abbrev bRunner_make : ByteArray := prog_8_method_8_code
abbrev yRunner_make : MethodName := ⟨"CallExplorer$Runner", "make", "(III)I"⟩
abbrev bRunner_canBeValue : ByteArray := prog_8_method_13_code
abbrev yRunner_canBeValue : MethodName := ⟨"CallExplorer$Runner", "canBeValue", "(J)Z"⟩
abbrev bHeap_make : ByteArray := prog_6_method_2_code
abbrev yHeap_make : MethodName := ⟨"CallExplorer$Heap", "make", "(III)I"⟩
abbrev bRunner_give : ByteArray := prog_8_method_7_code
abbrev yRunner_give : MethodName := ⟨"CallExplorer$Runner", "give", "(II)I"⟩
abbrev bRunner_add : ByteArray := prog_8_method_9_code
abbrev yRunner_add : MethodName := ⟨"CallExplorer$Runner", "add", "(III)I"⟩
abbrev bRunner_link : ByteArray := prog_8_method_10_code
abbrev yRunner_link : MethodName := ⟨"CallExplorer$Runner", "link", "(III)I"⟩
abbrev bHeap_reaches : ByteArray := prog_6_method_3_code
abbrev yHeap_reaches : MethodName := ⟨"CallExplorer$Heap", "reaches", "(II)Z"⟩
abbrev bRunner_getNext : ByteArray := prog_8_method_11_code
abbrev yRunner_getNext : MethodName := ⟨"CallExplorer$Runner", "getNext", "(III)I"⟩
abbrev bRunner_getNextValue : ByteArray := prog_8_method_12_code
abbrev yRunner_getNextValue : MethodName := ⟨"CallExplorer$Runner", "getNextValue", "(II)I"⟩
abbrev bHeap_chainLength : ByteArray := prog_6_method_4_code
abbrev yHeap_chainLength : MethodName := ⟨"CallExplorer$Heap", "chainLength", "(I)I"⟩
abbrev bHeap_equal : ByteArray := prog_6_method_5_code
abbrev yHeap_equal : MethodName := ⟨"CallExplorer$Heap", "equal", "(II)Z"⟩
abbrev bRunner_endWithTrouble : ByteArray := prog_8_method_3_code
abbrev yRunner_endWithTrouble : MethodName := ⟨"CallExplorer$Runner", "endWithTrouble", "(LCallExplorer$Sequence;II)V"⟩
abbrev bRunner_keepResult : ByteArray := prog_8_method_14_code
abbrev yRunner_keepResult : MethodName := ⟨"CallExplorer$Runner", "keepResult", "(LCallExplorer$Sequence;)V"⟩
abbrev bRunner_keepRow : ByteArray := prog_8_method_15_code
abbrev yRunner_keepRow : MethodName := ⟨"CallExplorer$Runner", "keepRow", "(I)V"⟩
abbrev bHeap_findFault : ByteArray := prog_6_method_7_code
abbrev yHeap_findFault : MethodName := ⟨"CallExplorer$Heap", "findFault", "()I"⟩
abbrev bHeap_faultOfPair : ByteArray := prog_6_method_8_code
abbrev yHeap_faultOfPair : MethodName := ⟨"CallExplorer$Heap", "faultOfPair", "(II)I"⟩
abbrev bHeap_code : ByteArray := prog_6_method_6_code
abbrev yHeap_code : MethodName := ⟨"CallExplorer$Heap", "code", "(I)I"⟩
abbrev bBook_add : ByteArray := prog_2_method_4_code
abbrev yBook_add : MethodName := ⟨"CallExplorer$Book", "add", "(LCallExplorer$Sequence;LCallExplorer$Runner;)I"⟩
abbrev bBook_knowsShape : ByteArray := prog_2_method_5_code
abbrev yBook_knowsShape : MethodName := ⟨"CallExplorer$Book", "knowsShape", "(LCallExplorer$Runner;)Z"⟩
abbrev bEntry_hasShapeOf : ByteArray := prog_4_method_2_code
abbrev yEntry_hasShapeOf : MethodName := ⟨"CallExplorer$Entry", "hasShapeOf", "(LCallExplorer$Runner;)Z"⟩
abbrev bEntry_init : ByteArray := prog_4_method_1_code
abbrev yEntry_init : MethodName := ⟨"CallExplorer$Entry", "<init>", "(LCallExplorer$Sequence;IILCallExplorer$Runner;)V"⟩
abbrev bSequence_copy : ByteArray := prog_9_method_10_code
abbrev ySequence_copy : MethodName := ⟨"CallExplorer$Sequence", "copy", "(LCallExplorer$Sequence;)V"⟩
abbrev bArrays_copyOf : ByteArray := prog_17_method_123_code
abbrev yArrays_copyOf : MethodName := ⟨"java/util/Arrays", "copyOf", "([II)[I"⟩
abbrev bMath_min : ByteArray := prog_15_method_69_code
abbrev yMath_min : MethodName := ⟨"java/lang/Math", "min", "(II)I"⟩
abbrev bTop_seek : ByteArray := prog_1_method_6_code
abbrev yTop_seek : MethodName := ⟨"CallExplorer", "seek", "(I)I"⟩
abbrev bTop_shorten : ByteArray := prog_1_method_7_code
abbrev yTop_shorten : MethodName := ⟨"CallExplorer", "shorten", "(I)I"⟩
abbrev bShortener_lowerVariables : ByteArray := prog_10_method_2_code
abbrev yShortener_lowerVariables : MethodName := ⟨"CallExplorer$Shortener", "lowerVariables", "(LCallExplorer$Entry;)V"⟩
abbrev bShortener_lowerInTrial : ByteArray := prog_10_method_3_code
abbrev yShortener_lowerInTrial : MethodName := ⟨"CallExplorer$Shortener", "lowerInTrial", "(LCallExplorer$Sequence;II)Z"⟩
abbrev bShortener_keepIfSame : ByteArray := prog_10_method_6_code
abbrev yShortener_keepIfSame : MethodName := ⟨"CallExplorer$Shortener", "keepIfSame", "(LCallExplorer$Entry;)V"⟩
abbrev bShortener_dropStatements : ByteArray := prog_10_method_4_code
abbrev yShortener_dropStatements : MethodName := ⟨"CallExplorer$Shortener", "dropStatements", "(LCallExplorer$Entry;)V"⟩
abbrev bSequence_usesLater : ByteArray := prog_9_method_12_code
abbrev ySequence_usesLater : MethodName := ⟨"CallExplorer$Sequence", "usesLater", "(I)Z"⟩
abbrev bSequence_remove : ByteArray := prog_9_method_13_code
abbrev ySequence_remove : MethodName := ⟨"CallExplorer$Sequence", "remove", "(I)V"⟩
abbrev bShortener_zeroLiterals : ByteArray := prog_10_method_5_code
abbrev yShortener_zeroLiterals : MethodName := ⟨"CallExplorer$Shortener", "zeroLiterals", "(LCallExplorer$Entry;)V"⟩
abbrev bTop_entries : ByteArray := prog_1_method_8_code
abbrev yTop_entries : MethodName := ⟨"CallExplorer", "entries", "()I"⟩
abbrev bTop_entry : ByteArray := prog_1_method_9_code
abbrev yTop_entry : MethodName := ⟨"CallExplorer", "entry", "(II)I"⟩
abbrev bTop_statement : ByteArray := prog_1_method_10_code
abbrev yTop_statement : MethodName := ⟨"CallExplorer", "statement", "(III)I"⟩
abbrev bTop_text : ByteArray := prog_1_method_11_code
abbrev yTop_text : MethodName := ⟨"CallExplorer", "text", "(II)I"⟩
abbrev bWriter_write : ByteArray := prog_11_method_2_code
abbrev yWriter_write : MethodName := ⟨"CallExplorer$Writer", "write", "(LCallExplorer$Entry;)V"⟩
abbrev bWriter_writeCall : ByteArray := prog_11_method_4_code
abbrev yWriter_writeCall : MethodName := ⟨"CallExplorer$Writer", "writeCall", "(LCallExplorer$Sequence;I)V"⟩
abbrev bWriter_put : ByteArray := prog_11_method_3_code
abbrev yWriter_put : MethodName := ⟨"CallExplorer$Writer", "put", "(C)V"⟩
abbrev bWriter_writeArgument : ByteArray := prog_11_method_5_code
abbrev yWriter_writeArgument : MethodName := ⟨"CallExplorer$Writer", "writeArgument", "(II)V"⟩
abbrev bWriter_writeNumber : ByteArray := prog_11_method_8_code
abbrev yWriter_writeNumber : MethodName := ⟨"CallExplorer$Writer", "writeNumber", "(I)V"⟩
abbrev bWriter_writeEnd : ByteArray := prog_11_method_6_code
abbrev yWriter_writeEnd : MethodName := ⟨"CallExplorer$Writer", "writeEnd", "(LCallExplorer$Entry;)V"⟩
abbrev bWriter_writeResult : ByteArray := prog_11_method_7_code
abbrev yWriter_writeResult : MethodName := ⟨"CallExplorer$Writer", "writeResult", "(LCallExplorer$Entry;)V"⟩
abbrev bTop_draft : ByteArray := prog_1_method_12_code
abbrev yTop_draft : MethodName := ⟨"CallExplorer", "draft", "(J)Z"⟩
abbrev bReader_addToDraft : ByteArray := prog_7_method_2_code
abbrev yReader_addToDraft : MethodName := ⟨"CallExplorer$Reader", "addToDraft", "(J)Z"⟩
abbrev bReader_countBytes : ByteArray := prog_7_method_3_code
abbrev yReader_countBytes : MethodName := ⟨"CallExplorer$Reader", "countBytes", "(J)I"⟩
abbrev bReader_byteOf : ByteArray := prog_7_method_4_code
abbrev yReader_byteOf : MethodName := ⟨"CallExplorer$Reader", "byteOf", "(JI)I"⟩
abbrev bTop_replay : ByteArray := prog_1_method_13_code
abbrev yTop_replay : MethodName := ⟨"CallExplorer", "replay", "()I"⟩
abbrev bReader_read : ByteArray := prog_7_method_5_code
abbrev yReader_read : MethodName := ⟨"CallExplorer$Reader", "read", "()Z"⟩
abbrev bReader_isAtEnd : ByteArray := prog_7_method_9_code
abbrev yReader_isAtEnd : MethodName := ⟨"CallExplorer$Reader", "isAtEnd", "()Z"⟩
abbrev bReader_peek : ByteArray := prog_7_method_7_code
abbrev yReader_peek : MethodName := ⟨"CallExplorer$Reader", "peek", "()C"⟩
abbrev bReader_readCall : ByteArray := prog_7_method_11_code
abbrev yReader_readCall : MethodName := ⟨"CallExplorer$Reader", "readCall", "()Z"⟩
abbrev bReader_accept : ByteArray := prog_7_method_8_code
abbrev yReader_accept : MethodName := ⟨"CallExplorer$Reader", "accept", "(C)Z"⟩
abbrev bReader_readArgument : ByteArray := prog_7_method_12_code
abbrev yReader_readArgument : MethodName := ⟨"CallExplorer$Reader", "readArgument", "(II)Z"⟩
abbrev bReader_readVariable : ByteArray := prog_7_method_13_code
abbrev yReader_readVariable : MethodName := ⟨"CallExplorer$Reader", "readVariable", "(III)Z"⟩
abbrev bReader_isAtDigit : ByteArray := prog_7_method_10_code
abbrev yReader_isAtDigit : MethodName := ⟨"CallExplorer$Reader", "isAtDigit", "()Z"⟩
abbrev bReader_readNumber : ByteArray := prog_7_method_14_code
abbrev yReader_readNumber : MethodName := ⟨"CallExplorer$Reader", "readNumber", "()Z"⟩
abbrev bReader_readEnd : ByteArray := prog_7_method_15_code
abbrev yReader_readEnd : MethodName := ⟨"CallExplorer$Reader", "readEnd", "()Z"⟩
abbrev bReader_readDetail : ByteArray := prog_7_method_16_code
abbrev yReader_readDetail : MethodName := ⟨"CallExplorer$Reader", "readDetail", "(I)Z"⟩
abbrev bReader_readResult : ByteArray := prog_7_method_17_code
abbrev yReader_readResult : MethodName := ⟨"CallExplorer$Reader", "readResult", "()Z"⟩
abbrev bReader_foretold : ByteArray := prog_7_method_6_code
abbrev yReader_foretold : MethodName := ⟨"CallExplorer$Reader", "foretold", "(LCallExplorer$Runner;)Z"⟩
abbrev bTop_state : ByteArray := prog_1_method_14_code
abbrev yTop_state : MethodName := ⟨"CallExplorer", "state", "()I"⟩
abbrev bMod_init : ByteArray := prog_13_method_1_code
abbrev yMod_init : MethodName := ⟨"CallExplorerModel", "<init>", "(I)V"⟩
abbrev bMod_type : ByteArray := prog_13_method_2_code
abbrev yMod_type : MethodName := ⟨"CallExplorerModel", "type", "(III)I"⟩
abbrev bMod_operation : ByteArray := prog_13_method_5_code
abbrev yMod_operation : MethodName := ⟨"CallExplorerModel", "operation", "(III)I"⟩
abbrev bMod_isClass : ByteArray := prog_13_method_3_code
abbrev yMod_isClass : MethodName := ⟨"CallExplorerModel", "isClass", "(I)Z"⟩
abbrev bMod_hasD : ByteArray := prog_13_method_4_code
abbrev yMod_hasD : MethodName := ⟨"CallExplorerModel", "hasD", "(I)Z"⟩
abbrev bMod_literal : ByteArray := prog_13_method_6_code
abbrev yMod_literal : MethodName := ⟨"CallExplorerModel", "literal", "(I)I"⟩
abbrev bMod_step : ByteArray := prog_13_method_37_code
abbrev yMod_step : MethodName := ⟨"CallExplorerModel", "step", "()I"⟩
abbrev bMod_random : ByteArray := prog_13_method_30_code
abbrev yMod_random : MethodName := ⟨"CallExplorerModel", "random", "(I)I"⟩
abbrev bMod_arity : ByteArray := prog_13_method_8_code
abbrev yMod_arity : MethodName := ⟨"CallExplorerModel", "arity", "(I)I"⟩
abbrev bMod_wants : ByteArray := prog_13_method_9_code
abbrev yMod_wants : MethodName := ⟨"CallExplorerModel", "wants", "(II)I"⟩
abbrev bMod_chosen : ByteArray := prog_13_method_35_code
abbrev yMod_chosen : MethodName := ⟨"CallExplorerModel", "chosen", "(II)I"⟩
abbrev bMod_offered : ByteArray := prog_13_method_32_code
abbrev yMod_offered : MethodName := ⟨"CallExplorerModel", "offered", "(I)I"⟩
abbrev bMod_offers : ByteArray := prog_13_method_31_code
abbrev yMod_offers : MethodName := ⟨"CallExplorerModel", "offers", "(II)Z"⟩
abbrev bMod_typeOf : ByteArray := prog_13_method_26_code
abbrev yMod_typeOf : MethodName := ⟨"CallExplorerModel", "typeOf", "(I)I"⟩
abbrev bMod_gives : ByteArray := prog_13_method_10_code
abbrev yMod_gives : MethodName := ⟨"CallExplorerModel", "gives", "(I)I"⟩
abbrev bMod_is : ByteArray := prog_13_method_7_code
abbrev yMod_is : MethodName := ⟨"CallExplorerModel", "is", "(II)Z"⟩
abbrev bMod_take : ByteArray := prog_13_method_33_code
abbrev yMod_take : MethodName := ⟨"CallExplorerModel", "take", "(III)V"⟩
abbrev bMod_copyFrom : ByteArray := prog_13_method_23_code
abbrev yMod_copyFrom : MethodName := ⟨"CallExplorerModel", "copyFrom", "(II)V"⟩
abbrev bMod_choose : ByteArray := prog_13_method_34_code
abbrev yMod_choose : MethodName := ⟨"CallExplorerModel", "choose", "(III)V"⟩
abbrev bMod_put : ByteArray := prog_13_method_36_code
abbrev yMod_put : MethodName := ⟨"CallExplorerModel", "put", "(I)V"⟩
abbrev bMod_known : ByteArray := prog_13_method_28_code
abbrev yMod_known : MethodName := ⟨"CallExplorerModel", "known", "()Z"⟩
abbrev bMod_alike : ByteArray := prog_13_method_29_code
abbrev yMod_alike : MethodName := ⟨"CallExplorerModel", "alike", "(II)Z"⟩
abbrev bMod_entered : ByteArray := prog_13_method_38_code
abbrev yMod_entered : MethodName := ⟨"CallExplorerModel", "entered", "()I"⟩
abbrev bMod_store : ByteArray := prog_13_method_25_code
abbrev yMod_store : MethodName := ⟨"CallExplorerModel", "store", "(I)V"⟩
abbrev bMod_run : ByteArray := prog_13_method_21_code
abbrev yMod_run : MethodName := ⟨"CallExplorerModel", "run", "()V"⟩
abbrev bMod_perform : ByteArray := prog_13_method_14_code
abbrev yMod_perform : MethodName := ⟨"CallExplorerModel", "perform", "(I)I"⟩
abbrev bMod_valueOf : ByteArray := prog_13_method_12_code
abbrev yMod_valueOf : MethodName := ⟨"CallExplorerModel", "valueOf", "(II)I"⟩
abbrev bMod_fits : ByteArray := prog_13_method_13_code
abbrev yMod_fits : MethodName := ⟨"CallExplorerModel", "fits", "(J)Z"⟩
abbrev bMod_made : ByteArray := prog_13_method_11_code
abbrev yMod_made : MethodName := ⟨"CallExplorerModel", "made", "(III)I"⟩
abbrev bMod_reaches : ByteArray := prog_13_method_15_code
abbrev yMod_reaches : MethodName := ⟨"CallExplorerModel", "reaches", "(II)Z"⟩
abbrev bMod_count : ByteArray := prog_13_method_16_code
abbrev yMod_count : MethodName := ⟨"CallExplorerModel", "count", "(I)I"⟩
abbrev bMod_equal : ByteArray := prog_13_method_17_code
abbrev yMod_equal : MethodName := ⟨"CallExplorerModel", "equal", "(II)Z"⟩
abbrev bMod_hadNull : ByteArray := prog_13_method_20_code
abbrev yMod_hadNull : MethodName := ⟨"CallExplorerModel", "hadNull", "(I)Z"⟩
abbrev bMod_unsound : ByteArray := prog_13_method_19_code
abbrev yMod_unsound : MethodName := ⟨"CallExplorerModel", "unsound", "()I"⟩
abbrev bMod_codeOf : ByteArray := prog_13_method_18_code
abbrev yMod_codeOf : MethodName := ⟨"CallExplorerModel", "codeOf", "(I)I"⟩
abbrev bMod_form : ByteArray := prog_13_method_22_code
abbrev yMod_form : MethodName := ⟨"CallExplorerModel", "form", "()V"⟩
abbrev bMod_seen : ByteArray := prog_13_method_27_code
abbrev yMod_seen : MethodName := ⟨"CallExplorerModel", "seen", "()Z"⟩
abbrev bMod_load : ByteArray := prog_13_method_24_code
abbrev yMod_load : MethodName := ⟨"CallExplorerModel", "load", "(I)V"⟩
abbrev bMod_seek : ByteArray := prog_13_method_39_code
abbrev yMod_seek : MethodName := ⟨"CallExplorerModel", "seek", "(I)I"⟩
abbrev bMod_shorten : ByteArray := prog_13_method_44_code
abbrev yMod_shorten : MethodName := ⟨"CallExplorerModel", "shorten", "(I)I"⟩
abbrev bMod_simpler : ByteArray := prog_13_method_43_code
abbrev yMod_simpler : MethodName := ⟨"CallExplorerModel", "simpler", "(II)V"⟩
abbrev bMod_settle : ByteArray := prog_13_method_42_code
abbrev yMod_settle : MethodName := ⟨"CallExplorerModel", "settle", "(I)V"⟩
abbrev bMod_used : ByteArray := prog_13_method_40_code
abbrev yMod_used : MethodName := ⟨"CallExplorerModel", "used", "(I)Z"⟩
abbrev bMod_without : ByteArray := prog_13_method_41_code
abbrev yMod_without : MethodName := ⟨"CallExplorerModel", "without", "(I)V"⟩
abbrev bMod_entries : ByteArray := prog_13_method_45_code
abbrev yMod_entries : MethodName := ⟨"CallExplorerModel", "entries", "()I"⟩
abbrev bMod_entry : ByteArray := prog_13_method_46_code
abbrev yMod_entry : MethodName := ⟨"CallExplorerModel", "entry", "(II)I"⟩
abbrev bMod_statement : ByteArray := prog_13_method_47_code
abbrev yMod_statement : MethodName := ⟨"CallExplorerModel", "statement", "(III)I"⟩
abbrev bMod_text : ByteArray := prog_13_method_51_code
abbrev yMod_text : MethodName := ⟨"CallExplorerModel", "text", "(II)I"⟩
abbrev bMod_writeAll : ByteArray := prog_13_method_50_code
abbrev yMod_writeAll : MethodName := ⟨"CallExplorerModel", "writeAll", "(I)V"⟩
abbrev bMod_write : ByteArray := prog_13_method_48_code
abbrev yMod_write : MethodName := ⟨"CallExplorerModel", "write", "(I)V"⟩
abbrev bMod_writeNumber : ByteArray := prog_13_method_49_code
abbrev yMod_writeNumber : MethodName := ⟨"CallExplorerModel", "writeNumber", "(I)V"⟩
abbrev bMod_draft : ByteArray := prog_13_method_52_code
abbrev yMod_draft : MethodName := ⟨"CallExplorerModel", "draft", "(J)Z"⟩
abbrev bMod_replay : ByteArray := prog_13_method_60_code
abbrev yMod_replay : MethodName := ⟨"CallExplorerModel", "replay", "()I"⟩
abbrev bMod_peek : ByteArray := prog_13_method_53_code
abbrev yMod_peek : MethodName := ⟨"CallExplorerModel", "peek", "()I"⟩
abbrev bMod_readStatement : ByteArray := prog_13_method_58_code
abbrev yMod_readStatement : MethodName := ⟨"CallExplorerModel", "readStatement", "()V"⟩
abbrev bMod_expect : ByteArray := prog_13_method_54_code
abbrev yMod_expect : MethodName := ⟨"CallExplorerModel", "expect", "(I)V"⟩
abbrev bMod_readArgument : ByteArray := prog_13_method_57_code
abbrev yMod_readArgument : MethodName := ⟨"CallExplorerModel", "readArgument", "(II)V"⟩
abbrev bMod_number : ByteArray := prog_13_method_56_code
abbrev yMod_number : MethodName := ⟨"CallExplorerModel", "number", "(Z)I"⟩
abbrev bMod_digit : ByteArray := prog_13_method_55_code
abbrev yMod_digit : MethodName := ⟨"CallExplorerModel", "digit", "(I)Z"⟩
abbrev bMod_rightEnd : ByteArray := prog_13_method_59_code
abbrev yMod_rightEnd : MethodName := ⟨"CallExplorerModel", "rightEnd", "()Z"⟩
abbrev bMod_state : ByteArray := prog_13_method_61_code
abbrev yMod_state : MethodName := ⟨"CallExplorerModel", "state", "()I"⟩
end
section
/-! the worlds of this proof: objects by numbers, their ints in one memory (zM: number of the object, slot), their shape a function (zSh); rows over them -/
abbrev zM : Type := Nat → Nat → Int32
abbrev zSh : Type := Nat → (Nat → Int32) → va_E
def zu (h : zM) (o k : Nat) (v : Int32) : zM := va_up h o (upd (h o) k v)
def zW (N : Nat) (ad : Nat → Nat) (F : zSh) (h : zM) : va_W := (List.range N).map (fun o => (ad o, F o (h o)))
theorem zW_len {N : Nat} {ad : Nat → Nat} {F : zSh} {h : zM} : (zW N ad F h).length = N := by simp [zW]
theorem zW_at {N : Nat} {ad : Nat → Nat} {F : zSh} {h : zM} {o : Nat} (ho : o < N) : (zW N ad F h)[o]? = some (ad o, F o (h o)) := by
  unfold zW
  rw [List.getElem?_map, List.getElem?_range ho]
  rfl
theorem zW_up {N : Nat} {ad : Nat → Nat} {F : zSh} {h : zM} {o : Nat} (ho : o < N) (g : Nat → Int32) : (zW N ad F h).set o (ad o, F o g) = zW N ad F (va_up h o g) := by
  apply List.ext_getElem?
  intro k
  by_cases hk : k = o
  · subst hk
    rw [List.getElem?_set_self (by rw [zW_len]; exact ho), zW_at ho]
    simp [va_up]
  · rw [List.getElem?_set_ne (Ne.symm hk)]
    by_cases hl : k < N
    · rw [zW_at hl, zW_at hl]
      simp [va_up, hk]
    · rw [List.getElem?_eq_none (by rw [zW_len]; omega), List.getElem?_eq_none (by rw [zW_len]; omega)]
def zJ (A : Nat → Prop) (N : Nat) (ad : Nat → Nat) : Prop := (∀ o o' : Nat, o < N → o' < N → ad o = ad o' → o = o') ∧ ∀ o : Nat, o < N → A (ad o)
theorem zW_in {N : Nat} {ad : Nat → Nat} {F : zSh} {h : zM} {i : Nat} {q : Nat × va_E} (hi : (zW N ad F h)[i]? = some q) : i < N ∧ q = (ad i, F i (h i)) := by
  have hl : i < N := by have := (List.getElem?_eq_some_iff.mp hi).1; rwa [zW_len] at this
  rw [zW_at hl] at hi
  exact ⟨hl, (Option.some.inj hi).symm⟩
theorem zD {A : Nat → Prop} {N : Nat} {ad : Nat → Nat} {F : zSh} {h : zM} (hJ : zJ A N ad) : va_D A (zW N ad F h) := by
  refine ⟨fun i j x y hi hj hxy => ?_, fun k q hk => ?_⟩
  · obtain ⟨h1, rfl⟩ := zW_in hi
    obtain ⟨h2, rfl⟩ := zW_in hj
    exact hJ.1 i j h1 h2 hxy
  · obtain ⟨h1, rfl⟩ := zW_in hk
    exact hJ.2 k h1
/-! the class's tables of roles and tens, and the words on nest mates: facts of the state -/
def zt1 : Nat → Int32 := fun j => ([0, 2, 1, 1, 1, 1, 1, 1, 1, 1] : List Int32).getD j 0
def zt2 : Nat → Int32 := fun j => ([-1, -1, -1, 0, 2, -1, 0, -1, -1, 2] : List Int32).getD j 0
def zt3 : Nat → Int32 := fun j => ([1, 1, 0, 1, 1, 2, 0, 0, 0, 0] : List Int32).getD j 0
def zt4 : Nat → Int32 := fun j => ([1000000000, 100000000, 10000000, 1000000, 100000, 10000, 1000, 100, 10, 1] : List Int32).getD j 0
def zTb (nm : String) (f : Nat → Int32) (A : Nat → Prop) (U : State) (H : Heap) : Prop := ∃ t : Nat, va_Z "CallExplorer" nm "[I" (.ref t) A U H ∧ va_T .int t 10 (fun j => .int (f j)) A U H
theorem zTb.moved {nm : String} {f : Nat → Int32} {A : Nat → Prop} {u U : State} {H : Heap} (hvm : u.vm.Alike U.vm) (h : zTb nm f A u H) : zTb nm f A U H := by
  obtain ⟨t, h1, h2⟩ := h
  exact ⟨t, h1.moved hvm, h2.moved hvm⟩
theorem zTb.kept {nm : String} {f : Nat → Int32} {A : Nat → Prop} {U : State} {H H1 : Heap} (h : zTb nm f A U H) (hq : ∀ a : Nat, a < H.size → ¬ A a → H1[a]? = H[a]?) : zTb nm f A U H1 := by
  obtain ⟨t, h1, h2⟩ := h
  exact ⟨t, h1.kept hq, h2.kept hq⟩
theorem zTb.narrow {nm : String} {f : Nat → Int32} {A B : Nat → Prop} {U : State} {H : Heap} (h : zTb nm f A U H) (hAB : ∀ q, B q → A q) : zTb nm f B U H := by
  obtain ⟨t, h1, h2⟩ := h
  exact ⟨t, h1.narrow hAB, h2.narrow hAB⟩
def zTab (A : Nat → Prop) (U : State) (H : Heap) : Prop := zTb "FIRST_ROLES" zt1 A U H ∧ zTb "SECOND_ROLES" zt2 A U H ∧ zTb "RESULT_ROLES" zt3 A U H ∧ zTb "TENS" zt4 A U H
theorem zTab.moved {A : Nat → Prop} {u U : State} {H : Heap} (hvm : u.vm.Alike U.vm) (h : zTab A u H) : zTab A U H := ⟨h.1.moved hvm, h.2.1.moved hvm, h.2.2.1.moved hvm, h.2.2.2.moved hvm⟩
theorem zTab.kept {A : Nat → Prop} {U : State} {H H1 : Heap} (h : zTab A U H) (hq : ∀ a : Nat, a < H.size → ¬ A a → H1[a]? = H[a]?) : zTab A U H1 := ⟨h.1.kept hq, h.2.1.kept hq, h.2.2.1.kept hq, h.2.2.2.kept hq⟩
theorem zTab.narrow {A B : Nat → Prop} {U : State} {H : Heap} (h : zTab A U H) (hAB : ∀ q, B q → A q) : zTab B U H := ⟨h.1.narrow hAB, h.2.1.narrow hAB, h.2.2.1.narrow hAB, h.2.2.2.narrow hAB⟩
def znF : List (String × Nat × String × String × String × String) := [("CallExplorer$Catalog", 47, "CallExplorer", "FIRST_ROLES", "[I", "CallExplorer"), ("CallExplorer$Catalog", 54, "CallExplorer", "SECOND_ROLES", "[I", "CallExplorer"), ("CallExplorer$Catalog", 57, "CallExplorer", "RESULT_ROLES", "[I", "CallExplorer"), ("CallExplorer$Writer", 76, "CallExplorer", "TENS", "[I", "CallExplorer")]
def znM : List (String × Nat × MethodName × String) := [("CallExplorer", 9, ⟨"CallExplorer$Catalog", "<init>", "()V"⟩, "CallExplorer"), ("CallExplorer$Grower", 11, ⟨"CallExplorer$Sequence", "<init>", "()V"⟩, "CallExplorer"), ("CallExplorer$Shortener", 11, ⟨"CallExplorer$Sequence", "<init>", "()V"⟩, "CallExplorer"), ("CallExplorer", 52, ⟨"CallExplorer$Writer", "<init>", "()V"⟩, "CallExplorer"), ("CallExplorer$Reader", 17, ⟨"CallExplorer$Sequence", "<init>", "()V"⟩, "CallExplorer"), ("CallExplorer$Entry", 9, ⟨"CallExplorer$Sequence", "<init>", "()V"⟩, "CallExplorer")]
def zNe (U : State) : Prop := (∀ q ∈ znF, va_Nw (.fieldLinkNest q.1 q.2.1 q.2.2.1 q.2.2.2.1 q.2.2.2.2.1 q.2.2.2.2.2) U) ∧ ∀ q ∈ znM, va_Nw (.methodLinkNest q.1 q.2.1 q.2.2.1 q.2.2.2) U
theorem zNe.warm {s U : State} (hW : s.WarmedH U.vm) (h : zNe s) : zNe U := ⟨fun q hq => (h.1 q hq).warmF hW, fun q hq => (h.2 q hq).warmM hW⟩
theorem zNe.same {s U : State} (hv : s.vm = U.vm) (h : zNe s) : zNe U := ⟨fun q hq => (h.1 q hq).same rfl hv, fun q hq => (h.2 q hq).same rfl hv⟩
def zPre (D : va_G) (tys : List (ClassId × FieldType)) (N : Nat) (ad : Nat → Nat) (F : zSh) (A : Nat → Prop) (h : zM) (U : State) : Prop := va_P D zcl (zW N ad F h) U.heap ∧ va_K D zcl tys U ∧ zTab A U U.heap ∧ zNe U
def zPst (D : va_G) (tys : List (ClassId × FieldType)) (N : Nat) (ad : Nat → Nat) (F : zSh) (h : zM) (t : State) : Prop := va_P D zcl (zW N ad F h) t.heap ∧ va_K D zcl tys t
abbrev zS (p : Program) (m : MethodId) (c : Code) (cc : ByteArray) (nL : Nat) (s : State) (args : Array Value) (own : String) : Prop := CallFix p m c cc nL s args zt own
/-- a loop: as often as n says -/
def zl {σ : Type} (S : (σ → Prop) → σ → Prop) : Nat → σ → Prop
  | 0 => fun _ => False
  | n + 1 => fun x => S (zl S n) x
def zL {σ : Type} (S : (σ → Prop) → σ → Prop) (x : σ) : Prop := ∃ n, zl S n x
theorem zl_0 {σ : Type} {S : (σ → Prop) → σ → Prop} {x : σ} (h : zl S 0 x) : False := h
theorem zl_s {σ : Type} {S : (σ → Prop) → σ → Prop} {n : Nat} {x : σ} (h : zl S (n + 1) x) : S (zl S n) x := h
theorem zL_rule {σ : Type} {S : (σ → Prop) → σ → Prop} (I : σ → Prop) (μ : σ → Nat) (hs : ∀ (x : σ) (L : σ → Prop), I x → (∀ y, I y → μ y < μ x → L y) → S L x) (x : σ) (hx : I x) : zL S x := by
  have key : ∀ n x, μ x < n → I x → zl S n x := by
    intro n
    induction n with
    | zero => intro x h; exact absurd h (Nat.not_lt_zero _)
    | succ n ih => intro x h hI; exact hs x _ hI (fun y hy hm => ih y (by omega) hy)
  exact ⟨μ x + 1, key _ x (Nat.lt_succ_self _) hx⟩
def zCal (own : String) (index : Nat) (y : MethodName) (C : String) (b : ByteArray) (mL : Nat) (ret : Option FieldType) (n : Nat) : Prop :=
  Cond.code y b mL ret ∈ zt ∧ Cond.methodLink own index y ∈ zt ∧ Cond.instanceMethod y ∈ zt ∧ Cond.selects C y y ∈ zt ∧ Cond.initialized C ∈ zt ∧ (y.cls = C ∧ y.cls ≠ "java/lang/invoke/MethodHandle" ∧ y.cls ≠ "java/lang/invoke/VarHandle" ∧ (parseMethodDescriptor y.desc).map (fun d => d.parameters.length) = some n)
def zCas (own : String) (index : Nat) (y : MethodName) (b : ByteArray) (mL : Nat) (ret : Option FieldType) (n : Nat) : Prop :=
  Cond.code y b mL ret ∈ zt ∧ Cond.methodLink own index y ∈ zt ∧ Cond.static y ∈ zt ∧ Cond.initialized own ∈ zt ∧ (y.cls = own ∧ y.cls ≠ "java/lang/invoke/MethodHandle" ∧ y.cls ≠ "java/lang/invoke/VarHandle" ∧ (parseMethodDescriptor y.desc).map (fun d => d.parameters.length) = some n)
section ZR
variable {p : Program} {l : Launch} {e : Env} {R : Room} {s : State} {m : MethodId} {args : Array Value} {below : List Frame} {meth : Method} {c : Code} {H : Heap} {locs : List Loc} {cells slots : Nat} {Q : State → Prop}
variable {cc : ByteArray} {pc nL : Nat} {ls : Array Slot} {rest : List Value} {D : va_G} {A : Nat → Prop} {tys : List (ClassId × FieldType)} {H0 : Heap} {own : String} {N : Nat} {ad : Nat → Nat} {F : zSh} {h : zM}
theorem zr_get (S : zS p m c cc nL s args own) (hK : va_K D zcl tys s) (hP : va_P D zcl (zW N ad F h) H) {o ci k index : Nat} {C nm ds : String} {fin : Bool} {ty : FieldType} {fs : List Value} {v : Value} (ho : o < N) (hF : F o (h o) = .inr (ci, fs)) (hf : zFld ci k C nm ds fin ty) (hlink : Cond.fieldLink own index C nm ds ∈ zt) (hv : fs[k]? = some v) (hdg : decode cc pc = .ok (.getfield index, 3))
    (kk : W p l e R s m args below meth c H locs cells slots Q (F0 m (pc + 3) ls (v :: rest))) : W p l e R s m args below meth c H locs cells slots Q (F0 m pc ls (.ref (ad o) :: rest)) := by
  obtain ⟨T, N0, ty0, hc, hin, hty, hnm, hk, hT, hd⟩ := hf
  exact va_get (T := T) (N := N0) (ref := C) S.1 S.2.1 S.2.2.2.2 hin S.2.2.2.1 hK hP o (by rw [zW_at ho, hF]) hc k hk (by rw [hT]; exact S.2.2.2.2 _ hlink) (fun x hx => by rw [hT] at hx ⊢; exact hx) hv hdg kk
theorem zr_put (S : zS p m c cc nL s args own) (hK : va_K D zcl tys s) (hJ : zJ A N ad) (hP : va_P D zcl (zW N ad F h) H) (hS : va_S A H0 H locs) {o ci k index : Nat} {C nm ds : String} {ty : FieldType} {fs : List Value} {v : Int32} (ho : o < N) (hF : F o (h o) = .inr (ci, fs)) (hf : zFld ci k C nm ds false ty) (hlink : Cond.fieldLink own index C nm ds ∈ zt) (hn : narrow ty (.int v) = .int v) (hfit : fits ty (.int v) = true) (hl : k < fs.length) (hF2 : F o (upd (h o) k v) = .inr (ci, fs.set k (.int v))) (hdg : decode cc pc = .ok (.putfield index, 3))
    (kk : ∀ (h1 : zM) (H1 : Heap) (locs1 : List Loc), h1 = zu h o k v → va_P D zcl (zW N ad F h1) H1 → va_S A H0 H1 locs1 → W p l e R s m args below meth c H1 locs1 cells slots Q (F0 m (pc + 3) ls rest)) : W p l e R s m args below meth c H locs cells slots Q (F0 m pc ls (.int v :: .ref (ad o) :: rest)) := by
  obtain ⟨T, N0, ty0, hc, hin, hty, hnm, hk, hT, hd⟩ := hf
  refine va_put (T := T) (N := N0) (ref := C) (ty := ty) S.1 S.2.1 S.2.2.2.2 hin ty0 hty hnm S.2.2.2.1 hK hP (zD hJ) hS o (by rw [zW_at ho, hF]) hc k hk (by rw [hT]; exact S.2.2.2.2 _ hlink) (fun x hx => by rw [hT] at hx ⊢; exact hx) (by rw [hT]) (by rw [hT]; exact hd) hn hfit hl hdg (fun H1 locs1 hP1 _ hS1 => kk _ H1 locs1 rfl ?_ hS1)
  rw [← hF2, zW_up ho] at hP1
  exact hP1
theorem zr_ald (S : zS p m c cc nL s args own) (hK : va_K D zcl tys s) (hP : va_P D zcl (zW N ad F h) H) {o n : Nat} {cA : ClassId} (ho : o < N) (hF : F o (h o) = .inl (cA, n, .inl (h o))) (t0 : Nat) (ht : tys[t0]? = some (cA, .int)) {i : Int32} (hin : vp_in i n) (hdg : decode cc pc = .ok (.iaload, 1))
    (kk : W p l e R s m args below meth c H locs cells slots Q (F0 m (pc + 1) ls (.int (h o i.toNatClampNeg) :: rest))) : W p l e R s m args below meth c H locs cells slots Q (F0 m pc ls (.int i :: .ref (ad o) :: rest)) :=
  va_iald S.1 S.2.1 hK hP o t0 (by rw [zW_at ho, hF]) ht hin hdg kk
theorem zr_cld (S : zS p m c cc nL s args own) (hK : va_K D zcl tys s) (hP : va_P D zcl (zW N ad F h) H) {o n : Nat} {cA : ClassId} (ho : o < N) (hF : F o (h o) = .inl (cA, n, .inl (h o))) (t0 : Nat) (ht : tys[t0]? = some (cA, .char)) {i : Int32} (hin : vp_in i n) (hdg : decode cc pc = .ok (.caload, 1))
    (kk : W p l e R s m args below meth c H locs cells slots Q (F0 m (pc + 1) ls (.int (h o i.toNatClampNeg) :: rest))) : W p l e R s m args below meth c H locs cells slots Q (F0 m pc ls (.int i :: .ref (ad o) :: rest)) :=
  va_cald S.1 S.2.1 hK hP o t0 (by rw [zW_at ho, hF]) ht hin hdg kk
theorem zr_ast (S : zS p m c cc nL s args own) (hK : va_K D zcl tys s) (hJ : zJ A N ad) (hP : va_P D zcl (zW N ad F h) H) (hS : va_S A H0 H locs) {o n : Nat} {cA : ClassId} (ho : o < N) (hF : ∀ g, F o g = .inl (cA, n, .inl g)) (t0 : Nat) (ht : tys[t0]? = some (cA, .int)) {i x : Int32} (hin : vp_in i n) (hdg : decode cc pc = .ok (.iastore, 1))
    (kk : ∀ (h1 : zM) (H1 : Heap) (locs1 : List Loc), h1 = zu h o i.toNatClampNeg x → va_P D zcl (zW N ad F h1) H1 → va_S A H0 H1 locs1 → W p l e R s m args below meth c H1 locs1 cells slots Q (F0 m (pc + 1) ls rest)) : W p l e R s m args below meth c H locs cells slots Q (F0 m pc ls (.int x :: .int i :: .ref (ad o) :: rest)) := by
  refine va_iast S.1 S.2.1 hK hP (zD hJ) hS o t0 (by rw [zW_at ho, hF]) ht hin hdg (fun H1 locs1 hP1 _ hS1 => kk _ H1 locs1 rfl ?_ hS1)
  rw [← hF, zW_up ho] at hP1
  exact hP1
theorem zr_cst (S : zS p m c cc nL s args own) (hK : va_K D zcl tys s) (hJ : zJ A N ad) (hP : va_P D zcl (zW N ad F h) H) (hS : va_S A H0 H locs) {o n : Nat} {cA : ClassId} (ho : o < N) (hF : ∀ g, F o g = .inl (cA, n, .inl g)) (t0 : Nat) (ht : tys[t0]? = some (cA, .char)) {i x : Int32} (hin : vp_in i n) (hdg : decode cc pc = .ok (.castore, 1))
    (kk : ∀ (h1 : zM) (H1 : Heap) (locs1 : List Loc), h1 = zu h o i.toNatClampNeg (vp_nar .char x) → va_P D zcl (zW N ad F h1) H1 → va_S A H0 H1 locs1 → W p l e R s m args below meth c H1 locs1 cells slots Q (F0 m (pc + 1) ls rest)) : W p l e R s m args below meth c H locs cells slots Q (F0 m pc ls (.int x :: .int i :: .ref (ad o) :: rest)) := by
  refine va_cast S.1 S.2.1 hK hP (zD hJ) hS o t0 (by rw [zW_at ho, hF]) ht hin hdg (fun H1 locs1 hP1 _ hS1 => kk _ H1 locs1 rfl ?_ hS1)
  rw [← hF, zW_up ho] at hP1
  exact hP1
theorem zr_len (S : zS p m c cc nL s args own) (hK : va_K D zcl tys s) (hP : va_P D zcl (zW N ad F h) H) {o n : Nat} {cA : ClassId} {ty : FieldType} (ho : o < N) (hF : F o (h o) = .inl (cA, n, .inl (h o))) (t0 : Nat) (ht : tys[t0]? = some (cA, ty)) (hdg : decode cc pc = .ok (.arraylength, 1))
    (kk : W p l e R s m args below meth c H locs cells slots Q (F0 m (pc + 1) ls (.int (nI n) :: rest))) : W p l e R s m args below meth c H locs cells slots Q (F0 m pc ls (.ref (ad o) :: rest)) :=
  va_alen S.1 S.2.1 hK hP o t0 (by rw [zW_at ho, hF]) ht rfl hdg kk
theorem zr_copy (S : zS p m c cc nL s args own) (hls : ls.size = nL) (hK : va_K D zcl tys s) (hJ : zJ A N ad) (hP : va_P D zcl (zW N ad F h) H) (hS : va_S A H0 H locs) {o0 o1 n0 n1 index : Nat} {cA : ClassId} (ho0 : o0 < N) (hF0 : F o0 (h o0) = .inl (cA, n0, .inl (h o0))) (ho1 : o1 < N) (hF1 : ∀ g, F o1 g = .inl (cA, n1, .inl g)) (t0 : Nat) (ht : tys[t0]? = some (cA, .int))
    (hlink : Cond.methodLink own index arraycopyName ∈ zt) (hnat : Cond.native arraycopyName ∈ zt) (hstat : Cond.static arraycopyName ∈ zt) (hini : Cond.initialized "java/lang/System" ∈ zt)
    {sp dp n : Int32} (h1 : ¬ sp < 0) (h2 : ¬ dp < 0) (h3 : ¬ n < 0) (h4 : sp.toNatClampNeg + n.toNatClampNeg ≤ n0) (h5 : dp.toNatClampNeg + n.toNatClampNeg ≤ n1) (hframes : 1 ≤ R.frames) (hlocals : (rest.map fun v => v.category).sum + (nativeFrameWords "java/lang/System" "arraycopy" 5 + 11) ≤ R.locals) (hdg : decode cc pc = .ok (.invokestatic index, 3))
    (kk : ∀ (h1 : zM) (H1 : Heap) (locs1 : List Loc), h1 = va_up h o1 (va_cpy (h o0) (h o1) sp.toNatClampNeg dp.toNatClampNeg n.toNatClampNeg) → va_P D zcl (zW N ad F h1) H1 → va_S A H0 H1 locs1 → W p l e R s m args below meth c H1 locs1 cells slots Q (F0 m (pc + 3) ls rest)) : W p l e R s m args below meth c H locs cells slots Q (F0 m pc ls (.int n :: .int dp :: .ref (ad o1) :: .int sp :: .ref (ad o0) :: rest)) := by
  refine va_copyi S.1 S.2.1 (by rw [hls]; exact S.2.2.1) S.2.2.2.1 (S.2.2.2.2 _ hlink) (S.2.2.2.2 _ hnat) (S.2.2.2.2 _ hstat) (S.2.2.2.2 _ hini) hK hP (zD hJ) hS o0 o1 t0 t0 (by rw [zW_at ho0, hF0]) (by rw [zW_at ho1, hF1]) ht ht rfl h1 h2 h3 h4 h5 (fun _ _ => rfl) hframes hlocals hdg (fun H1 locs1 hP1 _ hS1 => kk _ H1 locs1 rfl ?_ hS1)
  rw [← hF1, zW_up ho1] at hP1
  exact hP1
theorem zr_gets (S : zS p m c cc nL s args own) (hN : zNe s) (hS : va_S A s.heap H locs) {t index : Nat} {nm : String} (hZ : va_Z "CallExplorer" nm "[I" (.ref t) A s s.heap) (hq : (own, index, "CallExplorer", nm, "[I", "CallExplorer") ∈ znF) (hdg : decode cc pc = .ok (.getstatic index, 3))
    (kk : W p l e R s m args below meth c H locs cells slots Q (F0 m (pc + 3) ls (.ref t :: rest))) : W p l e R s m args below meth c H locs cells slots Q (F0 m pc ls rest) :=
  va_getsN S.1 S.2.1 hZ hS S.2.2.2.1 (va_Nw.use rfl (hN.1 _ hq)) (fun _ h => h) hdg kk
theorem zr_tld (S : zS p m c cc nL s args own) (hS : va_S A s.heap H locs) {t : Nat} {f : Nat → Int32} (hT : va_T .int t 10 (fun j => .int (f j)) A s s.heap) {i : Int32} (hin : vp_in i 10) (hdg : decode cc pc = .ok (.iaload, 1))
    (kk : W p l e R s m args below meth c H locs cells slots Q (F0 m (pc + 1) ls (.int (f i.toNatClampNeg) :: rest))) : W p l e R s m args below meth c H locs cells slots Q (F0 m pc ls (.int i :: .ref t :: rest)) :=
  va_ti S.1 S.2.1 hT hS hin rfl hdg kk
theorem zr_tln (S : zS p m c cc nL s args own) (hS : va_S A s.heap H locs) {t : Nat} {f : Nat → Int32} (hT : va_T .int t 10 (fun j => .int (f j)) A s s.heap) (hdg : decode cc pc = .ok (.arraylength, 1))
    (kk : W p l e R s m args below meth c H locs cells slots Q (F0 m (pc + 1) ls (.int 10 :: rest))) : W p l e R s m args below meth c H locs cells slots Q (F0 m pc ls (.ref t :: rest)) :=
  va_tlen S.1 S.2.1 hT hS rfl hdg kk
theorem zr_row (S : zS p m c cc nL s args own) (hK : va_K D zcl tys s) (hP : va_P D zcl (zW N ad F h) H) {o n r : Nat} {cA : ClassId} {C : String} {f : Nat → Option Nat} (ho : o < N) (hF : F o (h o) = .inl (cA, n, .inr (.inr (.inr (.inr f))))) (t0 : Nat) (ht : tys[t0]? = some (cA, .object C)) {i : Int32} (hin : vp_in i n) (hf : f i.toNatClampNeg = some r) (hdg : decode cc pc = .ok (.aaload, 1))
    (kk : W p l e R s m args below meth c H locs cells slots Q (F0 m (pc + 1) ls (.ref r :: rest))) : W p l e R s m args below meth c H locs cells slots Q (F0 m pc ls (.int i :: .ref (ad o) :: rest)) :=
  va_aldq S.1 S.2.1 hK hP o t0 (by rw [zW_at ho, hF]) ht hin hdg (by rw [hf]; exact kk)
variable {index mL n mc ms : Nat} {y : MethodName} {C : String} {b : ByteArray} {ret : Option FieldType} {rm : Room} {As st0 : List Value} {Qc : Array Value → State → Outcome → State → Prop}
theorem zCw (hts : ∀ w ∈ zt, w.before args s = true) (hc : zCal own index y C b mL ret n) (hR : rm.frames + 1 ≤ R.frames ∧ 8 + (mL + 11) + rm.locals ≤ R.locals) (h0 : rm.cells = mc) (h1 : rm.slots = ms) : CallW R s args own C index y b mL ret (.code y b mL ret :: zt) rm mc ms n := by
  obtain ⟨a1, a2, a3, a4, a5, hd⟩ := hc
  refine cwV n hts (fun w hw => ?_) rfl h0 h1 hd hR
  have hm : w ∈ zt := by
    rcases List.mem_append.mp hw with h | h
    · simp only [List.mem_cons, List.not_mem_nil, or_false] at h
      rcases h with rfl | rfl | rfl | rfl <;> assumption
    · rcases List.mem_cons.mp h with rfl | h
      · exact a1
      · exact h
  exact ⟨hm, zgood w hm⟩
theorem zCws (hts : ∀ w ∈ zt, w.before args s = true) (hc : zCas own index y b mL ret n) (hR : rm.frames + 1 ≤ R.frames ∧ 8 + (mL + 11) + rm.locals ≤ R.locals) (h0 : rm.cells = mc) (h1 : rm.slots = ms) : CallB R s args own index y b mL ret (.code y b mL ret :: zt) rm mc ms n ∧ (Cond.static y).before args s = true := by
  obtain ⟨a1, a2, a3, a4, hd⟩ := hc
  refine cwS n hts (fun w hw => ?_) rfl h0 h1 hd hR
  have hm : w ∈ zt := by
    rcases List.mem_append.mp hw with h | h
    · simp only [List.mem_cons, List.not_mem_nil, or_false] at h
      rcases h with rfl | rfl | rfl <;> assumption
    · rcases List.mem_cons.mp h with rfl | h
      · exact a1
      · exact h
  exact ⟨hm, zgood w hm⟩
theorem zBlind {av : List Value} : FrameBlind (va_Pc av (zPre D tys N ad F A h)) := fun a U g mk q => by
  obtain ⟨q0, qP, qK, qT, qN⟩ := q
  exact ⟨q0, qP, va_K.moved (u := U) (U := U.calling g mk a) (Vm.Alike.refl U.vm) qK, zTab.moved (u := U) (U := U.calling g mk a) (Vm.Alike.refl U.vm) qT, qN.same rfl⟩
theorem zPre_at (hK : va_K D zcl tys s) (hT : zTab A s s.heap) (hN : zNe s) (hP : va_P D zcl (zW N ad F h) H) (hS : va_S A s.heap H locs) {av : List Value} : ∀ U : State, U.heap = H → s.WarmedH U.vm → va_Pc av (zPre D tys N ad F A h) av.toArray U := fun U hU hW =>
  ⟨rfl, by rw [hU]; exact hP, va_K.moved hW.alike hK, by rw [hU]; exact (hT.kept hS.2.1).moved hW.alike, hN.warm hW⟩
theorem zr_V (S : zS p m c cc nL s args own) (hK : va_K D zcl tys s) (hT : zTab A s s.heap) (hN : zNe s) (hP : va_P D zcl (zW N ad F h) H) (hS : va_S A s.heap H locs) {o ci N0 : Nat} {T : u_T} {fs : List Value} (ho : o < N) (hF : F o (h o) = .inr (ci, fs)) (hcl : zcl[ci]? = some (C, T, N0)) (hM : Met l y (.code y b mL ret :: zt) rm (va_Pc (.ref (ad o) :: As) (zPre D tys N ad F A h)) Qc 0 0 A) (hc : zCal own index y C b mL ret n) (hR : rm.frames + 1 ≤ R.frames ∧ 8 + (mL + 11) + rm.locals ≤ R.locals) (h0 : rm.cells = 0 ∧ rm.slots = 0) (hn : As.length = n) (hsz : ls.size = nL) (hst : st0 = As.reverse ++ .ref (ad o) :: rest) (hW : (rest.map fun v => v.category).sum ≤ 8) (hdg : decode cc pc = .ok (.invokevirtual index, 3)) : va_Run p l e R s m args below meth c H locs 0 0 0 0 (F0 m pc ls st0) rest (Qc (Value.ref (ad o) :: As).toArray) A :=
  va_runV S hM (zCw S.2.2.2.2 hc hR h0.1 h0.2) ⟨zBlind, va_recv hK hP hcl (q0 := o) (by rw [zW_at ho, hF]), zPre_at hK hT hN hP hS⟩ rfl hn hsz hst (lv_room (rest := st0) hW) hdg ⟨Nat.zero_le _, Nat.zero_le _⟩
theorem zr_T (S : zS p m c cc nL s args own) (hK : va_K D zcl tys s) (hT : zTab A s s.heap) (hN : zNe s) (hP : va_P D zcl (zW N ad F h) H) (hS : va_S A s.heap H locs) (hM : Met l y (.code y b mL ret :: zt) rm (va_Pc As (zPre D tys N ad F A h)) Qc 0 0 A) (hc : zCas own index y b mL ret n) (hR : rm.frames + 1 ≤ R.frames ∧ 8 + (mL + 11) + rm.locals ≤ R.locals) (h0 : rm.cells = 0 ∧ rm.slots = 0) (hn : As.length = n) (hsz : ls.size = nL) (hst : st0 = As.reverse ++ rest) (hW : (rest.map fun v => v.category).sum ≤ 8) (hdg : decode cc pc = .ok (.invokestatic index, 3)) : va_Run p l e R s m args below meth c H locs 0 0 0 0 (F0 m pc ls st0) rest (Qc As.toArray) A :=
  va_runS S hM (zCws S.2.2.2.2 hc hR h0.1 h0.2) ⟨zBlind, zPre_at hK hT hN hP hS⟩ rfl hn hsz hst (lv_room (rest := st0) hW) hdg ⟨Nat.zero_le _, Nat.zero_le _⟩
variable {a0 : Array Value}
theorem zr_i {post : Int32 → zM → Prop} (hr : va_Run p l e R s m args below meth c H locs 0 0 0 0 (F0 m pc ls st0) rest (va_Qi post (zPst D tys N ad F) A a0) A) (hS : va_S A H0 H locs)
    (kk : ∀ (r : Int32) (h1 : zM) (H1 : Heap) (locs1 : List Loc), post r h1 → va_P D zcl (zW N ad F h1) H1 → va_S A H0 H1 locs1 → W p l e R s m args below meth c H1 locs1 0 0 Q (F0 m (pc + 3) ls (.int r :: rest))) : W p l e R s m args below meth c H locs 0 0 Q (F0 m pc ls st0) :=
  va_calli hr hS (fun _ _ h => h) (fun _ h => h) (fun r u t H1 locs1 ht _ hp hB _ _ hS1 => kk r u H1 locs1 hp (by rw [← ht]; exact hB.1) hS1)
theorem zr_v {post : zM → Prop} (hr : va_Run p l e R s m args below meth c H locs 0 0 0 0 (F0 m pc ls st0) rest (va_Qv post (zPst D tys N ad F) A a0) A) (hS : va_S A H0 H locs)
    (kk : ∀ (h1 : zM) (H1 : Heap) (locs1 : List Loc), post h1 → va_P D zcl (zW N ad F h1) H1 → va_S A H0 H1 locs1 → W p l e R s m args below meth c H1 locs1 0 0 Q (F0 m (pc + 3) ls rest)) : W p l e R s m args below meth c H locs 0 0 Q (F0 m pc ls st0) :=
  va_callv hr hS (fun _ _ h => h) (fun _ h => h) (fun u t H1 locs1 ht _ hp hB _ _ hS1 => kk u H1 locs1 hp (by rw [← ht]; exact hB.1) hS1)
theorem zr_e {ad2 : Nat → Nat} {post : Option Nat → zM → Prop} (hr : va_Run p l e R s m args below meth c H locs 0 0 0 0 (F0 m pc ls st0) rest (va_Qe ad2 post (zPst D tys N ad F) A a0) A) (hS : va_S A H0 H locs)
    (k0 : ∀ (h1 : zM) (H1 : Heap) (locs1 : List Loc), post none h1 → va_P D zcl (zW N ad F h1) H1 → va_S A H0 H1 locs1 → W p l e R s m args below meth c H1 locs1 0 0 Q (F0 m (pc + 3) ls (.null :: rest)))
    (k1 : ∀ (j : Nat) (h1 : zM) (H1 : Heap) (locs1 : List Loc), post (some j) h1 → va_P D zcl (zW N ad F h1) H1 → va_S A H0 H1 locs1 → W p l e R s m args below meth c H1 locs1 0 0 Q (F0 m (pc + 3) ls (.ref (ad2 j) :: rest))) : W p l e R s m args below meth c H locs 0 0 Q (F0 m pc ls st0) :=
  va_calle hr hS (fun _ _ h => h) (fun _ h => h) (fun r u t H1 locs1 ht _ hp hB _ _ hS1 => by
    cases r with
    | none => exact k0 u H1 locs1 hp (by rw [← ht]; exact hB.1) hS1
    | some j => exact k1 j u H1 locs1 hp (by rw [← ht]; exact hB.1) hS1)
/-! the ends -/
abbrev zQi (post : Int32 → zM → Prop) (D : va_G) (tys : List (ClassId × FieldType)) (N : Nat) (ad : Nat → Nat) (F : zSh) (A : Nat → Prop) (below : List Frame) (args : Array Value) (s : State) : State → Prop := MQ below (va_Qi post (zPst D tys N ad F) A) args s 0 0 A
abbrev zQv (post : zM → Prop) (D : va_G) (tys : List (ClassId × FieldType)) (N : Nat) (ad : Nat → Nat) (F : zSh) (A : Nat → Prop) (below : List Frame) (args : Array Value) (s : State) : State → Prop := MQ below (va_Qv post (zPst D tys N ad F) A) args s 0 0 A
abbrev zQe (ad2 : Nat → Nat) (post : Option Nat → zM → Prop) (D : va_G) (tys : List (ClassId × FieldType)) (N : Nat) (ad : Nat → Nat) (F : zSh) (A : Nat → Prop) (below : List Frame) (args : Array Value) (s : State) : State → Prop := MQ below (va_Qe ad2 post (zPst D tys N ad F) A) args s 0 0 A
theorem zr_iret {post : Int32 → zM → Prop} {v : Int32} {ty : FieldType} (S : zS p m c cc nL s args own) (hr : meth.sig.returnType = some ty) (hlk : meth.locks = false) (hK : va_K D zcl tys s) (hP : va_P D zcl (zW N ad F h) H) (hS : va_S A s.heap H locs) (hn : narrow ty (.int v) = .int v) (hw : post v h) (hdg : decode cc pc = .ok (.ireturn, 1)) : W p l e R s m args below meth c H locs 0 0 (zQi post D tys N ad F A below args s) (F0 m pc ls [.int v]) :=
  W.zret S.1 S.2.1 hr hn (fun t ht hW => ⟨⟨v, h, rfl, hw, by rw [ht]; exact hP, va_K.moved hW.alike hK⟩, hS.F ht⟩) hS.2.2 hdg hlk
theorem zr_vret {post : zM → Prop} (S : zS p m c cc nL s args own) (hr : meth.sig.returnType = none) (hlk : meth.locks = false) (hK : va_K D zcl tys s) (hP : va_P D zcl (zW N ad F h) H) (hS : va_S A s.heap H locs) (hw : post h) (hdg : decode cc pc = .ok (.return_, 1)) : W p l e R s m args below meth c H locs 0 0 (zQv post D tys N ad F A below args s) (F0 m pc ls []) :=
  W.vret S.1 S.2.1 hr (fun t ht hW => ⟨⟨h, rfl, hw, by rw [ht]; exact hP, va_K.moved hW.alike hK⟩, hS.F ht⟩) hS.2.2 hdg hlk
theorem zr_eret {ad2 : Nat → Nat} {post : Option Nat → zM → Prop} {rt : FieldType} (S : zS p m c cc nL s args own) (hr : meth.sig.returnType = some rt) (hrt : (∃ n, rt = .object n) ∨ ∃ t, rt = .array t) (hlk : meth.locks = false) (hK : va_K D zcl tys s) (hP : va_P D zcl (zW N ad F h) H) (hS : va_S A s.heap H locs) {r : Option Nat} {v : Value} (hv : va_re ad2 r = v) (hw : post r h) (hdg : decode cc pc = .ok (.areturn, 1)) : W p l e R s m args below meth c H locs 0 0 (zQe ad2 post D tys N ad F A below args s) (F0 m pc ls [v]) := by
  subst hv
  refine W.aret S.1 S.2.1 hr hrt ?_ (fun t ht hW => ⟨⟨r, h, rfl, hw, by rw [ht]; exact hP, va_K.moved hW.alike hK⟩, hS.F ht⟩) hS.2.2 hdg hlk
  cases r with
  | none => exact Or.inl rfl
  | some j => exact Or.inr ⟨_, rfl⟩
end ZR
end
