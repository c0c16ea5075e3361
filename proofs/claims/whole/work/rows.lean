section
-- ===== PART A: goes FIRST, ahead of the names: the tables' words, and 'selects' of the private methods out of them =====
/-- a private method of a class that the tables say can be made, by its rows of tables_1 -/
def lw_okq (q : MethodName × Nat) : Prop := (q.1.cls ≠ "java/lang/invoke/MethodHandle" ∧ q.1.cls ≠ "java/lang/invoke/VarHandle") ∧ Cond.instantiable q.1.cls q.2 ∈ tables_1 ∧ Cond.privateMethod q.1 ∈ tables_1 ∧ Cond.instanceMethod q.1 ∈ tables_1
theorem lw_p0 : lw_okq (⟨"LinkRouter$Net", "isStale", "(I)Z"⟩, 13) := ⟨⟨by decide +kernel, by decide +kernel⟩, List.mem_of_getElem? (i := 23) (by decide +kernel), List.mem_of_getElem? (i := 340) (by decide +kernel), List.mem_of_getElem? (i := 341) (by decide +kernel)⟩
theorem lw_p1 : lw_okq (⟨"LinkRouter$Net", "arrive", "()V"⟩, 13) := ⟨⟨by decide +kernel, by decide +kernel⟩, List.mem_of_getElem? (i := 23) (by decide +kernel), List.mem_of_getElem? (i := 368) (by decide +kernel), List.mem_of_getElem? (i := 369) (by decide +kernel)⟩
theorem lw_p2 : lw_okq (⟨"LinkRouter$Net", "take", "(I)V"⟩, 13) := ⟨⟨by decide +kernel, by decide +kernel⟩, List.mem_of_getElem? (i := 23) (by decide +kernel), List.mem_of_getElem? (i := 372) (by decide +kernel), List.mem_of_getElem? (i := 373) (by decide +kernel)⟩
theorem lw_p3 : lw_okq (⟨"LinkRouter$Net", "growOlder", "()V"⟩, 13) := ⟨⟨by decide +kernel, by decide +kernel⟩, List.mem_of_getElem? (i := 23) (by decide +kernel), List.mem_of_getElem? (i := 383) (by decide +kernel), List.mem_of_getElem? (i := 384) (by decide +kernel)⟩
theorem lw_p4 : lw_okq (⟨"LinkRouter$Net", "tellAnew", "()V"⟩, 13) := ⟨⟨by decide +kernel, by decide +kernel⟩, List.mem_of_getElem? (i := 23) (by decide +kernel), List.mem_of_getElem? (i := 394) (by decide +kernel), List.mem_of_getElem? (i := 395) (by decide +kernel)⟩
theorem lw_p5 : lw_okq (⟨"LinkRouter$Net", "draftLinks", "(II)V"⟩, 13) := ⟨⟨by decide +kernel, by decide +kernel⟩, List.mem_of_getElem? (i := 23) (by decide +kernel), List.mem_of_getElem? (i := 399) (by decide +kernel), List.mem_of_getElem? (i := 400) (by decide +kernel)⟩
theorem lw_p6 : lw_okq (⟨"LinkRouter$Net", "draftSums", "(III)V"⟩, 13) := ⟨⟨by decide +kernel, by decide +kernel⟩, List.mem_of_getElem? (i := 23) (by decide +kernel), List.mem_of_getElem? (i := 404) (by decide +kernel), List.mem_of_getElem? (i := 405) (by decide +kernel)⟩
theorem lw_p7 : lw_okq (⟨"LinkRouter$Paths", "nearest", "()I"⟩, 3) := ⟨⟨by decide +kernel, by decide +kernel⟩, List.mem_of_getElem? (i := 109) (by decide +kernel), List.mem_of_getElem? (i := 417) (by decide +kernel), List.mem_of_getElem? (i := 418) (by decide +kernel)⟩
theorem lw_p8 : lw_okq (⟨"LinkRouter$Paths", "goOn", "(LLinkRouter$Net;III)V"⟩, 3) := ⟨⟨by decide +kernel, by decide +kernel⟩, List.mem_of_getElem? (i := 109) (by decide +kernel), List.mem_of_getElem? (i := 421) (by decide +kernel), List.mem_of_getElem? (i := 422) (by decide +kernel)⟩
theorem lw_p9 : lw_okq (⟨"LinkRouter$Net", "sumUpAcross", "(I)V"⟩, 13) := ⟨⟨by decide +kernel, by decide +kernel⟩, List.mem_of_getElem? (i := 23) (by decide +kernel), List.mem_of_getElem? (i := 428) (by decide +kernel), List.mem_of_getElem? (i := 429) (by decide +kernel)⟩
theorem lw_p10 : lw_okq (⟨"LinkRouter$Net", "tellDraft", "(I)V"⟩, 13) := ⟨⟨by decide +kernel, by decide +kernel⟩, List.mem_of_getElem? (i := 23) (by decide +kernel), List.mem_of_getElem? (i := 440) (by decide +kernel), List.mem_of_getElem? (i := 441) (by decide +kernel)⟩
theorem lw_p11 : lw_okq (⟨"LinkRouter$Net", "sendOn", "()V"⟩, 13) := ⟨⟨by decide +kernel, by decide +kernel⟩, List.mem_of_getElem? (i := 23) (by decide +kernel), List.mem_of_getElem? (i := 448) (by decide +kernel), List.mem_of_getElem? (i := 449) (by decide +kernel)⟩
theorem lw_p12 : lw_okq (⟨"LinkRouter$Net", "sendRow", "(I)V"⟩, 13) := ⟨⟨by decide +kernel, by decide +kernel⟩, List.mem_of_getElem? (i := 23) (by decide +kernel), List.mem_of_getElem? (i := 452) (by decide +kernel), List.mem_of_getElem? (i := 453) (by decide +kernel)⟩
theorem lw_p13 : lw_okq (⟨"LinkRouter$Routes", "take", "(IIII)V"⟩, 5) := ⟨⟨by decide +kernel, by decide +kernel⟩, List.mem_of_getElem? (i := 183) (by decide +kernel), List.mem_of_getElem? (i := 491) (by decide +kernel), List.mem_of_getElem? (i := 492) (by decide +kernel)⟩
theorem lw_p14 : lw_okq (⟨"LinkRouter$Routes", "findInside", "(II)V"⟩, 5) := ⟨⟨by decide +kernel, by decide +kernel⟩, List.mem_of_getElem? (i := 183) (by decide +kernel), List.mem_of_getElem? (i := 495) (by decide +kernel), List.mem_of_getElem? (i := 496) (by decide +kernel)⟩
theorem lw_p15 : lw_okq (⟨"LinkRouter$Routes", "findAcross", "(LLinkRouter$Net;III)V"⟩, 5) := ⟨⟨by decide +kernel, by decide +kernel⟩, List.mem_of_getElem? (i := 183) (by decide +kernel), List.mem_of_getElem? (i := 500) (by decide +kernel), List.mem_of_getElem? (i := 501) (by decide +kernel)⟩
def lw_privs_1 : List (MethodName × Nat) := [(⟨"LinkRouter$Net", "isStale", "(I)Z"⟩, 13), (⟨"LinkRouter$Net", "arrive", "()V"⟩, 13), (⟨"LinkRouter$Net", "take", "(I)V"⟩, 13), (⟨"LinkRouter$Net", "growOlder", "()V"⟩, 13), (⟨"LinkRouter$Net", "tellAnew", "()V"⟩, 13), (⟨"LinkRouter$Net", "draftLinks", "(II)V"⟩, 13), (⟨"LinkRouter$Net", "draftSums", "(III)V"⟩, 13), (⟨"LinkRouter$Paths", "nearest", "()I"⟩, 3), (⟨"LinkRouter$Paths", "goOn", "(LLinkRouter$Net;III)V"⟩, 3), (⟨"LinkRouter$Net", "sumUpAcross", "(I)V"⟩, 13), (⟨"LinkRouter$Net", "tellDraft", "(I)V"⟩, 13), (⟨"LinkRouter$Net", "sendOn", "()V"⟩, 13), (⟨"LinkRouter$Net", "sendRow", "(I)V"⟩, 13), (⟨"LinkRouter$Routes", "take", "(IIII)V"⟩, 5), (⟨"LinkRouter$Routes", "findInside", "(II)V"⟩, 5), (⟨"LinkRouter$Routes", "findAcross", "(LLinkRouter$Net;III)V"⟩, 5)]
theorem lw_r1 : ∀ q ∈ lw_privs_1, lw_okq q := List.forall_mem_cons.mpr ⟨lw_p0, List.forall_mem_cons.mpr ⟨lw_p1, List.forall_mem_cons.mpr ⟨lw_p2, List.forall_mem_cons.mpr ⟨lw_p3, List.forall_mem_cons.mpr ⟨lw_p4, List.forall_mem_cons.mpr ⟨lw_p5, List.forall_mem_cons.mpr ⟨lw_p6, List.forall_mem_cons.mpr ⟨lw_p7, List.forall_mem_cons.mpr ⟨lw_p8, List.forall_mem_cons.mpr ⟨lw_p9, List.forall_mem_cons.mpr ⟨lw_p10, List.forall_mem_cons.mpr ⟨lw_p11, List.forall_mem_cons.mpr ⟨lw_p12, List.forall_mem_cons.mpr ⟨lw_p13, List.forall_mem_cons.mpr ⟨lw_p14, List.forall_mem_cons.mpr ⟨lw_p15, fun _ h => absurd h List.not_mem_nil⟩⟩⟩⟩⟩⟩⟩⟩⟩⟩⟩⟩⟩⟩⟩⟩
theorem lw_p16 : lw_okq (⟨"LinkRouter$Links", "spread", "(II)V"⟩, 8) := ⟨⟨by decide +kernel, by decide +kernel⟩, List.mem_of_getElem? (i := 29) (by decide +kernel), List.mem_of_getElem? (i := 532) (by decide +kernel), List.mem_of_getElem? (i := 533) (by decide +kernel)⟩
theorem lw_p17 : lw_okq (⟨"LinkRouter", "breakInThought", "(I)V"⟩, 7) := ⟨⟨by decide +kernel, by decide +kernel⟩, List.mem_of_getElem? (i := 15) (by decide +kernel), List.mem_of_getElem? (i := 574) (by decide +kernel), List.mem_of_getElem? (i := 575) (by decide +kernel)⟩
theorem lw_p18 : lw_okq (⟨"LinkRouter", "drawInThought", "(I)V"⟩, 7) := ⟨⟨by decide +kernel, by decide +kernel⟩, List.mem_of_getElem? (i := 15) (by decide +kernel), List.mem_of_getElem? (i := 582) (by decide +kernel), List.mem_of_getElem? (i := 583) (by decide +kernel)⟩
theorem lw_p19 : lw_okq (⟨"LinkRouter", "reached", "(I)I"⟩, 7) := ⟨⟨by decide +kernel, by decide +kernel⟩, List.mem_of_getElem? (i := 15) (by decide +kernel), List.mem_of_getElem? (i := 587) (by decide +kernel), List.mem_of_getElem? (i := 588) (by decide +kernel)⟩
theorem lw_p20 : lw_okq (⟨"LinkRouter", "firstOtherwise", "(LLinkRouter$Net;II)I"⟩, 7) := ⟨⟨by decide +kernel, by decide +kernel⟩, List.mem_of_getElem? (i := 15) (by decide +kernel), List.mem_of_getElem? (i := 623) (by decide +kernel), List.mem_of_getElem? (i := 624) (by decide +kernel)⟩
theorem lw_p21 : lw_okq (⟨"LinkRouter", "routersToldSo", "(I)I"⟩, 7) := ⟨⟨by decide +kernel, by decide +kernel⟩, List.mem_of_getElem? (i := 15) (by decide +kernel), List.mem_of_getElem? (i := 628) (by decide +kernel), List.mem_of_getElem? (i := 629) (by decide +kernel)⟩
theorem lw_p22 : lw_okq (⟨"LinkRouter", "linksToldSo", "(II)I"⟩, 7) := ⟨⟨by decide +kernel, by decide +kernel⟩, List.mem_of_getElem? (i := 15) (by decide +kernel), List.mem_of_getElem? (i := 632) (by decide +kernel), List.mem_of_getElem? (i := 633) (by decide +kernel)⟩
theorem lw_p23 : lw_okq (⟨"LinkRouter", "costsToldSo", "(III)I"⟩, 7) := ⟨⟨by decide +kernel, by decide +kernel⟩, List.mem_of_getElem? (i := 15) (by decide +kernel), List.mem_of_getElem? (i := 636) (by decide +kernel), List.mem_of_getElem? (i := 637) (by decide +kernel)⟩
theorem lw_p24 : lw_okq (⟨"LinkRouter", "costInThought", "(II)V"⟩, 7) := ⟨⟨by decide +kernel, by decide +kernel⟩, List.mem_of_getElem? (i := 15) (by decide +kernel), List.mem_of_getElem? (i := 640) (by decide +kernel), List.mem_of_getElem? (i := 641) (by decide +kernel)⟩
theorem lw_p25 : lw_okq (⟨"LinkRouterModel", "isLink", "(I)Z"⟩, 48) := ⟨⟨by decide +kernel, by decide +kernel⟩, List.mem_of_getElem? (i := 698) (by decide +kernel), List.mem_of_getElem? (i := 869) (by decide +kernel), List.mem_of_getElem? (i := 870) (by decide +kernel)⟩
theorem lw_p26 : lw_okq (⟨"LinkRouterModel", "areasOf", "(I)I"⟩, 48) := ⟨⟨by decide +kernel, by decide +kernel⟩, List.mem_of_getElem? (i := 698) (by decide +kernel), List.mem_of_getElem? (i := 885) (by decide +kernel), List.mem_of_getElem? (i := 886) (by decide +kernel)⟩
theorem lw_p27 : lw_okq (⟨"LinkRouterModel", "isEnd", "(II)Z"⟩, 48) := ⟨⟨by decide +kernel, by decide +kernel⟩, List.mem_of_getElem? (i := 698) (by decide +kernel), List.mem_of_getElem? (i := 889) (by decide +kernel), List.mem_of_getElem? (i := 890) (by decide +kernel)⟩
theorem lw_p28 : lw_okq (⟨"LinkRouterModel", "isBorder", "(I)Z"⟩, 48) := ⟨⟨by decide +kernel, by decide +kernel⟩, List.mem_of_getElem? (i := 698) (by decide +kernel), List.mem_of_getElem? (i := 893) (by decide +kernel), List.mem_of_getElem? (i := 894) (by decide +kernel)⟩
theorem lw_p29 : lw_okq (⟨"LinkRouterModel", "knows", "(IZ)I"⟩, 48) := ⟨⟨by decide +kernel, by decide +kernel⟩, List.mem_of_getElem? (i := 698) (by decide +kernel), List.mem_of_getElem? (i := 897) (by decide +kernel), List.mem_of_getElem? (i := 898) (by decide +kernel)⟩
theorem lw_p30 : lw_okq (⟨"LinkRouterModel", "isStale", "(II)Z"⟩, 48) := ⟨⟨by decide +kernel, by decide +kernel⟩, List.mem_of_getElem? (i := 698) (by decide +kernel), List.mem_of_getElem? (i := 904) (by decide +kernel), List.mem_of_getElem? (i := 905) (by decide +kernel)⟩
theorem lw_p31 : lw_okq (⟨"LinkRouterModel", "priceFrom", "(II)I"⟩, 48) := ⟨⟨by decide +kernel, by decide +kernel⟩, List.mem_of_getElem? (i := 698) (by decide +kernel), List.mem_of_getElem? (i := 908) (by decide +kernel), List.mem_of_getElem? (i := 909) (by decide +kernel)⟩
def lw_privs_2 : List (MethodName × Nat) := [(⟨"LinkRouter$Links", "spread", "(II)V"⟩, 8), (⟨"LinkRouter", "breakInThought", "(I)V"⟩, 7), (⟨"LinkRouter", "drawInThought", "(I)V"⟩, 7), (⟨"LinkRouter", "reached", "(I)I"⟩, 7), (⟨"LinkRouter", "firstOtherwise", "(LLinkRouter$Net;II)I"⟩, 7), (⟨"LinkRouter", "routersToldSo", "(I)I"⟩, 7), (⟨"LinkRouter", "linksToldSo", "(II)I"⟩, 7), (⟨"LinkRouter", "costsToldSo", "(III)I"⟩, 7), (⟨"LinkRouter", "costInThought", "(II)V"⟩, 7), (⟨"LinkRouterModel", "isLink", "(I)Z"⟩, 48), (⟨"LinkRouterModel", "areasOf", "(I)I"⟩, 48), (⟨"LinkRouterModel", "isEnd", "(II)Z"⟩, 48), (⟨"LinkRouterModel", "isBorder", "(I)Z"⟩, 48), (⟨"LinkRouterModel", "knows", "(IZ)I"⟩, 48), (⟨"LinkRouterModel", "isStale", "(II)Z"⟩, 48), (⟨"LinkRouterModel", "priceFrom", "(II)I"⟩, 48)]
theorem lw_r2 : ∀ q ∈ lw_privs_2, lw_okq q := List.forall_mem_cons.mpr ⟨lw_p16, List.forall_mem_cons.mpr ⟨lw_p17, List.forall_mem_cons.mpr ⟨lw_p18, List.forall_mem_cons.mpr ⟨lw_p19, List.forall_mem_cons.mpr ⟨lw_p20, List.forall_mem_cons.mpr ⟨lw_p21, List.forall_mem_cons.mpr ⟨lw_p22, List.forall_mem_cons.mpr ⟨lw_p23, List.forall_mem_cons.mpr ⟨lw_p24, List.forall_mem_cons.mpr ⟨lw_p25, List.forall_mem_cons.mpr ⟨lw_p26, List.forall_mem_cons.mpr ⟨lw_p27, List.forall_mem_cons.mpr ⟨lw_p28, List.forall_mem_cons.mpr ⟨lw_p29, List.forall_mem_cons.mpr ⟨lw_p30, List.forall_mem_cons.mpr ⟨lw_p31, fun _ h => absurd h List.not_mem_nil⟩⟩⟩⟩⟩⟩⟩⟩⟩⟩⟩⟩⟩⟩⟩⟩
theorem lw_p32 : lw_okq (⟨"LinkRouterModel", "goes", "()I"⟩, 48) := ⟨⟨by decide +kernel, by decide +kernel⟩, List.mem_of_getElem? (i := 698) (by decide +kernel), List.mem_of_getElem? (i := 920) (by decide +kernel), List.mem_of_getElem? (i := 921) (by decide +kernel)⟩
theorem lw_p33 : lw_okq (⟨"LinkRouterModel", "arrives", "(I)V"⟩, 48) := ⟨⟨by decide +kernel, by decide +kernel⟩, List.mem_of_getElem? (i := 698) (by decide +kernel), List.mem_of_getElem? (i := 924) (by decide +kernel), List.mem_of_getElem? (i := 925) (by decide +kernel)⟩
theorem lw_p34 : lw_okq (⟨"LinkRouterModel", "grows", "()V"⟩, 48) := ⟨⟨by decide +kernel, by decide +kernel⟩, List.mem_of_getElem? (i := 698) (by decide +kernel), List.mem_of_getElem? (i := 929) (by decide +kernel), List.mem_of_getElem? (i := 930) (by decide +kernel)⟩
theorem lw_p35 : lw_okq (⟨"LinkRouterModel", "tells", "(II)V"⟩, 48) := ⟨⟨by decide +kernel, by decide +kernel⟩, List.mem_of_getElem? (i := 698) (by decide +kernel), List.mem_of_getElem? (i := 933) (by decide +kernel), List.mem_of_getElem? (i := 934) (by decide +kernel)⟩
theorem lw_p36 : lw_okq (⟨"LinkRouterModel", "sumOf", "(III)I"⟩, 48) := ⟨⟨by decide +kernel, by decide +kernel⟩, List.mem_of_getElem? (i := 698) (by decide +kernel), List.mem_of_getElem? (i := 937) (by decide +kernel), List.mem_of_getElem? (i := 938) (by decide +kernel)⟩
theorem lw_p37 : lw_okq (⟨"LinkRouterModel", "tellWithin", "(II)V"⟩, 48) := ⟨⟨by decide +kernel, by decide +kernel⟩, List.mem_of_getElem? (i := 698) (by decide +kernel), List.mem_of_getElem? (i := 941) (by decide +kernel), List.mem_of_getElem? (i := 942) (by decide +kernel)⟩
theorem lw_p38 : lw_okq (⟨"LinkRouterModel", "otherEnd", "(II)I"⟩, 48) := ⟨⟨by decide +kernel, by decide +kernel⟩, List.mem_of_getElem? (i := 698) (by decide +kernel), List.mem_of_getElem? (i := 945) (by decide +kernel), List.mem_of_getElem? (i := 946) (by decide +kernel)⟩
theorem lw_p39 : lw_okq (⟨"LinkRouterModel", "edge", "(IIII)I"⟩, 48) := ⟨⟨by decide +kernel, by decide +kernel⟩, List.mem_of_getElem? (i := 698) (by decide +kernel), List.mem_of_getElem? (i := 949) (by decide +kernel), List.mem_of_getElem? (i := 950) (by decide +kernel)⟩
theorem lw_p40 : lw_okq (⟨"LinkRouterModel", "isNext", "(III)Z"⟩, 48) := ⟨⟨by decide +kernel, by decide +kernel⟩, List.mem_of_getElem? (i := 698) (by decide +kernel), List.mem_of_getElem? (i := 953) (by decide +kernel), List.mem_of_getElem? (i := 954) (by decide +kernel)⟩
theorem lw_p41 : lw_okq (⟨"LinkRouterModel", "handsOn", "(III)V"⟩, 48) := ⟨⟨by decide +kernel, by decide +kernel⟩, List.mem_of_getElem? (i := 698) (by decide +kernel), List.mem_of_getElem? (i := 957) (by decide +kernel), List.mem_of_getElem? (i := 958) (by decide +kernel)⟩
theorem lw_p42 : lw_okq (⟨"LinkRouterModel", "noRoute", "()V"⟩, 48) := ⟨⟨by decide +kernel, by decide +kernel⟩, List.mem_of_getElem? (i := 698) (by decide +kernel), List.mem_of_getElem? (i := 962) (by decide +kernel), List.mem_of_getElem? (i := 963) (by decide +kernel)⟩
theorem lw_p43 : lw_okq (⟨"LinkRouterModel", "across", "(III)V"⟩, 48) := ⟨⟨by decide +kernel, by decide +kernel⟩, List.mem_of_getElem? (i := 698) (by decide +kernel), List.mem_of_getElem? (i := 966) (by decide +kernel), List.mem_of_getElem? (i := 967) (by decide +kernel)⟩
theorem lw_p44 : lw_okq (⟨"LinkRouterModel", "isOther", "(I)Z"⟩, 48) := ⟨⟨by decide +kernel, by decide +kernel⟩, List.mem_of_getElem? (i := 698) (by decide +kernel), List.mem_of_getElem? (i := 970) (by decide +kernel), List.mem_of_getElem? (i := 971) (by decide +kernel)⟩
theorem lw_p45 : lw_okq (⟨"LinkRouterModel", "sends", "(III)V"⟩, 48) := ⟨⟨by decide +kernel, by decide +kernel⟩, List.mem_of_getElem? (i := 698) (by decide +kernel), List.mem_of_getElem? (i := 974) (by decide +kernel), List.mem_of_getElem? (i := 975) (by decide +kernel)⟩
theorem lw_p46 : lw_okq (⟨"LinkRouterModel", "linksTold", "(I)I"⟩, 48) := ⟨⟨by decide +kernel, by decide +kernel⟩, List.mem_of_getElem? (i := 698) (by decide +kernel), List.mem_of_getElem? (i := 986) (by decide +kernel), List.mem_of_getElem? (i := 987) (by decide +kernel)⟩
theorem lw_p47 : lw_okq (⟨"LinkRouterModel", "tellRoute", "(II)V"⟩, 48) := ⟨⟨by decide +kernel, by decide +kernel⟩, List.mem_of_getElem? (i := 698) (by decide +kernel), List.mem_of_getElem? (i := 1002) (by decide +kernel), List.mem_of_getElem? (i := 1003) (by decide +kernel)⟩
def lw_privs_3 : List (MethodName × Nat) := [(⟨"LinkRouterModel", "goes", "()I"⟩, 48), (⟨"LinkRouterModel", "arrives", "(I)V"⟩, 48), (⟨"LinkRouterModel", "grows", "()V"⟩, 48), (⟨"LinkRouterModel", "tells", "(II)V"⟩, 48), (⟨"LinkRouterModel", "sumOf", "(III)I"⟩, 48), (⟨"LinkRouterModel", "tellWithin", "(II)V"⟩, 48), (⟨"LinkRouterModel", "otherEnd", "(II)I"⟩, 48), (⟨"LinkRouterModel", "edge", "(IIII)I"⟩, 48), (⟨"LinkRouterModel", "isNext", "(III)Z"⟩, 48), (⟨"LinkRouterModel", "handsOn", "(III)V"⟩, 48), (⟨"LinkRouterModel", "noRoute", "()V"⟩, 48), (⟨"LinkRouterModel", "across", "(III)V"⟩, 48), (⟨"LinkRouterModel", "isOther", "(I)Z"⟩, 48), (⟨"LinkRouterModel", "sends", "(III)V"⟩, 48), (⟨"LinkRouterModel", "linksTold", "(I)I"⟩, 48), (⟨"LinkRouterModel", "tellRoute", "(II)V"⟩, 48)]
theorem lw_r3 : ∀ q ∈ lw_privs_3, lw_okq q := List.forall_mem_cons.mpr ⟨lw_p32, List.forall_mem_cons.mpr ⟨lw_p33, List.forall_mem_cons.mpr ⟨lw_p34, List.forall_mem_cons.mpr ⟨lw_p35, List.forall_mem_cons.mpr ⟨lw_p36, List.forall_mem_cons.mpr ⟨lw_p37, List.forall_mem_cons.mpr ⟨lw_p38, List.forall_mem_cons.mpr ⟨lw_p39, List.forall_mem_cons.mpr ⟨lw_p40, List.forall_mem_cons.mpr ⟨lw_p41, List.forall_mem_cons.mpr ⟨lw_p42, List.forall_mem_cons.mpr ⟨lw_p43, List.forall_mem_cons.mpr ⟨lw_p44, List.forall_mem_cons.mpr ⟨lw_p45, List.forall_mem_cons.mpr ⟨lw_p46, List.forall_mem_cons.mpr ⟨lw_p47, fun _ h => absurd h List.not_mem_nil⟩⟩⟩⟩⟩⟩⟩⟩⟩⟩⟩⟩⟩⟩⟩⟩
theorem lw_p48 : lw_okq (⟨"LinkRouterModel", "inside", "(II)V"⟩, 48) := ⟨⟨by decide +kernel, by decide +kernel⟩, List.mem_of_getElem? (i := 698) (by decide +kernel), List.mem_of_getElem? (i := 1006) (by decide +kernel), List.mem_of_getElem? (i := 1007) (by decide +kernel)⟩
theorem lw_p49 : lw_okq (⟨"LinkRouterModel", "overLink", "(III)I"⟩, 48) := ⟨⟨by decide +kernel, by decide +kernel⟩, List.mem_of_getElem? (i := 698) (by decide +kernel), List.mem_of_getElem? (i := 1014) (by decide +kernel), List.mem_of_getElem? (i := 1015) (by decide +kernel)⟩
theorem lw_p50 : lw_okq (⟨"LinkRouterModel", "trulyWithout", "(III)I"⟩, 48) := ⟨⟨by decide +kernel, by decide +kernel⟩, List.mem_of_getElem? (i := 698) (by decide +kernel), List.mem_of_getElem? (i := 1022) (by decide +kernel), List.mem_of_getElem? (i := 1023) (by decide +kernel)⟩
theorem lw_p51 : lw_okq (⟨"LinkRouterModel", "keep", "(I)V"⟩, 48) := ⟨⟨by decide +kernel, by decide +kernel⟩, List.mem_of_getElem? (i := 698) (by decide +kernel), List.mem_of_getElem? (i := 1034) (by decide +kernel), List.mem_of_getElem? (i := 1035) (by decide +kernel)⟩
theorem lw_p52 : lw_okq (⟨"LinkRouterModel", "linkRow", "(I)[I"⟩, 48) := ⟨⟨by decide +kernel, by decide +kernel⟩, List.mem_of_getElem? (i := 698) (by decide +kernel), List.mem_of_getElem? (i := 1038) (by decide +kernel), List.mem_of_getElem? (i := 1039) (by decide +kernel)⟩
theorem lw_p53 : lw_okq (⟨"LinkRouterModel", "knownRow", "(I)[I"⟩, 48) := ⟨⟨by decide +kernel, by decide +kernel⟩, List.mem_of_getElem? (i := 698) (by decide +kernel), List.mem_of_getElem? (i := 1042) (by decide +kernel), List.mem_of_getElem? (i := 1043) (by decide +kernel)⟩
theorem lw_p54 : lw_okq (⟨"LinkRouterModel", "waitingRow", "(I)[I"⟩, 48) := ⟨⟨by decide +kernel, by decide +kernel⟩, List.mem_of_getElem? (i := 698) (by decide +kernel), List.mem_of_getElem? (i := 1046) (by decide +kernel), List.mem_of_getElem? (i := 1047) (by decide +kernel)⟩
theorem lw_p55 : lw_okq (⟨"LinkRouterModel", "layBack", "(I)V"⟩, 48) := ⟨⟨by decide +kernel, by decide +kernel⟩, List.mem_of_getElem? (i := 698) (by decide +kernel), List.mem_of_getElem? (i := 1050) (by decide +kernel), List.mem_of_getElem? (i := 1051) (by decide +kernel)⟩
theorem lw_p56 : lw_okq (⟨"LinkRouterModel", "goesLong", "()V"⟩, 48) := ⟨⟨by decide +kernel, by decide +kernel⟩, List.mem_of_getElem? (i := 698) (by decide +kernel), List.mem_of_getElem? (i := 1058) (by decide +kernel), List.mem_of_getElem? (i := 1059) (by decide +kernel)⟩
theorem lw_p57 : lw_okq (⟨"LinkRouterModel", "costNow", "(II)I"⟩, 48) := ⟨⟨by decide +kernel, by decide +kernel⟩, List.mem_of_getElem? (i := 698) (by decide +kernel), List.mem_of_getElem? (i := 1062) (by decide +kernel), List.mem_of_getElem? (i := 1063) (by decide +kernel)⟩
theorem lw_p58 : lw_okq (⟨"LinkRouterModel", "byLot", "(II)V"⟩, 48) := ⟨⟨by decide +kernel, by decide +kernel⟩, List.mem_of_getElem? (i := 698) (by decide +kernel), List.mem_of_getElem? (i := 1070) (by decide +kernel), List.mem_of_getElem? (i := 1071) (by decide +kernel)⟩
theorem lw_p59 : lw_okq (⟨"LinkRouterModel", "otherwise", "(II)I"⟩, 48) := ⟨⟨by decide +kernel, by decide +kernel⟩, List.mem_of_getElem? (i := 698) (by decide +kernel), List.mem_of_getElem? (i := 1089) (by decide +kernel), List.mem_of_getElem? (i := 1090) (by decide +kernel)⟩
theorem lw_p60 : lw_okq (⟨"LinkRouterModel", "linksBy", "(II)I"⟩, 48) := ⟨⟨by decide +kernel, by decide +kernel⟩, List.mem_of_getElem? (i := 698) (by decide +kernel), List.mem_of_getElem? (i := 1093) (by decide +kernel), List.mem_of_getElem? (i := 1094) (by decide +kernel)⟩
theorem lw_p61 : lw_okq (⟨"LinkRouterModel", "costsBy", "(IIIZ)I"⟩, 48) := ⟨⟨by decide +kernel, by decide +kernel⟩, List.mem_of_getElem? (i := 698) (by decide +kernel), List.mem_of_getElem? (i := 1097) (by decide +kernel), List.mem_of_getElem? (i := 1098) (by decide +kernel)⟩
def lw_privs_4 : List (MethodName × Nat) := [(⟨"LinkRouterModel", "inside", "(II)V"⟩, 48), (⟨"LinkRouterModel", "overLink", "(III)I"⟩, 48), (⟨"LinkRouterModel", "trulyWithout", "(III)I"⟩, 48), (⟨"LinkRouterModel", "keep", "(I)V"⟩, 48), (⟨"LinkRouterModel", "linkRow", "(I)[I"⟩, 48), (⟨"LinkRouterModel", "knownRow", "(I)[I"⟩, 48), (⟨"LinkRouterModel", "waitingRow", "(I)[I"⟩, 48), (⟨"LinkRouterModel", "layBack", "(I)V"⟩, 48), (⟨"LinkRouterModel", "goesLong", "()V"⟩, 48), (⟨"LinkRouterModel", "costNow", "(II)I"⟩, 48), (⟨"LinkRouterModel", "byLot", "(II)V"⟩, 48), (⟨"LinkRouterModel", "otherwise", "(II)I"⟩, 48), (⟨"LinkRouterModel", "linksBy", "(II)I"⟩, 48), (⟨"LinkRouterModel", "costsBy", "(IIIZ)I"⟩, 48)]
theorem lw_r4 : ∀ q ∈ lw_privs_4, lw_okq q := List.forall_mem_cons.mpr ⟨lw_p48, List.forall_mem_cons.mpr ⟨lw_p49, List.forall_mem_cons.mpr ⟨lw_p50, List.forall_mem_cons.mpr ⟨lw_p51, List.forall_mem_cons.mpr ⟨lw_p52, List.forall_mem_cons.mpr ⟨lw_p53, List.forall_mem_cons.mpr ⟨lw_p54, List.forall_mem_cons.mpr ⟨lw_p55, List.forall_mem_cons.mpr ⟨lw_p56, List.forall_mem_cons.mpr ⟨lw_p57, List.forall_mem_cons.mpr ⟨lw_p58, List.forall_mem_cons.mpr ⟨lw_p59, List.forall_mem_cons.mpr ⟨lw_p60, List.forall_mem_cons.mpr ⟨lw_p61, fun _ h => absurd h List.not_mem_nil⟩⟩⟩⟩⟩⟩⟩⟩⟩⟩⟩⟩⟩⟩
def lw_privs : List (MethodName × Nat) := lw_privs_1 ++ (lw_privs_2 ++ (lw_privs_3 ++ (lw_privs_4)))
def lw_tbl : List Cond := k2_sels lw_privs ++ tables_1
theorem lw_privs_ok : ∀ q ∈ lw_privs, lw_okq q := by
  show ∀ q ∈ lw_privs_1 ++ (lw_privs_2 ++ (lw_privs_3 ++ (lw_privs_4))), lw_okq q
  exact List.forall_mem_append.mpr ⟨lw_r1, List.forall_mem_append.mpr ⟨lw_r2, List.forall_mem_append.mpr ⟨lw_r3, lw_r4⟩⟩⟩
def lw_gd : List Cond := lw_tbl.filter goodWord
theorem lw_gd_in {w : Cond} (h : w ∈ lw_tbl) (hg : goodWord w = true) : w ∈ lw_gd := List.mem_filter.mpr ⟨h, hg⟩
theorem lw_gd_ok {w : Cond} (h : w ∈ lw_gd) : w ∈ lw_tbl ∧ goodWord w = true := List.mem_filter.mp h
def lw_isN (w : Cond) : Bool := match w with | .methodLinkNest _ _ _ _ => true | _ => false
def lw_nest : List Cond := lw_tbl.filter lw_isN
end
section
def RX0 : String := "LinkRouter$Adverts"
def TX0 : u_T := fun k => match k with
  | 0 => ("LinkRouter$Adverts", "number", "[I", true)
  | 1 => ("LinkRouter$Adverts", "age", "[I", true)
  | 2 => ("LinkRouter$Adverts", "links", "[I", true)
  | 3 => ("LinkRouter$Adverts", "costs", "[I", true)
  | _ => ("LinkRouter$Adverts", "sums", "[I", true)
def tyX0 : Nat → FieldType := fun k => match k with
  | 0 => .array .int
  | 1 => .array .int
  | 2 => .array .int
  | 3 => .array .int
  | _ => .array .int
abbrev wsX00 : List Cond := u_ws RX0 TX0 5
theorem nmX0 : ∀ a, a < 5 → ∀ b, b < 5 → a ≠ b → (TX0 a).2.1 ≠ (TX0 b).2.1 := by decide +kernel
theorem tyX0_ok : ∀ k, k < 5 → parseFieldDescriptor (TX0 k).2.2.1 = some (tyX0 k) := by decide +kernel
abbrev cX0_init : ByteArray := prog_2_method_1_code
def yX0_init : MethodName := ⟨RX0, "<init>", "(I)V"⟩
abbrev cX0_takeRow : ByteArray := prog_2_method_2_code
def yX0_takeRow : MethodName := ⟨RX0, "takeRow", "(ILLinkRouter$Adverts;I)V"⟩
abbrev cX0_takeRows : ByteArray := prog_2_method_3_code
def yX0_takeRows : MethodName := ⟨RX0, "takeRows", "(LLinkRouter$Adverts;I)V"⟩
abbrev cX0_forget : ByteArray := prog_2_method_4_code
def yX0_forget : MethodName := ⟨RX0, "forget", "(I)V"⟩
abbrev cX0_tellsLink : ByteArray := prog_2_method_5_code
def yX0_tellsLink : MethodName := ⟨RX0, "tellsLink", "(II)Z"⟩
abbrev cX0_tellsAs : ByteArray := prog_2_method_6_code
def yX0_tellsAs : MethodName := ⟨RX0, "tellsAs", "(ILLinkRouter$Adverts;I)Z"⟩
def RX1 : String := "LinkRouter$Links"
def TX1 : u_T := fun k => match k with
  | 0 => ("LinkRouter$Links", "size", "I", false)
  | 1 => ("LinkRouter$Links", "one", "[I", true)
  | 2 => ("LinkRouter$Links", "two", "[I", true)
  | 3 => ("LinkRouter$Links", "area", "[I", true)
  | 4 => ("LinkRouter$Links", "from", "[I", true)
  | 5 => ("LinkRouter$Links", "back", "[I", true)
  | 6 => ("LinkRouter$Links", "up", "[Z", true)
  | _ => ("LinkRouter$Links", "least", "[I", true)
def tyX1 : Nat → FieldType := fun k => match k with
  | 0 => .int
  | 1 => .array .int
  | 2 => .array .int
  | 3 => .array .int
  | 4 => .array .int
  | 5 => .array .int
  | 6 => .array .boolean
  | _ => .array .int
abbrev wsX10 : List Cond := u_ws RX1 TX1 8
theorem nmX1 : ∀ a, a < 8 → ∀ b, b < 8 → a ≠ b → (TX1 a).2.1 ≠ (TX1 b).2.1 := by decide +kernel
theorem tyX1_ok : ∀ k, k < 8 → parseFieldDescriptor (TX1 k).2.2.1 = some (tyX1 k) := by decide +kernel
abbrev cX1_init : ByteArray := prog_3_method_1_code
def yX1_init : MethodName := ⟨RX1, "<init>", "()V"⟩
abbrev cX1_has : ByteArray := prog_3_method_2_code
def yX1_has : MethodName := ⟨RX1, "has", "(I)Z"⟩
abbrev cX1_add : ByteArray := prog_3_method_3_code
def yX1_add : MethodName := ⟨RX1, "add", "(IIIII)I"⟩
abbrev cX1_takeOver : ByteArray := prog_3_method_4_code
def yX1_takeOver : MethodName := ⟨RX1, "takeOver", "(LLinkRouter$Links;)V"⟩
abbrev cX1_isUpAt : ByteArray := prog_3_method_5_code
def yX1_isUpAt : MethodName := ⟨RX1, "isUpAt", "(II)Z"⟩
abbrev cX1_otherEnd : ByteArray := prog_3_method_6_code
def yX1_otherEnd : MethodName := ⟨RX1, "otherEnd", "(II)I"⟩
abbrev cX1_costFrom : ByteArray := prog_3_method_7_code
def yX1_costFrom : MethodName := ⟨RX1, "costFrom", "(II)I"⟩
abbrev cX1_areasOf : ByteArray := prog_3_method_8_code
def yX1_areasOf : MethodName := ⟨RX1, "areasOf", "(I)I"⟩
abbrev cX1_upOf : ByteArray := prog_3_method_9_code
def yX1_upOf : MethodName := ⟨RX1, "upOf", "(I)I"⟩
abbrev cX1_upInAll : ByteArray := prog_3_method_10_code
def yX1_upInAll : MethodName := ⟨RX1, "upInAll", "()I"⟩
abbrev cX1_cheapest : ByteArray := prog_3_method_11_code
def yX1_cheapest : MethodName := ⟨RX1, "cheapest", "(III)I"⟩
abbrev cX1_leastCost : ByteArray := prog_3_method_12_code
def yX1_leastCost : MethodName := ⟨RX1, "leastCost", "(III)I"⟩
abbrev cX1_joinedTo : ByteArray := prog_3_method_13_code
def yX1_joinedTo : MethodName := ⟨RX1, "joinedTo", "(I)I"⟩
abbrev cX1_spread : ByteArray := prog_3_method_14_code
def yX1_spread : MethodName := ⟨RX1, "spread", "(II)V"⟩
def RX2 : String := "LinkRouter$Net"
def TX2 : u_T := fun k => match k with
  | 0 => ("LinkRouter$Net", "links", "LLinkRouter$Links;", true)
  | 1 => ("LinkRouter$Net", "known", "LLinkRouter$Adverts;", true)
  | 2 => ("LinkRouter$Net", "sent", "LLinkRouter$Adverts;", true)
  | 3 => ("LinkRouter$Net", "sentOver", "[I", true)
  | 4 => ("LinkRouter$Net", "sentTo", "[I", true)
  | 5 => ("LinkRouter$Net", "sentOf", "[I", true)
  | 6 => ("LinkRouter$Net", "waiting", "I", false)
  | 7 => ("LinkRouter$Net", "ticks", "I", false)
  | 8 => ("LinkRouter$Net", "messages", "I", false)
  | 9 => ("LinkRouter$Net", "fresh", "[Z", true)
  | 10 => ("LinkRouter$Net", "comeBy", "[I", true)
  | 11 => ("LinkRouter$Net", "draft", "LLinkRouter$Adverts;", true)
  | _ => ("LinkRouter$Net", "paths", "LLinkRouter$Paths;", true)
def tyX2 : Nat → FieldType := fun k => match k with
  | 0 => .object "LinkRouter$Links"
  | 1 => .object "LinkRouter$Adverts"
  | 2 => .object "LinkRouter$Adverts"
  | 3 => .array .int
  | 4 => .array .int
  | 5 => .array .int
  | 6 => .int
  | 7 => .int
  | 8 => .int
  | 9 => .array .boolean
  | 10 => .array .int
  | 11 => .object "LinkRouter$Adverts"
  | _ => .object "LinkRouter$Paths"
abbrev wsX20 : List Cond := u_ws RX2 TX2 13
theorem nmX2 : ∀ a, a < 13 → ∀ b, b < 13 → a ≠ b → (TX2 a).2.1 ≠ (TX2 b).2.1 := by decide +kernel
theorem tyX2_ok : ∀ k, k < 13 → parseFieldDescriptor (TX2 k).2.2.1 = some (tyX2 k) := by decide +kernel
abbrev cX2_init : ByteArray := prog_4_method_1_code
def yX2_init : MethodName := ⟨RX2, "<init>", "()V"⟩
abbrev cX2_takeOver : ByteArray := prog_4_method_2_code
def yX2_takeOver : MethodName := ⟨RX2, "takeOver", "(LLinkRouter$Net;)V"⟩
abbrev cX2_advance : ByteArray := prog_4_method_3_code
def yX2_advance : MethodName := ⟨RX2, "advance", "(I)I"⟩
abbrev cX2_advanceTillQuiet : ByteArray := prog_4_method_4_code
def yX2_advanceTillQuiet : MethodName := ⟨RX2, "advanceTillQuiet", "()I"⟩
abbrev cX2_arrive : ByteArray := prog_4_method_5_code
def yX2_arrive : MethodName := ⟨RX2, "arrive", "()V"⟩
abbrev cX2_take : ByteArray := prog_4_method_6_code
def yX2_take : MethodName := ⟨RX2, "take", "(I)V"⟩
abbrev cX2_growOlder : ByteArray := prog_4_method_7_code
def yX2_growOlder : MethodName := ⟨RX2, "growOlder", "()V"⟩
abbrev cX2_isOwn : ByteArray := prog_4_method_8_code
def yX2_isOwn : MethodName := ⟨RX2, "isOwn", "(I)Z"⟩
abbrev cX2_tellAnew : ByteArray := prog_4_method_9_code
def yX2_tellAnew : MethodName := ⟨RX2, "tellAnew", "()V"⟩
abbrev cX2_draftLinks : ByteArray := prog_4_method_10_code
def yX2_draftLinks : MethodName := ⟨RX2, "draftLinks", "(II)V"⟩
abbrev cX2_draftSums : ByteArray := prog_4_method_11_code
def yX2_draftSums : MethodName := ⟨RX2, "draftSums", "(III)V"⟩
abbrev cX2_sumUpAcross : ByteArray := prog_4_method_12_code
def yX2_sumUpAcross : MethodName := ⟨RX2, "sumUpAcross", "(I)V"⟩
abbrev cX2_tellDraft : ByteArray := prog_4_method_13_code
def yX2_tellDraft : MethodName := ⟨RX2, "tellDraft", "(I)V"⟩
abbrev cX2_teller : ByteArray := prog_4_method_14_code
def yX2_teller : MethodName := ⟨RX2, "teller", "(LLinkRouter$Paths;III)I"⟩
abbrev cX2_costBy : ByteArray := prog_4_method_15_code
def yX2_costBy : MethodName := ⟨RX2, "costBy", "(LLinkRouter$Paths;II)I"⟩
abbrev cX2_sendOn : ByteArray := prog_4_method_16_code
def yX2_sendOn : MethodName := ⟨RX2, "sendOn", "()V"⟩
abbrev cX2_sendRow : ByteArray := prog_4_method_17_code
def yX2_sendRow : MethodName := ⟨RX2, "sendRow", "(I)V"⟩
abbrev cX2_knownTo : ByteArray := prog_4_method_18_code
def yX2_knownTo : MethodName := ⟨RX2, "knownTo", "(I)I"⟩
abbrev cX2_knownToAll : ByteArray := prog_4_method_19_code
def yX2_knownToAll : MethodName := ⟨RX2, "knownToAll", "()I"⟩
abbrev cX2_staleTo : ByteArray := prog_4_method_20_code
def yX2_staleTo : MethodName := ⟨RX2, "staleTo", "(I)I"⟩
abbrev cX2_staleToAll : ByteArray := prog_4_method_21_code
def yX2_staleToAll : MethodName := ⟨RX2, "staleToAll", "()I"⟩
abbrev cX2_isStale : ByteArray := prog_4_method_22_code
def yX2_isStale : MethodName := ⟨RX2, "isStale", "(I)Z"⟩
def RX3 : String := "LinkRouter$Paths"
def TX3 : u_T := fun k => match k with
  | 0 => ("LinkRouter$Paths", "distance", "[I", true)
  | 1 => ("LinkRouter$Paths", "hop", "[I", true)
  | _ => ("LinkRouter$Paths", "isDone", "[Z", true)
def tyX3 : Nat → FieldType := fun k => match k with
  | 0 => .array .int
  | 1 => .array .int
  | _ => .array .boolean
abbrev wsX30 : List Cond := u_ws RX3 TX3 3
theorem nmX3 : ∀ a, a < 3 → ∀ b, b < 3 → a ≠ b → (TX3 a).2.1 ≠ (TX3 b).2.1 := by decide +kernel
theorem tyX3_ok : ∀ k, k < 3 → parseFieldDescriptor (TX3 k).2.2.1 = some (tyX3 k) := by decide +kernel
abbrev cX3_init : ByteArray := prog_5_method_1_code
def yX3_init : MethodName := ⟨RX3, "<init>", "()V"⟩
abbrev cX3_measure : ByteArray := prog_5_method_2_code
def yX3_measure : MethodName := ⟨RX3, "measure", "(LLinkRouter$Net;II)V"⟩
abbrev cX3_nearest : ByteArray := prog_5_method_3_code
def yX3_nearest : MethodName := ⟨RX3, "nearest", "()I"⟩
abbrev cX3_goOn : ByteArray := prog_5_method_4_code
def yX3_goOn : MethodName := ⟨RX3, "goOn", "(LLinkRouter$Net;III)V"⟩
def RX4 : String := "LinkRouter$Routes"
def TX4 : u_T := fun k => match k with
  | 0 => ("LinkRouter$Routes", "cost", "[I", true)
  | 1 => ("LinkRouter$Routes", "hop", "[I", true)
  | 2 => ("LinkRouter$Routes", "area", "[I", true)
  | 3 => ("LinkRouter$Routes", "by", "[I", true)
  | _ => ("LinkRouter$Routes", "paths", "[LLinkRouter$Paths;", true)
def tyX4 : Nat → FieldType := fun k => match k with
  | 0 => .array .int
  | 1 => .array .int
  | 2 => .array .int
  | 3 => .array .int
  | _ => .array (.object "LinkRouter$Paths")
abbrev wsX40 : List Cond := u_ws RX4 TX4 5
theorem nmX4 : ∀ a, a < 5 → ∀ b, b < 5 → a ≠ b → (TX4 a).2.1 ≠ (TX4 b).2.1 := by decide +kernel
theorem tyX4_ok : ∀ k, k < 5 → parseFieldDescriptor (TX4 k).2.2.1 = some (tyX4 k) := by decide +kernel
abbrev cX4_init : ByteArray := prog_6_method_1_code
def yX4_init : MethodName := ⟨RX4, "<init>", "()V"⟩
abbrev cX4_find : ByteArray := prog_6_method_2_code
def yX4_find : MethodName := ⟨RX4, "find", "(LLinkRouter$Net;I)V"⟩
abbrev cX4_findInside : ByteArray := prog_6_method_3_code
def yX4_findInside : MethodName := ⟨RX4, "findInside", "(II)V"⟩
abbrev cX4_findAcross : ByteArray := prog_6_method_4_code
def yX4_findAcross : MethodName := ⟨RX4, "findAcross", "(LLinkRouter$Net;III)V"⟩
abbrev cX4_take : ByteArray := prog_6_method_5_code
def yX4_take : MethodName := ⟨RX4, "take", "(IIII)V"⟩
def RX5 : String := "LinkRouter$Sheets"
def TX5 : u_T := fun k => match k with
  | 0 => ("LinkRouter$Sheets", "sort", "[I", true)
  | 1 => ("LinkRouter$Sheets", "size", "[I", true)
  | _ => ("LinkRouter$Sheets", "items", "[[I", true)
def tyX5 : Nat → FieldType := fun k => match k with
  | 0 => .array .int
  | 1 => .array .int
  | _ => .array (.array .int)
abbrev wsX50 : List Cond := u_ws RX5 TX5 3
theorem nmX5 : ∀ a, a < 3 → ∀ b, b < 3 → a ≠ b → (TX5 a).2.1 ≠ (TX5 b).2.1 := by decide +kernel
theorem tyX5_ok : ∀ k, k < 3 → parseFieldDescriptor (TX5 k).2.2.1 = some (tyX5 k) := by decide +kernel
abbrev cX5_init : ByteArray := prog_7_method_1_code
def yX5_init : MethodName := ⟨RX5, "<init>", "()V"⟩
abbrev cX5_has : ByteArray := prog_7_method_2_code
def yX5_has : MethodName := ⟨RX5, "has", "(I)Z"⟩
abbrev cX5_isMissing : ByteArray := prog_7_method_3_code
def yX5_isMissing : MethodName := ⟨RX5, "isMissing", "(I)Z"⟩
abbrev cX5_holds : ByteArray := prog_7_method_4_code
def yX5_holds : MethodName := ⟨RX5, "holds", "(III)Z"⟩
abbrev cX5_become : ByteArray := prog_7_method_5_code
def yX5_become : MethodName := ⟨RX5, "become", "(III)V"⟩
abbrev cX5_put : ByteArray := prog_7_method_6_code
def yX5_put : MethodName := ⟨RX5, "put", "(III)V"⟩
def RX6 : String := "LinkRouter$Trip"
def TX6 : u_T := fun k => match k with
  | 0 => ("LinkRouter$Trip", "end", "I", false)
  | 1 => ("LinkRouter$Trip", "hops", "I", false)
  | 2 => ("LinkRouter$Trip", "cost", "I", false)
  | _ => ("LinkRouter$Trip", "behind", "[I", true)
def tyX6 : Nat → FieldType := fun k => match k with
  | 0 => .int
  | 1 => .int
  | 2 => .int
  | _ => .array .int
abbrev wsX60 : List Cond := u_ws RX6 TX6 4
theorem nmX6 : ∀ a, a < 4 → ∀ b, b < 4 → a ≠ b → (TX6 a).2.1 ≠ (TX6 b).2.1 := by decide +kernel
theorem tyX6_ok : ∀ k, k < 4 → parseFieldDescriptor (TX6 k).2.2.1 = some (tyX6 k) := by decide +kernel
abbrev cX6_init : ByteArray := prog_8_method_1_code
def yX6_init : MethodName := ⟨RX6, "<init>", "()V"⟩
abbrev cX6_go : ByteArray := prog_8_method_2_code
def yX6_go : MethodName := ⟨RX6, "go", "(LLinkRouter$Net;LLinkRouter$Routes;II)V"⟩
def RX7 : String := "LinkRouter"
def TX7 : u_T := fun k => match k with
  | 0 => ("LinkRouter", "live", "LLinkRouter$Net;", true)
  | 1 => ("LinkRouter", "thought", "LLinkRouter$Net;", true)
  | 2 => ("LinkRouter", "kept", "LLinkRouter$Net;", true)
  | 3 => ("LinkRouter", "isKept", "Z", false)
  | 4 => ("LinkRouter", "routes", "LLinkRouter$Routes;", true)
  | 5 => ("LinkRouter", "trip", "LLinkRouter$Trip;", true)
  | _ => ("LinkRouter", "sheets", "LLinkRouter$Sheets;", true)
def tyX7 : Nat → FieldType := fun k => match k with
  | 0 => .object "LinkRouter$Net"
  | 1 => .object "LinkRouter$Net"
  | 2 => .object "LinkRouter$Net"
  | 3 => .boolean
  | 4 => .object "LinkRouter$Routes"
  | 5 => .object "LinkRouter$Trip"
  | _ => .object "LinkRouter$Sheets"
abbrev wsX70 : List Cond := u_ws RX7 TX7 7
theorem nmX7 : ∀ a, a < 7 → ∀ b, b < 7 → a ≠ b → (TX7 a).2.1 ≠ (TX7 b).2.1 := by decide +kernel
theorem tyX7_ok : ∀ k, k < 7 → parseFieldDescriptor (TX7 k).2.2.1 = some (tyX7 k) := by decide +kernel
abbrev cX7_init : ByteArray := prog_1_method_1_code
def yX7_init : MethodName := ⟨RX7, "<init>", "()V"⟩
abbrev cX7_link : ByteArray := prog_1_method_2_code
def yX7_link : MethodName := ⟨RX7, "link", "(IIIII)I"⟩
abbrev cX7_set : ByteArray := prog_1_method_3_code
def yX7_set : MethodName := ⟨RX7, "set", "(II)I"⟩
abbrev cX7_cost : ByteArray := prog_1_method_4_code
def yX7_cost : MethodName := ⟨RX7, "cost", "(III)I"⟩
abbrev cX7_told : ByteArray := prog_1_method_5_code
def yX7_told : MethodName := ⟨RX7, "told", "(II)I"⟩
abbrev cX7_router : ByteArray := prog_1_method_6_code
def yX7_router : MethodName := ⟨RX7, "router", "(II)I"⟩
abbrev cX7_taken : ByteArray := prog_1_method_7_code
def yX7_taken : MethodName := ⟨RX7, "taken", "(II)I"⟩
abbrev cX7_tick : ByteArray := prog_1_method_8_code
def yX7_tick : MethodName := ⟨RX7, "tick", "()I"⟩
abbrev cX7_ticks : ByteArray := prog_1_method_9_code
def yX7_ticks : MethodName := ⟨RX7, "ticks", "(I)I"⟩
abbrev cX7_advert : ByteArray := prog_1_method_10_code
def yX7_advert : MethodName := ⟨RX7, "advert", "(IIII)I"⟩
abbrev cX7_message : ByteArray := prog_1_method_11_code
def yX7_message : MethodName := ⟨RX7, "message", "(II)I"⟩
abbrev cX7_within : ByteArray := prog_1_method_12_code
def yX7_within : MethodName := ⟨RX7, "within", "(IIII)I"⟩
abbrev cX7_route : ByteArray := prog_1_method_13_code
def yX7_route : MethodName := ⟨RX7, "route", "(III)I"⟩
abbrev cX7_packet : ByteArray := prog_1_method_14_code
def yX7_packet : MethodName := ⟨RX7, "packet", "(III)I"⟩
abbrev cX7_truly : ByteArray := prog_1_method_15_code
def yX7_truly : MethodName := ⟨RX7, "truly", "(II)I"⟩
abbrev cX7_cuts : ByteArray := prog_1_method_16_code
def yX7_cuts : MethodName := ⟨RX7, "cuts", "(II)I"⟩
abbrev cX7_settled : ByteArray := prog_1_method_17_code
def yX7_settled : MethodName := ⟨RX7, "settled", "(I)I"⟩
abbrev cX7_broken : ByteArray := prog_1_method_18_code
def yX7_broken : MethodName := ⟨RX7, "broken", "(III)I"⟩
abbrev cX7_drawn : ByteArray := prog_1_method_19_code
def yX7_drawn : MethodName := ⟨RX7, "drawn", "(II)I"⟩
abbrev cX7_chance : ByteArray := prog_1_method_20_code
def yX7_chance : MethodName := ⟨RX7, "chance", "(IIII)I"⟩
abbrev cX7_tells : ByteArray := prog_1_method_21_code
def yX7_tells : MethodName := ⟨RX7, "tells", "(III)I"⟩
abbrev cX7_film : ByteArray := prog_1_method_22_code
def yX7_film : MethodName := ⟨RX7, "film", "(II)I"⟩
abbrev cX7_image : ByteArray := prog_1_method_23_code
def yX7_image : MethodName := ⟨RX7, "image", "()I"⟩
abbrev cX7_back : ByteArray := prog_1_method_24_code
def yX7_back : MethodName := ⟨RX7, "back", "()I"⟩
abbrev cX7_count : ByteArray := prog_1_method_25_code
def yX7_count : MethodName := ⟨RX7, "count", "(I)I"⟩
abbrev cX7_sheet : ByteArray := prog_1_method_26_code
def yX7_sheet : MethodName := ⟨RX7, "sheet", "(III)I"⟩
abbrev cX7_cell : ByteArray := prog_1_method_27_code
def yX7_cell : MethodName := ⟨RX7, "cell", "(III)I"⟩
abbrev cX7_copy : ByteArray := prog_1_method_28_code
def yX7_copy : MethodName := ⟨RX7, "copy", "(IIIII)I"⟩
abbrev cX7_breakInThought : ByteArray := prog_1_method_29_code
def yX7_breakInThought : MethodName := ⟨RX7, "breakInThought", "(I)V"⟩
abbrev cX7_drawInThought : ByteArray := prog_1_method_30_code
def yX7_drawInThought : MethodName := ⟨RX7, "drawInThought", "(I)V"⟩
abbrev cX7_costInThought : ByteArray := prog_1_method_31_code
def yX7_costInThought : MethodName := ⟨RX7, "costInThought", "(II)V"⟩
abbrev cX7_reached : ByteArray := prog_1_method_32_code
def yX7_reached : MethodName := ⟨RX7, "reached", "(I)I"⟩
abbrev cX7_firstOtherwise : ByteArray := prog_1_method_33_code
def yX7_firstOtherwise : MethodName := ⟨RX7, "firstOtherwise", "(LLinkRouter$Net;II)I"⟩
abbrev cX7_routersToldSo : ByteArray := prog_1_method_34_code
def yX7_routersToldSo : MethodName := ⟨RX7, "routersToldSo", "(I)I"⟩
abbrev cX7_linksToldSo : ByteArray := prog_1_method_35_code
def yX7_linksToldSo : MethodName := ⟨RX7, "linksToldSo", "(II)I"⟩
abbrev cX7_costsToldSo : ByteArray := prog_1_method_36_code
def yX7_costsToldSo : MethodName := ⟨RX7, "costsToldSo", "(III)I"⟩
abbrev cX7_isRouter : ByteArray := prog_1_method_37_code
def yX7_isRouter : MethodName := ⟨RX7, "isRouter", "(I)Z"⟩
abbrev cX7_isArea : ByteArray := prog_1_method_38_code
def yX7_isArea : MethodName := ⟨RX7, "isArea", "(I)Z"⟩
abbrev cX7_isCost : ByteArray := prog_1_method_39_code
def yX7_isCost : MethodName := ⟨RX7, "isCost", "(I)Z"⟩
abbrev cX7_isOfAdvert : ByteArray := prog_1_method_40_code
def yX7_isOfAdvert : MethodName := ⟨RX7, "isOfAdvert", "(I)Z"⟩
abbrev cX7_isOfTold : ByteArray := prog_1_method_41_code
def yX7_isOfTold : MethodName := ⟨RX7, "isOfTold", "(I)Z"⟩
abbrev cX7_isBorder : ByteArray := prog_1_method_42_code
def yX7_isBorder : MethodName := ⟨RX7, "isBorder", "(I)Z"⟩
abbrev cX7_leastBit : ByteArray := prog_1_method_43_code
def yX7_leastBit : MethodName := ⟨RX7, "leastBit", "(I)I"⟩
abbrev cX7_rowOf : ByteArray := prog_1_method_44_code
def yX7_rowOf : MethodName := ⟨RX7, "rowOf", "(III)I"⟩
abbrev cX7_commonDivisor : ByteArray := prog_1_method_45_code
def yX7_commonDivisor : MethodName := ⟨RX7, "commonDivisor", "(II)I"⟩
def RX8 : String := "LinkRouterModel"
def TX8 : u_T := fun k => match k with
  | 0 => ("LinkRouterModel", "links", "I", false)
  | 1 => ("LinkRouterModel", "ones", "[I", true)
  | 2 => ("LinkRouterModel", "twos", "[I", true)
  | 3 => ("LinkRouterModel", "areas", "[I", true)
  | 4 => ("LinkRouterModel", "ups", "[I", true)
  | 5 => ("LinkRouterModel", "prices", "[I", true)
  | 6 => ("LinkRouterModel", "numbers", "[I", true)
  | 7 => ("LinkRouterModel", "ages", "[I", true)
  | 8 => ("LinkRouterModel", "fresh", "[I", true)
  | 9 => ("LinkRouterModel", "cameBy", "[I", true)
  | 10 => ("LinkRouterModel", "told", "[[I", true)
  | 11 => ("LinkRouterModel", "sums", "[[I", true)
  | 12 => ("LinkRouterModel", "waiting", "I", false)
  | 13 => ("LinkRouterModel", "ticks", "I", false)
  | 14 => ("LinkRouterModel", "messages", "I", false)
  | 15 => ("LinkRouterModel", "overs", "[I", true)
  | 16 => ("LinkRouterModel", "tos", "[I", true)
  | 17 => ("LinkRouterModel", "ofs", "[I", true)
  | 18 => ("LinkRouterModel", "ins", "[I", true)
  | 19 => ("LinkRouterModel", "withNumbers", "[I", true)
  | 20 => ("LinkRouterModel", "withAges", "[I", true)
  | 21 => ("LinkRouterModel", "withCosts", "[[I", true)
  | 22 => ("LinkRouterModel", "withSums", "[[I", true)
  | 23 => ("LinkRouterModel", "far", "[I", true)
  | 24 => ("LinkRouterModel", "hop", "[I", true)
  | 25 => ("LinkRouterModel", "routeCost", "I", false)
  | 26 => ("LinkRouterModel", "routeHop", "I", false)
  | 27 => ("LinkRouterModel", "routeArea", "I", false)
  | 28 => ("LinkRouterModel", "routeBy", "I", false)
  | 29 => ("LinkRouterModel", "newCosts", "[I", true)
  | 30 => ("LinkRouterModel", "newSums", "[I", true)
  | 31 => ("LinkRouterModel", "path", "[I", true)
  | 32 => ("LinkRouterModel", "asideCounts", "[[I", true)
  | 33 => ("LinkRouterModel", "asideLinks", "[[I", true)
  | 34 => ("LinkRouterModel", "asideKnown", "[[I", true)
  | 35 => ("LinkRouterModel", "asideWaiting", "[[I", true)
  | 36 => ("LinkRouterModel", "asideTold", "[[[I", true)
  | 37 => ("LinkRouterModel", "asideSums", "[[[I", true)
  | 38 => ("LinkRouterModel", "asideCosts", "[[[I", true)
  | 39 => ("LinkRouterModel", "asideWith", "[[[I", true)
  | 40 => ("LinkRouterModel", "asidePrices", "[[I", true)
  | 41 => ("LinkRouterModel", "lotReached", "I", false)
  | 42 => ("LinkRouterModel", "lotTruly", "I", false)
  | 43 => ("LinkRouterModel", "hasImage", "Z", false)
  | 44 => ("LinkRouterModel", "sorts", "[I", true)
  | 45 => ("LinkRouterModel", "lengths", "[I", true)
  | 46 => ("LinkRouterModel", "items", "[[I", true)
  | _ => ("LinkRouterModel", "passed", "[I", true)
def tyX8 : Nat → FieldType := fun k => match k with
  | 0 => .int
  | 1 => .array .int
  | 2 => .array .int
  | 3 => .array .int
  | 4 => .array .int
  | 5 => .array .int
  | 6 => .array .int
  | 7 => .array .int
  | 8 => .array .int
  | 9 => .array .int
  | 10 => .array (.array .int)
  | 11 => .array (.array .int)
  | 12 => .int
  | 13 => .int
  | 14 => .int
  | 15 => .array .int
  | 16 => .array .int
  | 17 => .array .int
  | 18 => .array .int
  | 19 => .array .int
  | 20 => .array .int
  | 21 => .array (.array .int)
  | 22 => .array (.array .int)
  | 23 => .array .int
  | 24 => .array .int
  | 25 => .int
  | 26 => .int
  | 27 => .int
  | 28 => .int
  | 29 => .array .int
  | 30 => .array .int
  | 31 => .array .int
  | 32 => .array (.array .int)
  | 33 => .array (.array .int)
  | 34 => .array (.array .int)
  | 35 => .array (.array .int)
  | 36 => .array (.array (.array .int))
  | 37 => .array (.array (.array .int))
  | 38 => .array (.array (.array .int))
  | 39 => .array (.array (.array .int))
  | 40 => .array (.array .int)
  | 41 => .int
  | 42 => .int
  | 43 => .boolean
  | 44 => .array .int
  | 45 => .array .int
  | 46 => .array (.array .int)
  | _ => .array .int
abbrev wsX80 : List Cond := u_ws RX8 TX8 48
theorem nmX8 : ∀ a, a < 48 → ∀ b, b < 48 → a ≠ b → (TX8 a).2.1 ≠ (TX8 b).2.1 := by decide +kernel
theorem tyX8_ok : ∀ k, k < 48 → parseFieldDescriptor (TX8 k).2.2.1 = some (tyX8 k) := by decide +kernel
abbrev cX8_init : ByteArray := prog_10_method_1_code
def yX8_init : MethodName := ⟨RX8, "<init>", "()V"⟩
abbrev cX8_in : ByteArray := prog_10_method_2_code
def yX8_in : MethodName := ⟨RX8, "in", "(III)Z"⟩
abbrev cX8_isRouter : ByteArray := prog_10_method_3_code
def yX8_isRouter : MethodName := ⟨RX8, "isRouter", "(I)Z"⟩
abbrev cX8_isArea : ByteArray := prog_10_method_4_code
def yX8_isArea : MethodName := ⟨RX8, "isArea", "(I)Z"⟩
abbrev cX8_isLink : ByteArray := prog_10_method_5_code
def yX8_isLink : MethodName := ⟨RX8, "isLink", "(I)Z"⟩
abbrev cX8_place : ByteArray := prog_10_method_6_code
def yX8_place : MethodName := ⟨RX8, "place", "(III)I"⟩
abbrev cX8_isEnd : ByteArray := prog_10_method_7_code
def yX8_isEnd : MethodName := ⟨RX8, "isEnd", "(II)Z"⟩
abbrev cX8_otherEnd : ByteArray := prog_10_method_8_code
def yX8_otherEnd : MethodName := ⟨RX8, "otherEnd", "(II)I"⟩
abbrev cX8_priceFrom : ByteArray := prog_10_method_9_code
def yX8_priceFrom : MethodName := ⟨RX8, "priceFrom", "(II)I"⟩
abbrev cX8_areasOf : ByteArray := prog_10_method_10_code
def yX8_areasOf : MethodName := ⟨RX8, "areasOf", "(I)I"⟩
abbrev cX8_isBorder : ByteArray := prog_10_method_11_code
def yX8_isBorder : MethodName := ⟨RX8, "isBorder", "(I)Z"⟩
abbrev cX8_link : ByteArray := prog_10_method_12_code
def yX8_link : MethodName := ⟨RX8, "link", "(IIIII)I"⟩
abbrev cX8_set : ByteArray := prog_10_method_13_code
def yX8_set : MethodName := ⟨RX8, "set", "(II)I"⟩
abbrev cX8_cost : ByteArray := prog_10_method_14_code
def yX8_cost : MethodName := ⟨RX8, "cost", "(III)I"⟩
abbrev cX8_told : ByteArray := prog_10_method_15_code
def yX8_told : MethodName := ⟨RX8, "told", "(II)I"⟩
abbrev cX8_isStale : ByteArray := prog_10_method_16_code
def yX8_isStale : MethodName := ⟨RX8, "isStale", "(II)Z"⟩
abbrev cX8_knows : ByteArray := prog_10_method_17_code
def yX8_knows : MethodName := ⟨RX8, "knows", "(IZ)I"⟩
abbrev cX8_router : ByteArray := prog_10_method_18_code
def yX8_router : MethodName := ⟨RX8, "router", "(II)I"⟩
abbrev cX8_taken : ByteArray := prog_10_method_19_code
def yX8_taken : MethodName := ⟨RX8, "taken", "(II)I"⟩
abbrev cX8_edge : ByteArray := prog_10_method_20_code
def yX8_edge : MethodName := ⟨RX8, "edge", "(IIII)I"⟩
abbrev cX8_tellWithin : ByteArray := prog_10_method_21_code
def yX8_tellWithin : MethodName := ⟨RX8, "tellWithin", "(II)V"⟩
abbrev cX8_isNext : ByteArray := prog_10_method_22_code
def yX8_isNext : MethodName := ⟨RX8, "isNext", "(III)Z"⟩
abbrev cX8_handsOn : ByteArray := prog_10_method_23_code
def yX8_handsOn : MethodName := ⟨RX8, "handsOn", "(III)V"⟩
abbrev cX8_noRoute : ByteArray := prog_10_method_24_code
def yX8_noRoute : MethodName := ⟨RX8, "noRoute", "()V"⟩
abbrev cX8_inside : ByteArray := prog_10_method_25_code
def yX8_inside : MethodName := ⟨RX8, "inside", "(II)V"⟩
abbrev cX8_across : ByteArray := prog_10_method_26_code
def yX8_across : MethodName := ⟨RX8, "across", "(III)V"⟩
abbrev cX8_tellRoute : ByteArray := prog_10_method_27_code
def yX8_tellRoute : MethodName := ⟨RX8, "tellRoute", "(II)V"⟩
abbrev cX8_sumOf : ByteArray := prog_10_method_28_code
def yX8_sumOf : MethodName := ⟨RX8, "sumOf", "(III)I"⟩
abbrev cX8_arrives : ByteArray := prog_10_method_29_code
def yX8_arrives : MethodName := ⟨RX8, "arrives", "(I)V"⟩
abbrev cX8_grows : ByteArray := prog_10_method_30_code
def yX8_grows : MethodName := ⟨RX8, "grows", "()V"⟩
abbrev cX8_isOther : ByteArray := prog_10_method_31_code
def yX8_isOther : MethodName := ⟨RX8, "isOther", "(I)Z"⟩
abbrev cX8_tells : ByteArray := prog_10_method_32_code
def yX8_tells : MethodName := ⟨RX8, "tells", "(II)V"⟩
abbrev cX8_sends : ByteArray := prog_10_method_33_code
def yX8_sends : MethodName := ⟨RX8, "sends", "(III)V"⟩
abbrev cX8_goes : ByteArray := prog_10_method_34_code
def yX8_goes : MethodName := ⟨RX8, "goes", "()I"⟩
abbrev cX8_tick : ByteArray := prog_10_method_35_code
def yX8_tick : MethodName := ⟨RX8, "tick", "()I"⟩
abbrev cX8_ticks : ByteArray := prog_10_method_36_code
def yX8_ticks : MethodName := ⟨RX8, "ticks", "(I)I"⟩
abbrev cX8_linksTold : ByteArray := prog_10_method_37_code
def yX8_linksTold : MethodName := ⟨RX8, "linksTold", "(I)I"⟩
abbrev cX8_advert : ByteArray := prog_10_method_38_code
def yX8_advert : MethodName := ⟨RX8, "advert", "(IIII)I"⟩
abbrev cX8_message : ByteArray := prog_10_method_39_code
def yX8_message : MethodName := ⟨RX8, "message", "(II)I"⟩
abbrev cX8_within : ByteArray := prog_10_method_40_code
def yX8_within : MethodName := ⟨RX8, "within", "(IIII)I"⟩
abbrev cX8_costNow : ByteArray := prog_10_method_41_code
def yX8_costNow : MethodName := ⟨RX8, "costNow", "(II)I"⟩
abbrev cX8_route : ByteArray := prog_10_method_42_code
def yX8_route : MethodName := ⟨RX8, "route", "(III)I"⟩
abbrev cX8_overLink : ByteArray := prog_10_method_43_code
def yX8_overLink : MethodName := ⟨RX8, "overLink", "(III)I"⟩
abbrev cX8_packet : ByteArray := prog_10_method_44_code
def yX8_packet : MethodName := ⟨RX8, "packet", "(III)I"⟩
abbrev cX8_trulyWithout : ByteArray := prog_10_method_45_code
def yX8_trulyWithout : MethodName := ⟨RX8, "trulyWithout", "(III)I"⟩
abbrev cX8_truly : ByteArray := prog_10_method_46_code
def yX8_truly : MethodName := ⟨RX8, "truly", "(II)I"⟩
abbrev cX8_cuts : ByteArray := prog_10_method_47_code
def yX8_cuts : MethodName := ⟨RX8, "cuts", "(II)I"⟩
abbrev cX8_linkRow : ByteArray := prog_10_method_48_code
def yX8_linkRow : MethodName := ⟨RX8, "linkRow", "(I)[I"⟩
abbrev cX8_knownRow : ByteArray := prog_10_method_49_code
def yX8_knownRow : MethodName := ⟨RX8, "knownRow", "(I)[I"⟩
abbrev cX8_waitingRow : ByteArray := prog_10_method_50_code
def yX8_waitingRow : MethodName := ⟨RX8, "waitingRow", "(I)[I"⟩
abbrev cX8_keep : ByteArray := prog_10_method_51_code
def yX8_keep : MethodName := ⟨RX8, "keep", "(I)V"⟩
abbrev cX8_layBack : ByteArray := prog_10_method_52_code
def yX8_layBack : MethodName := ⟨RX8, "layBack", "(I)V"⟩
abbrev cX8_goesLong : ByteArray := prog_10_method_53_code
def yX8_goesLong : MethodName := ⟨RX8, "goesLong", "()V"⟩
abbrev cX8_settled : ByteArray := prog_10_method_54_code
def yX8_settled : MethodName := ⟨RX8, "settled", "(I)I"⟩
abbrev cX8_broken : ByteArray := prog_10_method_55_code
def yX8_broken : MethodName := ⟨RX8, "broken", "(III)I"⟩
abbrev cX8_byLot : ByteArray := prog_10_method_56_code
def yX8_byLot : MethodName := ⟨RX8, "byLot", "(II)V"⟩
abbrev cX8_drawn : ByteArray := prog_10_method_57_code
def yX8_drawn : MethodName := ⟨RX8, "drawn", "(II)I"⟩
abbrev cX8_common : ByteArray := prog_10_method_58_code
def yX8_common : MethodName := ⟨RX8, "common", "(II)I"⟩
abbrev cX8_chance : ByteArray := prog_10_method_59_code
def yX8_chance : MethodName := ⟨RX8, "chance", "(IIII)I"⟩
abbrev cX8_otherwise : ByteArray := prog_10_method_60_code
def yX8_otherwise : MethodName := ⟨RX8, "otherwise", "(II)I"⟩
abbrev cX8_linksBy : ByteArray := prog_10_method_61_code
def yX8_linksBy : MethodName := ⟨RX8, "linksBy", "(II)I"⟩
abbrev cX8_costsBy : ByteArray := prog_10_method_62_code
def yX8_costsBy : MethodName := ⟨RX8, "costsBy", "(IIIZ)I"⟩
abbrev cX8_tells_ : ByteArray := prog_10_method_63_code
def yX8_tells_ : MethodName := ⟨RX8, "tells", "(III)I"⟩
abbrev cX8_film : ByteArray := prog_10_method_64_code
def yX8_film : MethodName := ⟨RX8, "film", "(II)I"⟩
abbrev cX8_image : ByteArray := prog_10_method_65_code
def yX8_image : MethodName := ⟨RX8, "image", "()I"⟩
abbrev cX8_back : ByteArray := prog_10_method_66_code
def yX8_back : MethodName := ⟨RX8, "back", "()I"⟩
abbrev cX8_count : ByteArray := prog_10_method_67_code
def yX8_count : MethodName := ⟨RX8, "count", "(I)I"⟩
abbrev cX8_isSheet : ByteArray := prog_10_method_68_code
def yX8_isSheet : MethodName := ⟨RX8, "isSheet", "(I)Z"⟩
abbrev cX8_sheet : ByteArray := prog_10_method_69_code
def yX8_sheet : MethodName := ⟨RX8, "sheet", "(III)I"⟩
abbrev cX8_cell : ByteArray := prog_10_method_70_code
def yX8_cell : MethodName := ⟨RX8, "cell", "(III)I"⟩
abbrev cX8_copy : ByteArray := prog_10_method_71_code
def yX8_copy : MethodName := ⟨RX8, "copy", "(IIIII)I"⟩
def RJ6 : String := "java/lang/Integer"
def TJ6 : u_T := fun k => match k with
  | _ => ("", "", "", false)
def tyJ6 : Nat → FieldType := fun k => match k with
  | _ => .int
abbrev wsJ60 : List Cond := u_ws RJ6 TJ6 0
theorem nmJ6 : ∀ a, a < 0 → ∀ b, b < 0 → a ≠ b → (TJ6 a).2.1 ≠ (TJ6 b).2.1 := by decide +kernel
theorem tyJ6_ok : ∀ k, k < 0 → parseFieldDescriptor (TJ6 k).2.2.1 = some (tyJ6 k) := by decide +kernel
abbrev cJ6_bitCount_0f7a4 : ByteArray := prog_11_method_49_code
def yJ6_bitCount_0f7a4 : MethodName := ⟨RJ6, "bitCount", "(I)I"⟩
def RJ9 : String := "java/lang/Math"
def TJ9 : u_T := fun k => match k with
  | _ => ("", "", "", false)
def tyJ9 : Nat → FieldType := fun k => match k with
  | _ => .int
abbrev wsJ90 : List Cond := u_ws RJ9 TJ9 0
theorem nmJ9 : ∀ a, a < 0 → ∀ b, b < 0 → a ≠ b → (TJ9 a).2.1 ≠ (TJ9 b).2.1 := by decide +kernel
theorem tyJ9_ok : ∀ k, k < 0 → parseFieldDescriptor (TJ9 k).2.2.1 = some (tyJ9 k) := by decide +kernel
abbrev cJ9_min_7cf53 : ByteArray := prog_12_method_69_code
def yJ9_min_7cf53 : MethodName := ⟨RJ9, "min", "(II)I"⟩
def RJ10 : String := "java/lang/System"
def TJ10 : u_T := fun k => match k with
  | _ => ("", "", "", false)
def tyJ10 : Nat → FieldType := fun k => match k with
  | _ => .int
abbrev wsJ100 : List Cond := u_ws RJ10 TJ10 0
theorem nmJ10 : ∀ a, a < 0 → ∀ b, b < 0 → a ≠ b → (TJ10 a).2.1 ≠ (TJ10 b).2.1 := by decide +kernel
theorem tyJ10_ok : ∀ k, k < 0 → parseFieldDescriptor (TJ10 k).2.2.1 = some (tyJ10 k) := by decide +kernel
def RJ7 : String := "java/util/Arrays"
def TJ7 : u_T := fun k => match k with
  | _ => ("", "", "", false)
def tyJ7 : Nat → FieldType := fun k => match k with
  | _ => .int
abbrev wsJ70 : List Cond := u_ws RJ7 TJ7 0
theorem nmJ7 : ∀ a, a < 0 → ∀ b, b < 0 → a ≠ b → (TJ7 a).2.1 ≠ (TJ7 b).2.1 := by decide +kernel
theorem tyJ7_ok : ∀ k, k < 0 → parseFieldDescriptor (TJ7 k).2.2.1 = some (tyJ7 k) := by decide +kernel
abbrev cJ7_fill_53178 : ByteArray := prog_14_method_103_code
def yJ7_fill_53178 : MethodName := ⟨RJ7, "fill", "([II)V"⟩
def RL : String := "LinkRouterLaw"
abbrev cL_law : ByteArray := code
def yL_law : MethodName := ⟨RL, "law", "([I)Z"⟩
def YX0_init : MethodName × ByteArray × Nat × Option FieldType := (yX0_init, cX0_init, 2, none)
def YX0_takeRow : MethodName × ByteArray × Nat × Option FieldType := (yX0_takeRow, cX0_takeRow, 4, none)
def YX0_takeRows : MethodName × ByteArray × Nat × Option FieldType := (yX0_takeRows, cX0_takeRows, 3, none)
def YX0_forget : MethodName × ByteArray × Nat × Option FieldType := (yX0_forget, cX0_forget, 2, none)
def YX0_tellsLink : MethodName × ByteArray × Nat × Option FieldType := (yX0_tellsLink, cX0_tellsLink, 3, (some .boolean))
def YX0_tellsAs : MethodName × ByteArray × Nat × Option FieldType := (yX0_tellsAs, cX0_tellsAs, 5, (some .boolean))
def YX1_init : MethodName × ByteArray × Nat × Option FieldType := (yX1_init, cX1_init, 1, none)
def YX1_has : MethodName × ByteArray × Nat × Option FieldType := (yX1_has, cX1_has, 2, (some .boolean))
def YX1_add : MethodName × ByteArray × Nat × Option FieldType := (yX1_add, cX1_add, 7, (some .int))
def YX1_takeOver : MethodName × ByteArray × Nat × Option FieldType := (yX1_takeOver, cX1_takeOver, 2, none)
def YX1_isUpAt : MethodName × ByteArray × Nat × Option FieldType := (yX1_isUpAt, cX1_isUpAt, 3, (some .boolean))
def YX1_otherEnd : MethodName × ByteArray × Nat × Option FieldType := (yX1_otherEnd, cX1_otherEnd, 3, (some .int))
def YX1_costFrom : MethodName × ByteArray × Nat × Option FieldType := (yX1_costFrom, cX1_costFrom, 3, (some .int))
def YX1_areasOf : MethodName × ByteArray × Nat × Option FieldType := (yX1_areasOf, cX1_areasOf, 4, (some .int))
def YX1_upOf : MethodName × ByteArray × Nat × Option FieldType := (yX1_upOf, cX1_upOf, 4, (some .int))
def YX1_upInAll : MethodName × ByteArray × Nat × Option FieldType := (yX1_upInAll, cX1_upInAll, 3, (some .int))
def YX1_cheapest : MethodName × ByteArray × Nat × Option FieldType := (yX1_cheapest, cX1_cheapest, 7, (some .int))
def YX1_leastCost : MethodName × ByteArray × Nat × Option FieldType := (yX1_leastCost, cX1_leastCost, 4, (some .int))
def YX1_joinedTo : MethodName × ByteArray × Nat × Option FieldType := (yX1_joinedTo, cX1_joinedTo, 4, (some .int))
def YX1_spread : MethodName × ByteArray × Nat × Option FieldType := (yX1_spread, cX1_spread, 7, none)
def YX2_init : MethodName × ByteArray × Nat × Option FieldType := (yX2_init, cX2_init, 1, none)
def YX2_takeOver : MethodName × ByteArray × Nat × Option FieldType := (yX2_takeOver, cX2_takeOver, 2, none)
def YX2_advance : MethodName × ByteArray × Nat × Option FieldType := (yX2_advance, cX2_advance, 4, (some .int))
def YX2_advanceTillQuiet : MethodName × ByteArray × Nat × Option FieldType := (yX2_advanceTillQuiet, cX2_advanceTillQuiet, 3, (some .int))
def YX2_arrive : MethodName × ByteArray × Nat × Option FieldType := (yX2_arrive, cX2_arrive, 2, none)
def YX2_take : MethodName × ByteArray × Nat × Option FieldType := (yX2_take, cX2_take, 4, none)
def YX2_growOlder : MethodName × ByteArray × Nat × Option FieldType := (yX2_growOlder, cX2_growOlder, 2, none)
def YX2_isOwn : MethodName × ByteArray × Nat × Option FieldType := (yX2_isOwn, cX2_isOwn, 1, (some .boolean))
def YX2_tellAnew : MethodName × ByteArray × Nat × Option FieldType := (yX2_tellAnew, cX2_tellAnew, 5, none)
def YX2_draftLinks : MethodName × ByteArray × Nat × Option FieldType := (yX2_draftLinks, cX2_draftLinks, 5, none)
def YX2_draftSums : MethodName × ByteArray × Nat × Option FieldType := (yX2_draftSums, cX2_draftSums, 7, none)
def YX2_sumUpAcross : MethodName × ByteArray × Nat × Option FieldType := (yX2_sumUpAcross, cX2_sumUpAcross, 4, none)
def YX2_tellDraft : MethodName × ByteArray × Nat × Option FieldType := (yX2_tellDraft, cX2_tellDraft, 3, none)
def YX2_teller : MethodName × ByteArray × Nat × Option FieldType := (yX2_teller, cX2_teller, 9, (some .int))
def YX2_costBy : MethodName × ByteArray × Nat × Option FieldType := (yX2_costBy, cX2_costBy, 4, (some .int))
def YX2_sendOn : MethodName × ByteArray × Nat × Option FieldType := (yX2_sendOn, cX2_sendOn, 2, none)
def YX2_sendRow : MethodName × ByteArray × Nat × Option FieldType := (yX2_sendRow, cX2_sendRow, 6, none)
def YX2_knownTo : MethodName × ByteArray × Nat × Option FieldType := (yX2_knownTo, cX2_knownTo, 4, (some .int))
def YX2_knownToAll : MethodName × ByteArray × Nat × Option FieldType := (yX2_knownToAll, cX2_knownToAll, 3, (some .int))
def YX2_staleTo : MethodName × ByteArray × Nat × Option FieldType := (yX2_staleTo, cX2_staleTo, 4, (some .int))
def YX2_staleToAll : MethodName × ByteArray × Nat × Option FieldType := (yX2_staleToAll, cX2_staleToAll, 3, (some .int))
def YX2_isStale : MethodName × ByteArray × Nat × Option FieldType := (yX2_isStale, cX2_isStale, 5, (some .boolean))
def YX3_init : MethodName × ByteArray × Nat × Option FieldType := (yX3_init, cX3_init, 1, none)
def YX3_measure : MethodName × ByteArray × Nat × Option FieldType := (yX3_measure, cX3_measure, 7, none)
def YX3_nearest : MethodName × ByteArray × Nat × Option FieldType := (yX3_nearest, cX3_nearest, 4, (some .int))
def YX3_goOn : MethodName × ByteArray × Nat × Option FieldType := (yX3_goOn, cX3_goOn, 12, none)
def YX4_init : MethodName × ByteArray × Nat × Option FieldType := (yX4_init, cX4_init, 1, none)
def YX4_find : MethodName × ByteArray × Nat × Option FieldType := (yX4_find, cX4_find, 5, none)
def YX4_findInside : MethodName × ByteArray × Nat × Option FieldType := (yX4_findInside, cX4_findInside, 5, none)
def YX4_findAcross : MethodName × ByteArray × Nat × Option FieldType := (yX4_findAcross, cX4_findAcross, 9, none)
def YX4_take : MethodName × ByteArray × Nat × Option FieldType := (yX4_take, cX4_take, 5, none)
def YX5_init : MethodName × ByteArray × Nat × Option FieldType := (yX5_init, cX5_init, 1, none)
def YX5_has : MethodName × ByteArray × Nat × Option FieldType := (yX5_has, cX5_has, 2, (some .boolean))
def YX5_isMissing : MethodName × ByteArray × Nat × Option FieldType := (yX5_isMissing, cX5_isMissing, 2, (some .boolean))
def YX5_holds : MethodName × ByteArray × Nat × Option FieldType := (yX5_holds, cX5_holds, 4, (some .boolean))
def YX5_become : MethodName × ByteArray × Nat × Option FieldType := (yX5_become, cX5_become, 4, none)
def YX5_put : MethodName × ByteArray × Nat × Option FieldType := (yX5_put, cX5_put, 4, none)
def YX6_init : MethodName × ByteArray × Nat × Option FieldType := (yX6_init, cX6_init, 1, none)
def YX6_go : MethodName × ByteArray × Nat × Option FieldType := (yX6_go, cX6_go, 9, none)
def YX7_init : MethodName × ByteArray × Nat × Option FieldType := (yX7_init, cX7_init, 1, none)
def YX7_link : MethodName × ByteArray × Nat × Option FieldType := (yX7_link, cX7_link, 6, (some .int))
def YX7_set : MethodName × ByteArray × Nat × Option FieldType := (yX7_set, cX7_set, 4, (some .int))
def YX7_cost : MethodName × ByteArray × Nat × Option FieldType := (yX7_cost, cX7_cost, 6, (some .int))
def YX7_told : MethodName × ByteArray × Nat × Option FieldType := (yX7_told, cX7_told, 4, (some .int))
def YX7_router : MethodName × ByteArray × Nat × Option FieldType := (yX7_router, cX7_router, 3, (some .int))
def YX7_taken : MethodName × ByteArray × Nat × Option FieldType := (yX7_taken, cX7_taken, 5, (some .int))
def YX7_tick : MethodName × ByteArray × Nat × Option FieldType := (yX7_tick, cX7_tick, 1, (some .int))
def YX7_ticks : MethodName × ByteArray × Nat × Option FieldType := (yX7_ticks, cX7_ticks, 2, (some .int))
def YX7_advert : MethodName × ByteArray × Nat × Option FieldType := (yX7_advert, cX7_advert, 7, (some .int))
def YX7_message : MethodName × ByteArray × Nat × Option FieldType := (yX7_message, cX7_message, 3, (some .int))
def YX7_within : MethodName × ByteArray × Nat × Option FieldType := (yX7_within, cX7_within, 6, (some .int))
def YX7_route : MethodName × ByteArray × Nat × Option FieldType := (yX7_route, cX7_route, 4, (some .int))
def YX7_packet : MethodName × ByteArray × Nat × Option FieldType := (yX7_packet, cX7_packet, 5, (some .int))
def YX7_truly : MethodName × ByteArray × Nat × Option FieldType := (yX7_truly, cX7_truly, 3, (some .int))
def YX7_cuts : MethodName × ByteArray × Nat × Option FieldType := (yX7_cuts, cX7_cuts, 6, (some .int))
def YX7_settled : MethodName × ByteArray × Nat × Option FieldType := (yX7_settled, cX7_settled, 3, (some .int))
def YX7_broken : MethodName × ByteArray × Nat × Option FieldType := (yX7_broken, cX7_broken, 4, (some .int))
def YX7_drawn : MethodName × ByteArray × Nat × Option FieldType := (yX7_drawn, cX7_drawn, 3, (some .int))
def YX7_chance : MethodName × ByteArray × Nat × Option FieldType := (yX7_chance, cX7_chance, 7, (some .int))
def YX7_tells : MethodName × ByteArray × Nat × Option FieldType := (yX7_tells, cX7_tells, 6, (some .int))
def YX7_film : MethodName × ByteArray × Nat × Option FieldType := (yX7_film, cX7_film, 4, (some .int))
def YX7_image : MethodName × ByteArray × Nat × Option FieldType := (yX7_image, cX7_image, 1, (some .int))
def YX7_back : MethodName × ByteArray × Nat × Option FieldType := (yX7_back, cX7_back, 1, (some .int))
def YX7_count : MethodName × ByteArray × Nat × Option FieldType := (yX7_count, cX7_count, 2, (some .int))
def YX7_sheet : MethodName × ByteArray × Nat × Option FieldType := (yX7_sheet, cX7_sheet, 4, (some .int))
def YX7_cell : MethodName × ByteArray × Nat × Option FieldType := (yX7_cell, cX7_cell, 4, (some .int))
def YX7_copy : MethodName × ByteArray × Nat × Option FieldType := (yX7_copy, cX7_copy, 6, (some .int))
def YX7_breakInThought : MethodName × ByteArray × Nat × Option FieldType := (yX7_breakInThought, cX7_breakInThought, 2, none)
def YX7_drawInThought : MethodName × ByteArray × Nat × Option FieldType := (yX7_drawInThought, cX7_drawInThought, 4, none)
def YX7_costInThought : MethodName × ByteArray × Nat × Option FieldType := (yX7_costInThought, cX7_costInThought, 3, none)
def YX7_reached : MethodName × ByteArray × Nat × Option FieldType := (yX7_reached, cX7_reached, 4, (some .int))
def YX7_firstOtherwise : MethodName × ByteArray × Nat × Option FieldType := (yX7_firstOtherwise, cX7_firstOtherwise, 7, (some .int))
def YX7_routersToldSo : MethodName × ByteArray × Nat × Option FieldType := (yX7_routersToldSo, cX7_routersToldSo, 4, (some .int))
def YX7_linksToldSo : MethodName × ByteArray × Nat × Option FieldType := (yX7_linksToldSo, cX7_linksToldSo, 5, (some .int))
def YX7_costsToldSo : MethodName × ByteArray × Nat × Option FieldType := (yX7_costsToldSo, cX7_costsToldSo, 6, (some .int))
def YX7_isRouter : MethodName × ByteArray × Nat × Option FieldType := (yX7_isRouter, cX7_isRouter, 1, (some .boolean))
def YX7_isArea : MethodName × ByteArray × Nat × Option FieldType := (yX7_isArea, cX7_isArea, 1, (some .boolean))
def YX7_isCost : MethodName × ByteArray × Nat × Option FieldType := (yX7_isCost, cX7_isCost, 1, (some .boolean))
def YX7_isOfAdvert : MethodName × ByteArray × Nat × Option FieldType := (yX7_isOfAdvert, cX7_isOfAdvert, 3, (some .boolean))
def YX7_isOfTold : MethodName × ByteArray × Nat × Option FieldType := (yX7_isOfTold, cX7_isOfTold, 1, (some .boolean))
def YX7_isBorder : MethodName × ByteArray × Nat × Option FieldType := (yX7_isBorder, cX7_isBorder, 1, (some .boolean))
def YX7_leastBit : MethodName × ByteArray × Nat × Option FieldType := (yX7_leastBit, cX7_leastBit, 2, (some .int))
def YX7_rowOf : MethodName × ByteArray × Nat × Option FieldType := (yX7_rowOf, cX7_rowOf, 3, (some .int))
def YX7_commonDivisor : MethodName × ByteArray × Nat × Option FieldType := (yX7_commonDivisor, cX7_commonDivisor, 3, (some .int))
def YX8_init : MethodName × ByteArray × Nat × Option FieldType := (yX8_init, cX8_init, 1, none)
def YX8_in : MethodName × ByteArray × Nat × Option FieldType := (yX8_in, cX8_in, 3, (some .boolean))
def YX8_isRouter : MethodName × ByteArray × Nat × Option FieldType := (yX8_isRouter, cX8_isRouter, 1, (some .boolean))
def YX8_isArea : MethodName × ByteArray × Nat × Option FieldType := (yX8_isArea, cX8_isArea, 1, (some .boolean))
def YX8_isLink : MethodName × ByteArray × Nat × Option FieldType := (yX8_isLink, cX8_isLink, 2, (some .boolean))
def YX8_place : MethodName × ByteArray × Nat × Option FieldType := (yX8_place, cX8_place, 3, (some .int))
def YX8_isEnd : MethodName × ByteArray × Nat × Option FieldType := (yX8_isEnd, cX8_isEnd, 3, (some .boolean))
def YX8_otherEnd : MethodName × ByteArray × Nat × Option FieldType := (yX8_otherEnd, cX8_otherEnd, 3, (some .int))
def YX8_priceFrom : MethodName × ByteArray × Nat × Option FieldType := (yX8_priceFrom, cX8_priceFrom, 3, (some .int))
def YX8_areasOf : MethodName × ByteArray × Nat × Option FieldType := (yX8_areasOf, cX8_areasOf, 4, (some .int))
def YX8_isBorder : MethodName × ByteArray × Nat × Option FieldType := (yX8_isBorder, cX8_isBorder, 3, (some .boolean))
def YX8_link : MethodName × ByteArray × Nat × Option FieldType := (yX8_link, cX8_link, 6, (some .int))
def YX8_set : MethodName × ByteArray × Nat × Option FieldType := (yX8_set, cX8_set, 4, (some .int))
def YX8_cost : MethodName × ByteArray × Nat × Option FieldType := (yX8_cost, cX8_cost, 5, (some .int))
def YX8_told : MethodName × ByteArray × Nat × Option FieldType := (yX8_told, cX8_told, 3, (some .int))
def YX8_isStale : MethodName × ByteArray × Nat × Option FieldType := (yX8_isStale, cX8_isStale, 4, (some .boolean))
def YX8_knows : MethodName × ByteArray × Nat × Option FieldType := (yX8_knows, cX8_knows, 7, (some .int))
def YX8_router : MethodName × ByteArray × Nat × Option FieldType := (yX8_router, cX8_router, 3, (some .int))
def YX8_taken : MethodName × ByteArray × Nat × Option FieldType := (yX8_taken, cX8_taken, 7, (some .int))
def YX8_edge : MethodName × ByteArray × Nat × Option FieldType := (yX8_edge, cX8_edge, 7, (some .int))
def YX8_tellWithin : MethodName × ByteArray × Nat × Option FieldType := (yX8_tellWithin, cX8_tellWithin, 9, none)
def YX8_isNext : MethodName × ByteArray × Nat × Option FieldType := (yX8_isNext, cX8_isNext, 5, (some .boolean))
def YX8_handsOn : MethodName × ByteArray × Nat × Option FieldType := (yX8_handsOn, cX8_handsOn, 11, none)
def YX8_noRoute : MethodName × ByteArray × Nat × Option FieldType := (yX8_noRoute, cX8_noRoute, 1, none)
def YX8_inside : MethodName × ByteArray × Nat × Option FieldType := (yX8_inside, cX8_inside, 5, none)
def YX8_across : MethodName × ByteArray × Nat × Option FieldType := (yX8_across, cX8_across, 6, none)
def YX8_tellRoute : MethodName × ByteArray × Nat × Option FieldType := (yX8_tellRoute, cX8_tellRoute, 5, none)
def YX8_sumOf : MethodName × ByteArray × Nat × Option FieldType := (yX8_sumOf, cX8_sumOf, 7, (some .int))
def YX8_arrives : MethodName × ByteArray × Nat × Option FieldType := (yX8_arrives, cX8_arrives, 5, none)
def YX8_grows : MethodName × ByteArray × Nat × Option FieldType := (yX8_grows, cX8_grows, 5, none)
def YX8_isOther : MethodName × ByteArray × Nat × Option FieldType := (yX8_isOther, cX8_isOther, 3, (some .boolean))
def YX8_tells : MethodName × ByteArray × Nat × Option FieldType := (yX8_tells, cX8_tells, 5, none)
def YX8_sends : MethodName × ByteArray × Nat × Option FieldType := (yX8_sends, cX8_sends, 6, none)
def YX8_goes : MethodName × ByteArray × Nat × Option FieldType := (yX8_goes, cX8_goes, 4, (some .int))
def YX8_tick : MethodName × ByteArray × Nat × Option FieldType := (yX8_tick, cX8_tick, 1, (some .int))
def YX8_ticks : MethodName × ByteArray × Nat × Option FieldType := (yX8_ticks, cX8_ticks, 4, (some .int))
def YX8_linksTold : MethodName × ByteArray × Nat × Option FieldType := (yX8_linksTold, cX8_linksTold, 4, (some .int))
def YX8_advert : MethodName × ByteArray × Nat × Option FieldType := (yX8_advert, cX8_advert, 6, (some .int))
def YX8_message : MethodName × ByteArray × Nat × Option FieldType := (yX8_message, cX8_message, 3, (some .int))
def YX8_within : MethodName × ByteArray × Nat × Option FieldType := (yX8_within, cX8_within, 5, (some .int))
def YX8_costNow : MethodName × ByteArray × Nat × Option FieldType := (yX8_costNow, cX8_costNow, 3, (some .int))
def YX8_route : MethodName × ByteArray × Nat × Option FieldType := (yX8_route, cX8_route, 4, (some .int))
def YX8_overLink : MethodName × ByteArray × Nat × Option FieldType := (yX8_overLink, cX8_overLink, 6, (some .int))
def YX8_packet : MethodName × ByteArray × Nat × Option FieldType := (yX8_packet, cX8_packet, 9, (some .int))
def YX8_trulyWithout : MethodName × ByteArray × Nat × Option FieldType := (yX8_trulyWithout, cX8_trulyWithout, 6, (some .int))
def YX8_truly : MethodName × ByteArray × Nat × Option FieldType := (yX8_truly, cX8_truly, 3, (some .int))
def YX8_cuts : MethodName × ByteArray × Nat × Option FieldType := (yX8_cuts, cX8_cuts, 5, (some .int))
def YX8_linkRow : MethodName × ByteArray × Nat × Option FieldType := (yX8_linkRow, cX8_linkRow, 2, (some (.array .int)))
def YX8_knownRow : MethodName × ByteArray × Nat × Option FieldType := (yX8_knownRow, cX8_knownRow, 2, (some (.array .int)))
def YX8_waitingRow : MethodName × ByteArray × Nat × Option FieldType := (yX8_waitingRow, cX8_waitingRow, 2, (some (.array .int)))
def YX8_keep : MethodName × ByteArray × Nat × Option FieldType := (yX8_keep, cX8_keep, 3, none)
def YX8_layBack : MethodName × ByteArray × Nat × Option FieldType := (yX8_layBack, cX8_layBack, 3, none)
def YX8_goesLong : MethodName × ByteArray × Nat × Option FieldType := (yX8_goesLong, cX8_goesLong, 3, none)
def YX8_settled : MethodName × ByteArray × Nat × Option FieldType := (yX8_settled, cX8_settled, 7, (some .int))
def YX8_broken : MethodName × ByteArray × Nat × Option FieldType := (yX8_broken, cX8_broken, 5, (some .int))
def YX8_byLot : MethodName × ByteArray × Nat × Option FieldType := (yX8_byLot, cX8_byLot, 5, none)
def YX8_drawn : MethodName × ByteArray × Nat × Option FieldType := (yX8_drawn, cX8_drawn, 3, (some .int))
def YX8_common : MethodName × ByteArray × Nat × Option FieldType := (yX8_common, cX8_common, 2, (some .int))
def YX8_chance : MethodName × ByteArray × Nat × Option FieldType := (yX8_chance, cX8_chance, 7, (some .int))
def YX8_otherwise : MethodName × ByteArray × Nat × Option FieldType := (yX8_otherwise, cX8_otherwise, 4, (some .int))
def YX8_linksBy : MethodName × ByteArray × Nat × Option FieldType := (yX8_linksBy, cX8_linksBy, 5, (some .int))
def YX8_costsBy : MethodName × ByteArray × Nat × Option FieldType := (yX8_costsBy, cX8_costsBy, 9, (some .int))
def YX8_tells_ : MethodName × ByteArray × Nat × Option FieldType := (yX8_tells_, cX8_tells_, 6, (some .int))
def YX8_film : MethodName × ByteArray × Nat × Option FieldType := (yX8_film, cX8_film, 4, (some .int))
def YX8_image : MethodName × ByteArray × Nat × Option FieldType := (yX8_image, cX8_image, 1, (some .int))
def YX8_back : MethodName × ByteArray × Nat × Option FieldType := (yX8_back, cX8_back, 1, (some .int))
def YX8_count : MethodName × ByteArray × Nat × Option FieldType := (yX8_count, cX8_count, 4, (some .int))
def YX8_isSheet : MethodName × ByteArray × Nat × Option FieldType := (yX8_isSheet, cX8_isSheet, 1, (some .boolean))
def YX8_sheet : MethodName × ByteArray × Nat × Option FieldType := (yX8_sheet, cX8_sheet, 5, (some .int))
def YX8_cell : MethodName × ByteArray × Nat × Option FieldType := (yX8_cell, cX8_cell, 4, (some .int))
def YX8_copy : MethodName × ByteArray × Nat × Option FieldType := (yX8_copy, cX8_copy, 6, (some .int))
def YJ6_bitCount_0f7a4 : MethodName × ByteArray × Nat × Option FieldType := (yJ6_bitCount_0f7a4, cJ6_bitCount_0f7a4, 1, (some .int))
def YJ9_min_7cf53 : MethodName × ByteArray × Nat × Option FieldType := (yJ9_min_7cf53, cJ9_min_7cf53, 2, (some .int))
def YJ7_fill_53178 : MethodName × ByteArray × Nat × Option FieldType := (yJ7_fill_53178, cJ7_fill_53178, 4, none)
def YL_law : MethodName × ByteArray × Nat × Option FieldType := (yL_law, cL_law, 4, (some .boolean))
theorem dX0_init_0 : decode YX0_init.2.1 0 = .ok (.aload_n 0, 1) := by decide +kernel
theorem dX0_init_1 : decode YX0_init.2.1 1 = .ok (.invokespecial 3, 3) := by decide +kernel
theorem dX0_init_4 : decode YX0_init.2.1 4 = .ok (.aload_n 0, 1) := by decide +kernel
theorem dX0_init_5 : decode YX0_init.2.1 5 = .ok (.iload_n 1, 1) := by decide +kernel
theorem dX0_init_6 : decode YX0_init.2.1 6 = .ok (.newarray .int, 2) := by decide +kernel
theorem dX0_init_8 : decode YX0_init.2.1 8 = .ok (.putfield 9, 3) := by decide +kernel
theorem dX0_init_11 : decode YX0_init.2.1 11 = .ok (.aload_n 0, 1) := by decide +kernel
theorem dX0_init_12 : decode YX0_init.2.1 12 = .ok (.iload_n 1, 1) := by decide +kernel
theorem dX0_init_13 : decode YX0_init.2.1 13 = .ok (.newarray .int, 2) := by decide +kernel
theorem dX0_init_15 : decode YX0_init.2.1 15 = .ok (.putfield 15, 3) := by decide +kernel
theorem dX0_init_18 : decode YX0_init.2.1 18 = .ok (.aload_n 0, 1) := by decide +kernel
theorem dX0_init_19 : decode YX0_init.2.1 19 = .ok (.iload_n 1, 1) := by decide +kernel
theorem dX0_init_20 : decode YX0_init.2.1 20 = .ok (.newarray .int, 2) := by decide +kernel
theorem dX0_init_22 : decode YX0_init.2.1 22 = .ok (.putfield 18, 3) := by decide +kernel
theorem dX0_init_25 : decode YX0_init.2.1 25 = .ok (.aload_n 0, 1) := by decide +kernel
theorem dX0_init_26 : decode YX0_init.2.1 26 = .ok (.iload_n 1, 1) := by decide +kernel
theorem dX0_init_27 : decode YX0_init.2.1 27 = .ok (.bipush 12, 2) := by decide +kernel
theorem dX0_init_29 : decode YX0_init.2.1 29 = .ok (.imul, 1) := by decide +kernel
theorem dX0_init_30 : decode YX0_init.2.1 30 = .ok (.newarray .int, 2) := by decide +kernel
theorem dX0_init_32 : decode YX0_init.2.1 32 = .ok (.putfield 21, 3) := by decide +kernel
theorem dX0_init_35 : decode YX0_init.2.1 35 = .ok (.aload_n 0, 1) := by decide +kernel
theorem dX0_init_36 : decode YX0_init.2.1 36 = .ok (.iload_n 1, 1) := by decide +kernel
theorem dX0_init_37 : decode YX0_init.2.1 37 = .ok (.bipush 8, 2) := by decide +kernel
theorem dX0_init_39 : decode YX0_init.2.1 39 = .ok (.imul, 1) := by decide +kernel
theorem dX0_init_40 : decode YX0_init.2.1 40 = .ok (.newarray .int, 2) := by decide +kernel
theorem dX0_init_42 : decode YX0_init.2.1 42 = .ok (.putfield 24, 3) := by decide +kernel
theorem dX0_init_45 : decode YX0_init.2.1 45 = .ok (.return_, 1) := by decide +kernel
theorem dX0_takeRow_0 : decode YX0_takeRow.2.1 0 = .ok (.aload_n 0, 1) := by decide +kernel
theorem dX0_takeRow_1 : decode YX0_takeRow.2.1 1 = .ok (.getfield 9, 3) := by decide +kernel
theorem dX0_takeRow_4 : decode YX0_takeRow.2.1 4 = .ok (.iload_n 1, 1) := by decide +kernel
theorem dX0_takeRow_5 : decode YX0_takeRow.2.1 5 = .ok (.aload_n 2, 1) := by decide +kernel
theorem dX0_takeRow_6 : decode YX0_takeRow.2.1 6 = .ok (.getfield 9, 3) := by decide +kernel
theorem dX0_takeRow_9 : decode YX0_takeRow.2.1 9 = .ok (.iload_n 3, 1) := by decide +kernel
theorem dX0_takeRow_10 : decode YX0_takeRow.2.1 10 = .ok (.iaload, 1) := by decide +kernel
theorem dX0_takeRow_11 : decode YX0_takeRow.2.1 11 = .ok (.iastore, 1) := by decide +kernel
theorem dX0_takeRow_12 : decode YX0_takeRow.2.1 12 = .ok (.aload_n 0, 1) := by decide +kernel
theorem dX0_takeRow_13 : decode YX0_takeRow.2.1 13 = .ok (.getfield 15, 3) := by decide +kernel
theorem dX0_takeRow_16 : decode YX0_takeRow.2.1 16 = .ok (.iload_n 1, 1) := by decide +kernel
theorem dX0_takeRow_17 : decode YX0_takeRow.2.1 17 = .ok (.aload_n 2, 1) := by decide +kernel
theorem dX0_takeRow_18 : decode YX0_takeRow.2.1 18 = .ok (.getfield 15, 3) := by decide +kernel
theorem dX0_takeRow_21 : decode YX0_takeRow.2.1 21 = .ok (.iload_n 3, 1) := by decide +kernel
theorem dX0_takeRow_22 : decode YX0_takeRow.2.1 22 = .ok (.iaload, 1) := by decide +kernel
theorem dX0_takeRow_23 : decode YX0_takeRow.2.1 23 = .ok (.iastore, 1) := by decide +kernel
theorem dX0_takeRow_24 : decode YX0_takeRow.2.1 24 = .ok (.aload_n 0, 1) := by decide +kernel
theorem dX0_takeRow_25 : decode YX0_takeRow.2.1 25 = .ok (.getfield 18, 3) := by decide +kernel
theorem dX0_takeRow_28 : decode YX0_takeRow.2.1 28 = .ok (.iload_n 1, 1) := by decide +kernel
theorem dX0_takeRow_29 : decode YX0_takeRow.2.1 29 = .ok (.aload_n 2, 1) := by decide +kernel
theorem dX0_takeRow_30 : decode YX0_takeRow.2.1 30 = .ok (.getfield 18, 3) := by decide +kernel
theorem dX0_takeRow_33 : decode YX0_takeRow.2.1 33 = .ok (.iload_n 3, 1) := by decide +kernel
theorem dX0_takeRow_34 : decode YX0_takeRow.2.1 34 = .ok (.iaload, 1) := by decide +kernel
theorem dX0_takeRow_35 : decode YX0_takeRow.2.1 35 = .ok (.iastore, 1) := by decide +kernel
theorem dX0_takeRow_36 : decode YX0_takeRow.2.1 36 = .ok (.aload_n 2, 1) := by decide +kernel
theorem dX0_takeRow_37 : decode YX0_takeRow.2.1 37 = .ok (.getfield 21, 3) := by decide +kernel
theorem dX0_takeRow_40 : decode YX0_takeRow.2.1 40 = .ok (.iload_n 3, 1) := by decide +kernel
theorem dX0_takeRow_41 : decode YX0_takeRow.2.1 41 = .ok (.bipush 12, 2) := by decide +kernel
theorem dX0_takeRow_43 : decode YX0_takeRow.2.1 43 = .ok (.imul, 1) := by decide +kernel
theorem dX0_takeRow_44 : decode YX0_takeRow.2.1 44 = .ok (.aload_n 0, 1) := by decide +kernel
theorem dX0_takeRow_45 : decode YX0_takeRow.2.1 45 = .ok (.getfield 21, 3) := by decide +kernel
theorem dX0_takeRow_48 : decode YX0_takeRow.2.1 48 = .ok (.iload_n 1, 1) := by decide +kernel
theorem dX0_takeRow_49 : decode YX0_takeRow.2.1 49 = .ok (.bipush 12, 2) := by decide +kernel
theorem dX0_takeRow_51 : decode YX0_takeRow.2.1 51 = .ok (.imul, 1) := by decide +kernel
theorem dX0_takeRow_52 : decode YX0_takeRow.2.1 52 = .ok (.bipush 12, 2) := by decide +kernel
theorem dX0_takeRow_54 : decode YX0_takeRow.2.1 54 = .ok (.invokestatic 27, 3) := by decide +kernel
theorem dX0_takeRow_57 : decode YX0_takeRow.2.1 57 = .ok (.aload_n 2, 1) := by decide +kernel
theorem dX0_takeRow_58 : decode YX0_takeRow.2.1 58 = .ok (.getfield 24, 3) := by decide +kernel
theorem dX0_takeRow_61 : decode YX0_takeRow.2.1 61 = .ok (.iload_n 3, 1) := by decide +kernel
theorem dX0_takeRow_62 : decode YX0_takeRow.2.1 62 = .ok (.bipush 8, 2) := by decide +kernel
theorem dX0_takeRow_64 : decode YX0_takeRow.2.1 64 = .ok (.imul, 1) := by decide +kernel
theorem dX0_takeRow_65 : decode YX0_takeRow.2.1 65 = .ok (.aload_n 0, 1) := by decide +kernel
theorem dX0_takeRow_66 : decode YX0_takeRow.2.1 66 = .ok (.getfield 24, 3) := by decide +kernel
theorem dX0_takeRow_69 : decode YX0_takeRow.2.1 69 = .ok (.iload_n 1, 1) := by decide +kernel
theorem dX0_takeRow_70 : decode YX0_takeRow.2.1 70 = .ok (.bipush 8, 2) := by decide +kernel
theorem dX0_takeRow_72 : decode YX0_takeRow.2.1 72 = .ok (.imul, 1) := by decide +kernel
theorem dX0_takeRow_73 : decode YX0_takeRow.2.1 73 = .ok (.bipush 8, 2) := by decide +kernel
theorem dX0_takeRow_75 : decode YX0_takeRow.2.1 75 = .ok (.invokestatic 27, 3) := by decide +kernel
theorem dX0_takeRow_78 : decode YX0_takeRow.2.1 78 = .ok (.return_, 1) := by decide +kernel
theorem dX0_takeRows_0 : decode YX0_takeRows.2.1 0 = .ok (.aload_n 1, 1) := by decide +kernel
theorem dX0_takeRows_1 : decode YX0_takeRows.2.1 1 = .ok (.getfield 9, 3) := by decide +kernel
theorem dX0_takeRows_4 : decode YX0_takeRows.2.1 4 = .ok (.iconst 0, 1) := by decide +kernel
theorem dX0_takeRows_5 : decode YX0_takeRows.2.1 5 = .ok (.aload_n 0, 1) := by decide +kernel
theorem dX0_takeRows_6 : decode YX0_takeRows.2.1 6 = .ok (.getfield 9, 3) := by decide +kernel
theorem dX0_takeRows_9 : decode YX0_takeRows.2.1 9 = .ok (.iconst 0, 1) := by decide +kernel
theorem dX0_takeRows_10 : decode YX0_takeRows.2.1 10 = .ok (.iload_n 2, 1) := by decide +kernel
theorem dX0_takeRows_11 : decode YX0_takeRows.2.1 11 = .ok (.invokestatic 27, 3) := by decide +kernel
theorem dX0_takeRows_14 : decode YX0_takeRows.2.1 14 = .ok (.aload_n 1, 1) := by decide +kernel
theorem dX0_takeRows_15 : decode YX0_takeRows.2.1 15 = .ok (.getfield 15, 3) := by decide +kernel
theorem dX0_takeRows_18 : decode YX0_takeRows.2.1 18 = .ok (.iconst 0, 1) := by decide +kernel
theorem dX0_takeRows_19 : decode YX0_takeRows.2.1 19 = .ok (.aload_n 0, 1) := by decide +kernel
theorem dX0_takeRows_20 : decode YX0_takeRows.2.1 20 = .ok (.getfield 15, 3) := by decide +kernel
theorem dX0_takeRows_23 : decode YX0_takeRows.2.1 23 = .ok (.iconst 0, 1) := by decide +kernel
theorem dX0_takeRows_24 : decode YX0_takeRows.2.1 24 = .ok (.iload_n 2, 1) := by decide +kernel
theorem dX0_takeRows_25 : decode YX0_takeRows.2.1 25 = .ok (.invokestatic 27, 3) := by decide +kernel
theorem dX0_takeRows_28 : decode YX0_takeRows.2.1 28 = .ok (.aload_n 1, 1) := by decide +kernel
theorem dX0_takeRows_29 : decode YX0_takeRows.2.1 29 = .ok (.getfield 18, 3) := by decide +kernel
theorem dX0_takeRows_32 : decode YX0_takeRows.2.1 32 = .ok (.iconst 0, 1) := by decide +kernel
theorem dX0_takeRows_33 : decode YX0_takeRows.2.1 33 = .ok (.aload_n 0, 1) := by decide +kernel
theorem dX0_takeRows_34 : decode YX0_takeRows.2.1 34 = .ok (.getfield 18, 3) := by decide +kernel
theorem dX0_takeRows_37 : decode YX0_takeRows.2.1 37 = .ok (.iconst 0, 1) := by decide +kernel
theorem dX0_takeRows_38 : decode YX0_takeRows.2.1 38 = .ok (.iload_n 2, 1) := by decide +kernel
theorem dX0_takeRows_39 : decode YX0_takeRows.2.1 39 = .ok (.invokestatic 27, 3) := by decide +kernel
theorem dX0_takeRows_42 : decode YX0_takeRows.2.1 42 = .ok (.aload_n 1, 1) := by decide +kernel
theorem dX0_takeRows_43 : decode YX0_takeRows.2.1 43 = .ok (.getfield 21, 3) := by decide +kernel
theorem dX0_takeRows_46 : decode YX0_takeRows.2.1 46 = .ok (.iconst 0, 1) := by decide +kernel
theorem dX0_takeRows_47 : decode YX0_takeRows.2.1 47 = .ok (.aload_n 0, 1) := by decide +kernel
theorem dX0_takeRows_48 : decode YX0_takeRows.2.1 48 = .ok (.getfield 21, 3) := by decide +kernel
theorem dX0_takeRows_51 : decode YX0_takeRows.2.1 51 = .ok (.iconst 0, 1) := by decide +kernel
theorem dX0_takeRows_52 : decode YX0_takeRows.2.1 52 = .ok (.iload_n 2, 1) := by decide +kernel
theorem dX0_takeRows_53 : decode YX0_takeRows.2.1 53 = .ok (.bipush 12, 2) := by decide +kernel
theorem dX0_takeRows_55 : decode YX0_takeRows.2.1 55 = .ok (.imul, 1) := by decide +kernel
theorem dX0_takeRows_56 : decode YX0_takeRows.2.1 56 = .ok (.invokestatic 27, 3) := by decide +kernel
theorem dX0_takeRows_59 : decode YX0_takeRows.2.1 59 = .ok (.aload_n 1, 1) := by decide +kernel
theorem dX0_takeRows_60 : decode YX0_takeRows.2.1 60 = .ok (.getfield 24, 3) := by decide +kernel
theorem dX0_takeRows_63 : decode YX0_takeRows.2.1 63 = .ok (.iconst 0, 1) := by decide +kernel
theorem dX0_takeRows_64 : decode YX0_takeRows.2.1 64 = .ok (.aload_n 0, 1) := by decide +kernel
theorem dX0_takeRows_65 : decode YX0_takeRows.2.1 65 = .ok (.getfield 24, 3) := by decide +kernel
theorem dX0_takeRows_68 : decode YX0_takeRows.2.1 68 = .ok (.iconst 0, 1) := by decide +kernel
theorem dX0_takeRows_69 : decode YX0_takeRows.2.1 69 = .ok (.iload_n 2, 1) := by decide +kernel
theorem dX0_takeRows_70 : decode YX0_takeRows.2.1 70 = .ok (.bipush 8, 2) := by decide +kernel
theorem dX0_takeRows_72 : decode YX0_takeRows.2.1 72 = .ok (.imul, 1) := by decide +kernel
theorem dX0_takeRows_73 : decode YX0_takeRows.2.1 73 = .ok (.invokestatic 27, 3) := by decide +kernel
theorem dX0_takeRows_76 : decode YX0_takeRows.2.1 76 = .ok (.return_, 1) := by decide +kernel
theorem dX0_forget_0 : decode YX0_forget.2.1 0 = .ok (.aload_n 0, 1) := by decide +kernel
theorem dX0_forget_1 : decode YX0_forget.2.1 1 = .ok (.getfield 9, 3) := by decide +kernel
theorem dX0_forget_4 : decode YX0_forget.2.1 4 = .ok (.iload_n 1, 1) := by decide +kernel
theorem dX0_forget_5 : decode YX0_forget.2.1 5 = .ok (.iconst 0, 1) := by decide +kernel
theorem dX0_forget_6 : decode YX0_forget.2.1 6 = .ok (.iastore, 1) := by decide +kernel
theorem dX0_forget_7 : decode YX0_forget.2.1 7 = .ok (.aload_n 0, 1) := by decide +kernel
theorem dX0_forget_8 : decode YX0_forget.2.1 8 = .ok (.getfield 18, 3) := by decide +kernel
theorem dX0_forget_11 : decode YX0_forget.2.1 11 = .ok (.iload_n 1, 1) := by decide +kernel
theorem dX0_forget_12 : decode YX0_forget.2.1 12 = .ok (.iconst 0, 1) := by decide +kernel
theorem dX0_forget_13 : decode YX0_forget.2.1 13 = .ok (.iastore, 1) := by decide +kernel
theorem dX0_forget_14 : decode YX0_forget.2.1 14 = .ok (.return_, 1) := by decide +kernel
theorem dX0_tellsLink_0 : decode YX0_tellsLink.2.1 0 = .ok (.aload_n 0, 1) := by decide +kernel
theorem dX0_tellsLink_1 : decode YX0_tellsLink.2.1 1 = .ok (.getfield 18, 3) := by decide +kernel
theorem dX0_tellsLink_4 : decode YX0_tellsLink.2.1 4 = .ok (.iload_n 1, 1) := by decide +kernel
theorem dX0_tellsLink_5 : decode YX0_tellsLink.2.1 5 = .ok (.iaload, 1) := by decide +kernel
theorem dX0_tellsLink_6 : decode YX0_tellsLink.2.1 6 = .ok (.iload_n 2, 1) := by decide +kernel
theorem dX0_tellsLink_7 : decode YX0_tellsLink.2.1 7 = .ok (.ishr, 1) := by decide +kernel
theorem dX0_tellsLink_8 : decode YX0_tellsLink.2.1 8 = .ok (.iconst 1, 1) := by decide +kernel
theorem dX0_tellsLink_9 : decode YX0_tellsLink.2.1 9 = .ok (.iand, 1) := by decide +kernel
theorem dX0_tellsLink_10 : decode YX0_tellsLink.2.1 10 = .ok (.ifCond .eq 7, 3) := by decide +kernel
theorem dX0_tellsLink_13 : decode YX0_tellsLink.2.1 13 = .ok (.iconst 1, 1) := by decide +kernel
theorem dX0_tellsLink_14 : decode YX0_tellsLink.2.1 14 = .ok (.goto 4, 3) := by decide +kernel
theorem dX0_tellsLink_17 : decode YX0_tellsLink.2.1 17 = .ok (.iconst 0, 1) := by decide +kernel
theorem dX0_tellsLink_18 : decode YX0_tellsLink.2.1 18 = .ok (.ireturn, 1) := by decide +kernel
theorem dX0_tellsAs_0 : decode YX0_tellsAs.2.1 0 = .ok (.aload_n 0, 1) := by decide +kernel
theorem dX0_tellsAs_1 : decode YX0_tellsAs.2.1 1 = .ok (.getfield 18, 3) := by decide +kernel
theorem dX0_tellsAs_4 : decode YX0_tellsAs.2.1 4 = .ok (.iload_n 1, 1) := by decide +kernel
theorem dX0_tellsAs_5 : decode YX0_tellsAs.2.1 5 = .ok (.iaload, 1) := by decide +kernel
theorem dX0_tellsAs_6 : decode YX0_tellsAs.2.1 6 = .ok (.aload_n 2, 1) := by decide +kernel
theorem dX0_tellsAs_7 : decode YX0_tellsAs.2.1 7 = .ok (.getfield 18, 3) := by decide +kernel
theorem dX0_tellsAs_10 : decode YX0_tellsAs.2.1 10 = .ok (.iload_n 3, 1) := by decide +kernel
theorem dX0_tellsAs_11 : decode YX0_tellsAs.2.1 11 = .ok (.iaload, 1) := by decide +kernel
theorem dX0_tellsAs_12 : decode YX0_tellsAs.2.1 12 = .ok (.if_icmp .eq 5, 3) := by decide +kernel
theorem dX0_tellsAs_15 : decode YX0_tellsAs.2.1 15 = .ok (.iconst 0, 1) := by decide +kernel
theorem dX0_tellsAs_16 : decode YX0_tellsAs.2.1 16 = .ok (.ireturn, 1) := by decide +kernel
theorem dX0_tellsAs_17 : decode YX0_tellsAs.2.1 17 = .ok (.iconst 0, 1) := by decide +kernel
theorem dX0_tellsAs_18 : decode YX0_tellsAs.2.1 18 = .ok (.istore 4, 2) := by decide +kernel
theorem dX0_tellsAs_20 : decode YX0_tellsAs.2.1 20 = .ok (.iload 4, 2) := by decide +kernel
theorem dX0_tellsAs_22 : decode YX0_tellsAs.2.1 22 = .ok (.bipush 12, 2) := by decide +kernel
theorem dX0_tellsAs_24 : decode YX0_tellsAs.2.1 24 = .ok (.if_icmp .ge 38, 3) := by decide +kernel
theorem dX0_tellsAs_27 : decode YX0_tellsAs.2.1 27 = .ok (.aload_n 0, 1) := by decide +kernel
theorem dX0_tellsAs_28 : decode YX0_tellsAs.2.1 28 = .ok (.getfield 21, 3) := by decide +kernel
theorem dX0_tellsAs_31 : decode YX0_tellsAs.2.1 31 = .ok (.iload_n 1, 1) := by decide +kernel
theorem dX0_tellsAs_32 : decode YX0_tellsAs.2.1 32 = .ok (.bipush 12, 2) := by decide +kernel
theorem dX0_tellsAs_34 : decode YX0_tellsAs.2.1 34 = .ok (.imul, 1) := by decide +kernel
theorem dX0_tellsAs_35 : decode YX0_tellsAs.2.1 35 = .ok (.iload 4, 2) := by decide +kernel
theorem dX0_tellsAs_37 : decode YX0_tellsAs.2.1 37 = .ok (.iadd, 1) := by decide +kernel
theorem dX0_tellsAs_38 : decode YX0_tellsAs.2.1 38 = .ok (.iaload, 1) := by decide +kernel
theorem dX0_tellsAs_39 : decode YX0_tellsAs.2.1 39 = .ok (.aload_n 2, 1) := by decide +kernel
theorem dX0_tellsAs_40 : decode YX0_tellsAs.2.1 40 = .ok (.getfield 21, 3) := by decide +kernel
theorem dX0_tellsAs_43 : decode YX0_tellsAs.2.1 43 = .ok (.iload_n 3, 1) := by decide +kernel
theorem dX0_tellsAs_44 : decode YX0_tellsAs.2.1 44 = .ok (.bipush 12, 2) := by decide +kernel
theorem dX0_tellsAs_46 : decode YX0_tellsAs.2.1 46 = .ok (.imul, 1) := by decide +kernel
theorem dX0_tellsAs_47 : decode YX0_tellsAs.2.1 47 = .ok (.iload 4, 2) := by decide +kernel
theorem dX0_tellsAs_49 : decode YX0_tellsAs.2.1 49 = .ok (.iadd, 1) := by decide +kernel
theorem dX0_tellsAs_50 : decode YX0_tellsAs.2.1 50 = .ok (.iaload, 1) := by decide +kernel
theorem dX0_tellsAs_51 : decode YX0_tellsAs.2.1 51 = .ok (.if_icmp .eq 5, 3) := by decide +kernel
theorem dX0_tellsAs_54 : decode YX0_tellsAs.2.1 54 = .ok (.iconst 0, 1) := by decide +kernel
theorem dX0_tellsAs_55 : decode YX0_tellsAs.2.1 55 = .ok (.ireturn, 1) := by decide +kernel
theorem dX0_tellsAs_56 : decode YX0_tellsAs.2.1 56 = .ok (.iinc 4 1, 3) := by decide +kernel
theorem dX0_tellsAs_59 : decode YX0_tellsAs.2.1 59 = .ok (.goto (-39), 3) := by decide +kernel
theorem dX0_tellsAs_62 : decode YX0_tellsAs.2.1 62 = .ok (.iconst 0, 1) := by decide +kernel
theorem dX0_tellsAs_63 : decode YX0_tellsAs.2.1 63 = .ok (.istore 4, 2) := by decide +kernel
theorem dX0_tellsAs_65 : decode YX0_tellsAs.2.1 65 = .ok (.iload 4, 2) := by decide +kernel
theorem dX0_tellsAs_67 : decode YX0_tellsAs.2.1 67 = .ok (.bipush 8, 2) := by decide +kernel
theorem dX0_tellsAs_69 : decode YX0_tellsAs.2.1 69 = .ok (.if_icmp .ge 38, 3) := by decide +kernel
theorem dX0_tellsAs_72 : decode YX0_tellsAs.2.1 72 = .ok (.aload_n 0, 1) := by decide +kernel
theorem dX0_tellsAs_73 : decode YX0_tellsAs.2.1 73 = .ok (.getfield 24, 3) := by decide +kernel
theorem dX0_tellsAs_76 : decode YX0_tellsAs.2.1 76 = .ok (.iload_n 1, 1) := by decide +kernel
theorem dX0_tellsAs_77 : decode YX0_tellsAs.2.1 77 = .ok (.bipush 8, 2) := by decide +kernel
theorem dX0_tellsAs_79 : decode YX0_tellsAs.2.1 79 = .ok (.imul, 1) := by decide +kernel
theorem dX0_tellsAs_80 : decode YX0_tellsAs.2.1 80 = .ok (.iload 4, 2) := by decide +kernel
theorem dX0_tellsAs_82 : decode YX0_tellsAs.2.1 82 = .ok (.iadd, 1) := by decide +kernel
theorem dX0_tellsAs_83 : decode YX0_tellsAs.2.1 83 = .ok (.iaload, 1) := by decide +kernel
theorem dX0_tellsAs_84 : decode YX0_tellsAs.2.1 84 = .ok (.aload_n 2, 1) := by decide +kernel
theorem dX0_tellsAs_85 : decode YX0_tellsAs.2.1 85 = .ok (.getfield 24, 3) := by decide +kernel
theorem dX0_tellsAs_88 : decode YX0_tellsAs.2.1 88 = .ok (.iload_n 3, 1) := by decide +kernel
theorem dX0_tellsAs_89 : decode YX0_tellsAs.2.1 89 = .ok (.bipush 8, 2) := by decide +kernel
theorem dX0_tellsAs_91 : decode YX0_tellsAs.2.1 91 = .ok (.imul, 1) := by decide +kernel
theorem dX0_tellsAs_92 : decode YX0_tellsAs.2.1 92 = .ok (.iload 4, 2) := by decide +kernel
theorem dX0_tellsAs_94 : decode YX0_tellsAs.2.1 94 = .ok (.iadd, 1) := by decide +kernel
theorem dX0_tellsAs_95 : decode YX0_tellsAs.2.1 95 = .ok (.iaload, 1) := by decide +kernel
theorem dX0_tellsAs_96 : decode YX0_tellsAs.2.1 96 = .ok (.if_icmp .eq 5, 3) := by decide +kernel
theorem dX0_tellsAs_99 : decode YX0_tellsAs.2.1 99 = .ok (.iconst 0, 1) := by decide +kernel
theorem dX0_tellsAs_100 : decode YX0_tellsAs.2.1 100 = .ok (.ireturn, 1) := by decide +kernel
theorem dX0_tellsAs_101 : decode YX0_tellsAs.2.1 101 = .ok (.iinc 4 1, 3) := by decide +kernel
theorem dX0_tellsAs_104 : decode YX0_tellsAs.2.1 104 = .ok (.goto (-39), 3) := by decide +kernel
theorem dX0_tellsAs_107 : decode YX0_tellsAs.2.1 107 = .ok (.iconst 1, 1) := by decide +kernel
theorem dX0_tellsAs_108 : decode YX0_tellsAs.2.1 108 = .ok (.ireturn, 1) := by decide +kernel
theorem dX1_init_0 : decode YX1_init.2.1 0 = .ok (.aload_n 0, 1) := by decide +kernel
theorem dX1_init_1 : decode YX1_init.2.1 1 = .ok (.invokespecial 3, 3) := by decide +kernel
theorem dX1_init_4 : decode YX1_init.2.1 4 = .ok (.aload_n 0, 1) := by decide +kernel
theorem dX1_init_5 : decode YX1_init.2.1 5 = .ok (.bipush 12, 2) := by decide +kernel
theorem dX1_init_7 : decode YX1_init.2.1 7 = .ok (.newarray .int, 2) := by decide +kernel
theorem dX1_init_9 : decode YX1_init.2.1 9 = .ok (.putfield 9, 3) := by decide +kernel
theorem dX1_init_12 : decode YX1_init.2.1 12 = .ok (.aload_n 0, 1) := by decide +kernel
theorem dX1_init_13 : decode YX1_init.2.1 13 = .ok (.bipush 12, 2) := by decide +kernel
theorem dX1_init_15 : decode YX1_init.2.1 15 = .ok (.newarray .int, 2) := by decide +kernel
theorem dX1_init_17 : decode YX1_init.2.1 17 = .ok (.putfield 15, 3) := by decide +kernel
theorem dX1_init_20 : decode YX1_init.2.1 20 = .ok (.aload_n 0, 1) := by decide +kernel
theorem dX1_init_21 : decode YX1_init.2.1 21 = .ok (.bipush 12, 2) := by decide +kernel
theorem dX1_init_23 : decode YX1_init.2.1 23 = .ok (.newarray .int, 2) := by decide +kernel
theorem dX1_init_25 : decode YX1_init.2.1 25 = .ok (.putfield 18, 3) := by decide +kernel
theorem dX1_init_28 : decode YX1_init.2.1 28 = .ok (.aload_n 0, 1) := by decide +kernel
theorem dX1_init_29 : decode YX1_init.2.1 29 = .ok (.bipush 12, 2) := by decide +kernel
theorem dX1_init_31 : decode YX1_init.2.1 31 = .ok (.newarray .int, 2) := by decide +kernel
theorem dX1_init_33 : decode YX1_init.2.1 33 = .ok (.putfield 21, 3) := by decide +kernel
theorem dX1_init_36 : decode YX1_init.2.1 36 = .ok (.aload_n 0, 1) := by decide +kernel
theorem dX1_init_37 : decode YX1_init.2.1 37 = .ok (.bipush 12, 2) := by decide +kernel
theorem dX1_init_39 : decode YX1_init.2.1 39 = .ok (.newarray .int, 2) := by decide +kernel
theorem dX1_init_41 : decode YX1_init.2.1 41 = .ok (.putfield 24, 3) := by decide +kernel
theorem dX1_init_44 : decode YX1_init.2.1 44 = .ok (.aload_n 0, 1) := by decide +kernel
theorem dX1_init_45 : decode YX1_init.2.1 45 = .ok (.bipush 12, 2) := by decide +kernel
theorem dX1_init_47 : decode YX1_init.2.1 47 = .ok (.newarray .boolean, 2) := by decide +kernel
theorem dX1_init_49 : decode YX1_init.2.1 49 = .ok (.putfield 27, 3) := by decide +kernel
theorem dX1_init_52 : decode YX1_init.2.1 52 = .ok (.aload_n 0, 1) := by decide +kernel
theorem dX1_init_53 : decode YX1_init.2.1 53 = .ok (.bipush 8, 2) := by decide +kernel
theorem dX1_init_55 : decode YX1_init.2.1 55 = .ok (.newarray .int, 2) := by decide +kernel
theorem dX1_init_57 : decode YX1_init.2.1 57 = .ok (.putfield 31, 3) := by decide +kernel
theorem dX1_init_60 : decode YX1_init.2.1 60 = .ok (.return_, 1) := by decide +kernel
theorem dX1_has_0 : decode YX1_has.2.1 0 = .ok (.iload_n 1, 1) := by decide +kernel
theorem dX1_has_1 : decode YX1_has.2.1 1 = .ok (.ifCond .lt 15, 3) := by decide +kernel
theorem dX1_has_4 : decode YX1_has.2.1 4 = .ok (.iload_n 1, 1) := by decide +kernel
theorem dX1_has_5 : decode YX1_has.2.1 5 = .ok (.aload_n 0, 1) := by decide +kernel
theorem dX1_has_6 : decode YX1_has.2.1 6 = .ok (.getfield 34, 3) := by decide +kernel
theorem dX1_has_9 : decode YX1_has.2.1 9 = .ok (.if_icmp .ge 7, 3) := by decide +kernel
theorem dX1_has_12 : decode YX1_has.2.1 12 = .ok (.iconst 1, 1) := by decide +kernel
theorem dX1_has_13 : decode YX1_has.2.1 13 = .ok (.goto 4, 3) := by decide +kernel
theorem dX1_has_16 : decode YX1_has.2.1 16 = .ok (.iconst 0, 1) := by decide +kernel
theorem dX1_has_17 : decode YX1_has.2.1 17 = .ok (.ireturn, 1) := by decide +kernel
theorem dX1_add_0 : decode YX1_add.2.1 0 = .ok (.aload_n 0, 1) := by decide +kernel
theorem dX1_add_1 : decode YX1_add.2.1 1 = .ok (.getfield 34, 3) := by decide +kernel
theorem dX1_add_4 : decode YX1_add.2.1 4 = .ok (.istore 6, 2) := by decide +kernel
theorem dX1_add_6 : decode YX1_add.2.1 6 = .ok (.aload_n 0, 1) := by decide +kernel
theorem dX1_add_7 : decode YX1_add.2.1 7 = .ok (.getfield 9, 3) := by decide +kernel
theorem dX1_add_10 : decode YX1_add.2.1 10 = .ok (.iload 6, 2) := by decide +kernel
theorem dX1_add_12 : decode YX1_add.2.1 12 = .ok (.iload_n 1, 1) := by decide +kernel
theorem dX1_add_13 : decode YX1_add.2.1 13 = .ok (.iastore, 1) := by decide +kernel
theorem dX1_add_14 : decode YX1_add.2.1 14 = .ok (.aload_n 0, 1) := by decide +kernel
theorem dX1_add_15 : decode YX1_add.2.1 15 = .ok (.getfield 15, 3) := by decide +kernel
theorem dX1_add_18 : decode YX1_add.2.1 18 = .ok (.iload 6, 2) := by decide +kernel
theorem dX1_add_20 : decode YX1_add.2.1 20 = .ok (.iload_n 2, 1) := by decide +kernel
theorem dX1_add_21 : decode YX1_add.2.1 21 = .ok (.iastore, 1) := by decide +kernel
theorem dX1_add_22 : decode YX1_add.2.1 22 = .ok (.aload_n 0, 1) := by decide +kernel
theorem dX1_add_23 : decode YX1_add.2.1 23 = .ok (.getfield 18, 3) := by decide +kernel
theorem dX1_add_26 : decode YX1_add.2.1 26 = .ok (.iload 6, 2) := by decide +kernel
theorem dX1_add_28 : decode YX1_add.2.1 28 = .ok (.iload_n 3, 1) := by decide +kernel
theorem dX1_add_29 : decode YX1_add.2.1 29 = .ok (.iastore, 1) := by decide +kernel
theorem dX1_add_30 : decode YX1_add.2.1 30 = .ok (.aload_n 0, 1) := by decide +kernel
theorem dX1_add_31 : decode YX1_add.2.1 31 = .ok (.getfield 21, 3) := by decide +kernel
theorem dX1_add_34 : decode YX1_add.2.1 34 = .ok (.iload 6, 2) := by decide +kernel
theorem dX1_add_36 : decode YX1_add.2.1 36 = .ok (.iload 4, 2) := by decide +kernel
theorem dX1_add_38 : decode YX1_add.2.1 38 = .ok (.iastore, 1) := by decide +kernel
theorem dX1_add_39 : decode YX1_add.2.1 39 = .ok (.aload_n 0, 1) := by decide +kernel
theorem dX1_add_40 : decode YX1_add.2.1 40 = .ok (.getfield 24, 3) := by decide +kernel
theorem dX1_add_43 : decode YX1_add.2.1 43 = .ok (.iload 6, 2) := by decide +kernel
theorem dX1_add_45 : decode YX1_add.2.1 45 = .ok (.iload 5, 2) := by decide +kernel
theorem dX1_add_47 : decode YX1_add.2.1 47 = .ok (.iastore, 1) := by decide +kernel
theorem dX1_add_48 : decode YX1_add.2.1 48 = .ok (.aload_n 0, 1) := by decide +kernel
theorem dX1_add_49 : decode YX1_add.2.1 49 = .ok (.getfield 27, 3) := by decide +kernel
theorem dX1_add_52 : decode YX1_add.2.1 52 = .ok (.iload 6, 2) := by decide +kernel
theorem dX1_add_54 : decode YX1_add.2.1 54 = .ok (.iconst 1, 1) := by decide +kernel
theorem dX1_add_55 : decode YX1_add.2.1 55 = .ok (.bastore, 1) := by decide +kernel
theorem dX1_add_56 : decode YX1_add.2.1 56 = .ok (.aload_n 0, 1) := by decide +kernel
theorem dX1_add_57 : decode YX1_add.2.1 57 = .ok (.dup, 1) := by decide +kernel
theorem dX1_add_58 : decode YX1_add.2.1 58 = .ok (.getfield 34, 3) := by decide +kernel
theorem dX1_add_61 : decode YX1_add.2.1 61 = .ok (.iconst 1, 1) := by decide +kernel
theorem dX1_add_62 : decode YX1_add.2.1 62 = .ok (.iadd, 1) := by decide +kernel
theorem dX1_add_63 : decode YX1_add.2.1 63 = .ok (.putfield 34, 3) := by decide +kernel
theorem dX1_add_66 : decode YX1_add.2.1 66 = .ok (.iload 6, 2) := by decide +kernel
theorem dX1_add_68 : decode YX1_add.2.1 68 = .ok (.ireturn, 1) := by decide +kernel
theorem dX1_takeOver_0 : decode YX1_takeOver.2.1 0 = .ok (.aload_n 0, 1) := by decide +kernel
theorem dX1_takeOver_1 : decode YX1_takeOver.2.1 1 = .ok (.aload_n 1, 1) := by decide +kernel
theorem dX1_takeOver_2 : decode YX1_takeOver.2.1 2 = .ok (.getfield 34, 3) := by decide +kernel
theorem dX1_takeOver_5 : decode YX1_takeOver.2.1 5 = .ok (.putfield 34, 3) := by decide +kernel
theorem dX1_takeOver_8 : decode YX1_takeOver.2.1 8 = .ok (.aload_n 1, 1) := by decide +kernel
theorem dX1_takeOver_9 : decode YX1_takeOver.2.1 9 = .ok (.getfield 9, 3) := by decide +kernel
theorem dX1_takeOver_12 : decode YX1_takeOver.2.1 12 = .ok (.iconst 0, 1) := by decide +kernel
theorem dX1_takeOver_13 : decode YX1_takeOver.2.1 13 = .ok (.aload_n 0, 1) := by decide +kernel
theorem dX1_takeOver_14 : decode YX1_takeOver.2.1 14 = .ok (.getfield 9, 3) := by decide +kernel
theorem dX1_takeOver_17 : decode YX1_takeOver.2.1 17 = .ok (.iconst 0, 1) := by decide +kernel
theorem dX1_takeOver_18 : decode YX1_takeOver.2.1 18 = .ok (.bipush 12, 2) := by decide +kernel
theorem dX1_takeOver_20 : decode YX1_takeOver.2.1 20 = .ok (.invokestatic 38, 3) := by decide +kernel
theorem dX1_takeOver_23 : decode YX1_takeOver.2.1 23 = .ok (.aload_n 1, 1) := by decide +kernel
theorem dX1_takeOver_24 : decode YX1_takeOver.2.1 24 = .ok (.getfield 15, 3) := by decide +kernel
theorem dX1_takeOver_27 : decode YX1_takeOver.2.1 27 = .ok (.iconst 0, 1) := by decide +kernel
theorem dX1_takeOver_28 : decode YX1_takeOver.2.1 28 = .ok (.aload_n 0, 1) := by decide +kernel
theorem dX1_takeOver_29 : decode YX1_takeOver.2.1 29 = .ok (.getfield 15, 3) := by decide +kernel
theorem dX1_takeOver_32 : decode YX1_takeOver.2.1 32 = .ok (.iconst 0, 1) := by decide +kernel
theorem dX1_takeOver_33 : decode YX1_takeOver.2.1 33 = .ok (.bipush 12, 2) := by decide +kernel
theorem dX1_takeOver_35 : decode YX1_takeOver.2.1 35 = .ok (.invokestatic 38, 3) := by decide +kernel
theorem dX1_takeOver_38 : decode YX1_takeOver.2.1 38 = .ok (.aload_n 1, 1) := by decide +kernel
theorem dX1_takeOver_39 : decode YX1_takeOver.2.1 39 = .ok (.getfield 18, 3) := by decide +kernel
theorem dX1_takeOver_42 : decode YX1_takeOver.2.1 42 = .ok (.iconst 0, 1) := by decide +kernel
theorem dX1_takeOver_43 : decode YX1_takeOver.2.1 43 = .ok (.aload_n 0, 1) := by decide +kernel
theorem dX1_takeOver_44 : decode YX1_takeOver.2.1 44 = .ok (.getfield 18, 3) := by decide +kernel
theorem dX1_takeOver_47 : decode YX1_takeOver.2.1 47 = .ok (.iconst 0, 1) := by decide +kernel
theorem dX1_takeOver_48 : decode YX1_takeOver.2.1 48 = .ok (.bipush 12, 2) := by decide +kernel
theorem dX1_takeOver_50 : decode YX1_takeOver.2.1 50 = .ok (.invokestatic 38, 3) := by decide +kernel
theorem dX1_takeOver_53 : decode YX1_takeOver.2.1 53 = .ok (.aload_n 1, 1) := by decide +kernel
theorem dX1_takeOver_54 : decode YX1_takeOver.2.1 54 = .ok (.getfield 21, 3) := by decide +kernel
theorem dX1_takeOver_57 : decode YX1_takeOver.2.1 57 = .ok (.iconst 0, 1) := by decide +kernel
theorem dX1_takeOver_58 : decode YX1_takeOver.2.1 58 = .ok (.aload_n 0, 1) := by decide +kernel
theorem dX1_takeOver_59 : decode YX1_takeOver.2.1 59 = .ok (.getfield 21, 3) := by decide +kernel
theorem dX1_takeOver_62 : decode YX1_takeOver.2.1 62 = .ok (.iconst 0, 1) := by decide +kernel
theorem dX1_takeOver_63 : decode YX1_takeOver.2.1 63 = .ok (.bipush 12, 2) := by decide +kernel
theorem dX1_takeOver_65 : decode YX1_takeOver.2.1 65 = .ok (.invokestatic 38, 3) := by decide +kernel
theorem dX1_takeOver_68 : decode YX1_takeOver.2.1 68 = .ok (.aload_n 1, 1) := by decide +kernel
theorem dX1_takeOver_69 : decode YX1_takeOver.2.1 69 = .ok (.getfield 24, 3) := by decide +kernel
theorem dX1_takeOver_72 : decode YX1_takeOver.2.1 72 = .ok (.iconst 0, 1) := by decide +kernel
theorem dX1_takeOver_73 : decode YX1_takeOver.2.1 73 = .ok (.aload_n 0, 1) := by decide +kernel
theorem dX1_takeOver_74 : decode YX1_takeOver.2.1 74 = .ok (.getfield 24, 3) := by decide +kernel
theorem dX1_takeOver_77 : decode YX1_takeOver.2.1 77 = .ok (.iconst 0, 1) := by decide +kernel
theorem dX1_takeOver_78 : decode YX1_takeOver.2.1 78 = .ok (.bipush 12, 2) := by decide +kernel
theorem dX1_takeOver_80 : decode YX1_takeOver.2.1 80 = .ok (.invokestatic 38, 3) := by decide +kernel
theorem dX1_takeOver_83 : decode YX1_takeOver.2.1 83 = .ok (.aload_n 1, 1) := by decide +kernel
theorem dX1_takeOver_84 : decode YX1_takeOver.2.1 84 = .ok (.getfield 27, 3) := by decide +kernel
theorem dX1_takeOver_87 : decode YX1_takeOver.2.1 87 = .ok (.iconst 0, 1) := by decide +kernel
theorem dX1_takeOver_88 : decode YX1_takeOver.2.1 88 = .ok (.aload_n 0, 1) := by decide +kernel
theorem dX1_takeOver_89 : decode YX1_takeOver.2.1 89 = .ok (.getfield 27, 3) := by decide +kernel
theorem dX1_takeOver_92 : decode YX1_takeOver.2.1 92 = .ok (.iconst 0, 1) := by decide +kernel
theorem dX1_takeOver_93 : decode YX1_takeOver.2.1 93 = .ok (.bipush 12, 2) := by decide +kernel
theorem dX1_takeOver_95 : decode YX1_takeOver.2.1 95 = .ok (.invokestatic 38, 3) := by decide +kernel
theorem dX1_takeOver_98 : decode YX1_takeOver.2.1 98 = .ok (.return_, 1) := by decide +kernel
theorem dX1_isUpAt_0 : decode YX1_isUpAt.2.1 0 = .ok (.aload_n 0, 1) := by decide +kernel
theorem dX1_isUpAt_1 : decode YX1_isUpAt.2.1 1 = .ok (.getfield 27, 3) := by decide +kernel
theorem dX1_isUpAt_4 : decode YX1_isUpAt.2.1 4 = .ok (.iload_n 1, 1) := by decide +kernel
theorem dX1_isUpAt_5 : decode YX1_isUpAt.2.1 5 = .ok (.baload, 1) := by decide +kernel
theorem dX1_isUpAt_6 : decode YX1_isUpAt.2.1 6 = .ok (.ifCond .eq 27, 3) := by decide +kernel
theorem dX1_isUpAt_9 : decode YX1_isUpAt.2.1 9 = .ok (.aload_n 0, 1) := by decide +kernel
theorem dX1_isUpAt_10 : decode YX1_isUpAt.2.1 10 = .ok (.getfield 9, 3) := by decide +kernel
theorem dX1_isUpAt_13 : decode YX1_isUpAt.2.1 13 = .ok (.iload_n 1, 1) := by decide +kernel
theorem dX1_isUpAt_14 : decode YX1_isUpAt.2.1 14 = .ok (.iaload, 1) := by decide +kernel
theorem dX1_isUpAt_15 : decode YX1_isUpAt.2.1 15 = .ok (.iload_n 2, 1) := by decide +kernel
theorem dX1_isUpAt_16 : decode YX1_isUpAt.2.1 16 = .ok (.if_icmp .eq 13, 3) := by decide +kernel
theorem dX1_isUpAt_19 : decode YX1_isUpAt.2.1 19 = .ok (.aload_n 0, 1) := by decide +kernel
theorem dX1_isUpAt_20 : decode YX1_isUpAt.2.1 20 = .ok (.getfield 15, 3) := by decide +kernel
theorem dX1_isUpAt_23 : decode YX1_isUpAt.2.1 23 = .ok (.iload_n 1, 1) := by decide +kernel
theorem dX1_isUpAt_24 : decode YX1_isUpAt.2.1 24 = .ok (.iaload, 1) := by decide +kernel
theorem dX1_isUpAt_25 : decode YX1_isUpAt.2.1 25 = .ok (.iload_n 2, 1) := by decide +kernel
theorem dX1_isUpAt_26 : decode YX1_isUpAt.2.1 26 = .ok (.if_icmp .ne 7, 3) := by decide +kernel
theorem dX1_isUpAt_29 : decode YX1_isUpAt.2.1 29 = .ok (.iconst 1, 1) := by decide +kernel
theorem dX1_isUpAt_30 : decode YX1_isUpAt.2.1 30 = .ok (.goto 4, 3) := by decide +kernel
theorem dX1_isUpAt_33 : decode YX1_isUpAt.2.1 33 = .ok (.iconst 0, 1) := by decide +kernel
theorem dX1_isUpAt_34 : decode YX1_isUpAt.2.1 34 = .ok (.ireturn, 1) := by decide +kernel
theorem dX1_otherEnd_0 : decode YX1_otherEnd.2.1 0 = .ok (.aload_n 0, 1) := by decide +kernel
theorem dX1_otherEnd_1 : decode YX1_otherEnd.2.1 1 = .ok (.getfield 9, 3) := by decide +kernel
theorem dX1_otherEnd_4 : decode YX1_otherEnd.2.1 4 = .ok (.iload_n 1, 1) := by decide +kernel
theorem dX1_otherEnd_5 : decode YX1_otherEnd.2.1 5 = .ok (.iaload, 1) := by decide +kernel
theorem dX1_otherEnd_6 : decode YX1_otherEnd.2.1 6 = .ok (.iload_n 2, 1) := by decide +kernel
theorem dX1_otherEnd_7 : decode YX1_otherEnd.2.1 7 = .ok (.if_icmp .ne 12, 3) := by decide +kernel
theorem dX1_otherEnd_10 : decode YX1_otherEnd.2.1 10 = .ok (.aload_n 0, 1) := by decide +kernel
theorem dX1_otherEnd_11 : decode YX1_otherEnd.2.1 11 = .ok (.getfield 15, 3) := by decide +kernel
theorem dX1_otherEnd_14 : decode YX1_otherEnd.2.1 14 = .ok (.iload_n 1, 1) := by decide +kernel
theorem dX1_otherEnd_15 : decode YX1_otherEnd.2.1 15 = .ok (.iaload, 1) := by decide +kernel
theorem dX1_otherEnd_16 : decode YX1_otherEnd.2.1 16 = .ok (.goto 9, 3) := by decide +kernel
theorem dX1_otherEnd_19 : decode YX1_otherEnd.2.1 19 = .ok (.aload_n 0, 1) := by decide +kernel
theorem dX1_otherEnd_20 : decode YX1_otherEnd.2.1 20 = .ok (.getfield 9, 3) := by decide +kernel
theorem dX1_otherEnd_23 : decode YX1_otherEnd.2.1 23 = .ok (.iload_n 1, 1) := by decide +kernel
theorem dX1_otherEnd_24 : decode YX1_otherEnd.2.1 24 = .ok (.iaload, 1) := by decide +kernel
theorem dX1_otherEnd_25 : decode YX1_otherEnd.2.1 25 = .ok (.ireturn, 1) := by decide +kernel
theorem dX1_costFrom_0 : decode YX1_costFrom.2.1 0 = .ok (.aload_n 0, 1) := by decide +kernel
theorem dX1_costFrom_1 : decode YX1_costFrom.2.1 1 = .ok (.getfield 9, 3) := by decide +kernel
theorem dX1_costFrom_4 : decode YX1_costFrom.2.1 4 = .ok (.iload_n 1, 1) := by decide +kernel
theorem dX1_costFrom_5 : decode YX1_costFrom.2.1 5 = .ok (.iaload, 1) := by decide +kernel
theorem dX1_costFrom_6 : decode YX1_costFrom.2.1 6 = .ok (.iload_n 2, 1) := by decide +kernel
theorem dX1_costFrom_7 : decode YX1_costFrom.2.1 7 = .ok (.if_icmp .ne 12, 3) := by decide +kernel
theorem dX1_costFrom_10 : decode YX1_costFrom.2.1 10 = .ok (.aload_n 0, 1) := by decide +kernel
theorem dX1_costFrom_11 : decode YX1_costFrom.2.1 11 = .ok (.getfield 21, 3) := by decide +kernel
theorem dX1_costFrom_14 : decode YX1_costFrom.2.1 14 = .ok (.iload_n 1, 1) := by decide +kernel
theorem dX1_costFrom_15 : decode YX1_costFrom.2.1 15 = .ok (.iaload, 1) := by decide +kernel
theorem dX1_costFrom_16 : decode YX1_costFrom.2.1 16 = .ok (.goto 9, 3) := by decide +kernel
theorem dX1_costFrom_19 : decode YX1_costFrom.2.1 19 = .ok (.aload_n 0, 1) := by decide +kernel
theorem dX1_costFrom_20 : decode YX1_costFrom.2.1 20 = .ok (.getfield 24, 3) := by decide +kernel
theorem dX1_costFrom_23 : decode YX1_costFrom.2.1 23 = .ok (.iload_n 1, 1) := by decide +kernel
theorem dX1_costFrom_24 : decode YX1_costFrom.2.1 24 = .ok (.iaload, 1) := by decide +kernel
theorem dX1_costFrom_25 : decode YX1_costFrom.2.1 25 = .ok (.ireturn, 1) := by decide +kernel
theorem dX1_areasOf_0 : decode YX1_areasOf.2.1 0 = .ok (.iconst 0, 1) := by decide +kernel
theorem dX1_areasOf_1 : decode YX1_areasOf.2.1 1 = .ok (.istore_n 2, 1) := by decide +kernel
theorem dX1_areasOf_2 : decode YX1_areasOf.2.1 2 = .ok (.iconst 0, 1) := by decide +kernel
theorem dX1_areasOf_3 : decode YX1_areasOf.2.1 3 = .ok (.istore_n 3, 1) := by decide +kernel
theorem dX1_areasOf_4 : decode YX1_areasOf.2.1 4 = .ok (.iload_n 3, 1) := by decide +kernel
theorem dX1_areasOf_5 : decode YX1_areasOf.2.1 5 = .ok (.aload_n 0, 1) := by decide +kernel
theorem dX1_areasOf_6 : decode YX1_areasOf.2.1 6 = .ok (.getfield 34, 3) := by decide +kernel
theorem dX1_areasOf_9 : decode YX1_areasOf.2.1 9 = .ok (.if_icmp .ge 29, 3) := by decide +kernel
theorem dX1_areasOf_12 : decode YX1_areasOf.2.1 12 = .ok (.aload_n 0, 1) := by decide +kernel
theorem dX1_areasOf_13 : decode YX1_areasOf.2.1 13 = .ok (.iload_n 3, 1) := by decide +kernel
theorem dX1_areasOf_14 : decode YX1_areasOf.2.1 14 = .ok (.iload_n 1, 1) := by decide +kernel
theorem dX1_areasOf_15 : decode YX1_areasOf.2.1 15 = .ok (.invokevirtual 44, 3) := by decide +kernel
theorem dX1_areasOf_18 : decode YX1_areasOf.2.1 18 = .ok (.ifCond .eq 14, 3) := by decide +kernel
theorem dX1_areasOf_21 : decode YX1_areasOf.2.1 21 = .ok (.iload_n 2, 1) := by decide +kernel
theorem dX1_areasOf_22 : decode YX1_areasOf.2.1 22 = .ok (.iconst 1, 1) := by decide +kernel
theorem dX1_areasOf_23 : decode YX1_areasOf.2.1 23 = .ok (.aload_n 0, 1) := by decide +kernel
theorem dX1_areasOf_24 : decode YX1_areasOf.2.1 24 = .ok (.getfield 18, 3) := by decide +kernel
theorem dX1_areasOf_27 : decode YX1_areasOf.2.1 27 = .ok (.iload_n 3, 1) := by decide +kernel
theorem dX1_areasOf_28 : decode YX1_areasOf.2.1 28 = .ok (.iaload, 1) := by decide +kernel
theorem dX1_areasOf_29 : decode YX1_areasOf.2.1 29 = .ok (.ishl, 1) := by decide +kernel
theorem dX1_areasOf_30 : decode YX1_areasOf.2.1 30 = .ok (.ior, 1) := by decide +kernel
theorem dX1_areasOf_31 : decode YX1_areasOf.2.1 31 = .ok (.istore_n 2, 1) := by decide +kernel
theorem dX1_areasOf_32 : decode YX1_areasOf.2.1 32 = .ok (.iinc 3 1, 3) := by decide +kernel
theorem dX1_areasOf_35 : decode YX1_areasOf.2.1 35 = .ok (.goto (-31), 3) := by decide +kernel
theorem dX1_areasOf_38 : decode YX1_areasOf.2.1 38 = .ok (.iload_n 2, 1) := by decide +kernel
theorem dX1_areasOf_39 : decode YX1_areasOf.2.1 39 = .ok (.ireturn, 1) := by decide +kernel
theorem dX1_upOf_0 : decode YX1_upOf.2.1 0 = .ok (.iconst 0, 1) := by decide +kernel
theorem dX1_upOf_1 : decode YX1_upOf.2.1 1 = .ok (.istore_n 2, 1) := by decide +kernel
theorem dX1_upOf_2 : decode YX1_upOf.2.1 2 = .ok (.iconst 0, 1) := by decide +kernel
theorem dX1_upOf_3 : decode YX1_upOf.2.1 3 = .ok (.istore_n 3, 1) := by decide +kernel
theorem dX1_upOf_4 : decode YX1_upOf.2.1 4 = .ok (.iload_n 3, 1) := by decide +kernel
theorem dX1_upOf_5 : decode YX1_upOf.2.1 5 = .ok (.aload_n 0, 1) := by decide +kernel
theorem dX1_upOf_6 : decode YX1_upOf.2.1 6 = .ok (.getfield 34, 3) := by decide +kernel
theorem dX1_upOf_9 : decode YX1_upOf.2.1 9 = .ok (.if_icmp .ge 21, 3) := by decide +kernel
theorem dX1_upOf_12 : decode YX1_upOf.2.1 12 = .ok (.aload_n 0, 1) := by decide +kernel
theorem dX1_upOf_13 : decode YX1_upOf.2.1 13 = .ok (.iload_n 3, 1) := by decide +kernel
theorem dX1_upOf_14 : decode YX1_upOf.2.1 14 = .ok (.iload_n 1, 1) := by decide +kernel
theorem dX1_upOf_15 : decode YX1_upOf.2.1 15 = .ok (.invokevirtual 44, 3) := by decide +kernel
theorem dX1_upOf_18 : decode YX1_upOf.2.1 18 = .ok (.ifCond .eq 6, 3) := by decide +kernel
theorem dX1_upOf_21 : decode YX1_upOf.2.1 21 = .ok (.iinc 2 1, 3) := by decide +kernel
theorem dX1_upOf_24 : decode YX1_upOf.2.1 24 = .ok (.iinc 3 1, 3) := by decide +kernel
theorem dX1_upOf_27 : decode YX1_upOf.2.1 27 = .ok (.goto (-23), 3) := by decide +kernel
theorem dX1_upOf_30 : decode YX1_upOf.2.1 30 = .ok (.iload_n 2, 1) := by decide +kernel
theorem dX1_upOf_31 : decode YX1_upOf.2.1 31 = .ok (.ireturn, 1) := by decide +kernel
theorem dX1_upInAll_0 : decode YX1_upInAll.2.1 0 = .ok (.iconst 0, 1) := by decide +kernel
theorem dX1_upInAll_1 : decode YX1_upInAll.2.1 1 = .ok (.istore_n 1, 1) := by decide +kernel
theorem dX1_upInAll_2 : decode YX1_upInAll.2.1 2 = .ok (.iconst 0, 1) := by decide +kernel
theorem dX1_upInAll_3 : decode YX1_upInAll.2.1 3 = .ok (.istore_n 2, 1) := by decide +kernel
theorem dX1_upInAll_4 : decode YX1_upInAll.2.1 4 = .ok (.iload_n 2, 1) := by decide +kernel
theorem dX1_upInAll_5 : decode YX1_upInAll.2.1 5 = .ok (.aload_n 0, 1) := by decide +kernel
theorem dX1_upInAll_6 : decode YX1_upInAll.2.1 6 = .ok (.getfield 34, 3) := by decide +kernel
theorem dX1_upInAll_9 : decode YX1_upInAll.2.1 9 = .ok (.if_icmp .ge 21, 3) := by decide +kernel
theorem dX1_upInAll_12 : decode YX1_upInAll.2.1 12 = .ok (.aload_n 0, 1) := by decide +kernel
theorem dX1_upInAll_13 : decode YX1_upInAll.2.1 13 = .ok (.getfield 27, 3) := by decide +kernel
theorem dX1_upInAll_16 : decode YX1_upInAll.2.1 16 = .ok (.iload_n 2, 1) := by decide +kernel
theorem dX1_upInAll_17 : decode YX1_upInAll.2.1 17 = .ok (.baload, 1) := by decide +kernel
theorem dX1_upInAll_18 : decode YX1_upInAll.2.1 18 = .ok (.ifCond .eq 6, 3) := by decide +kernel
theorem dX1_upInAll_21 : decode YX1_upInAll.2.1 21 = .ok (.iinc 1 1, 3) := by decide +kernel
theorem dX1_upInAll_24 : decode YX1_upInAll.2.1 24 = .ok (.iinc 2 1, 3) := by decide +kernel
theorem dX1_upInAll_27 : decode YX1_upInAll.2.1 27 = .ok (.goto (-23), 3) := by decide +kernel
theorem dX1_upInAll_30 : decode YX1_upInAll.2.1 30 = .ok (.iload_n 1, 1) := by decide +kernel
theorem dX1_upInAll_31 : decode YX1_upInAll.2.1 31 = .ok (.ireturn, 1) := by decide +kernel
theorem dX1_cheapest_0 : decode YX1_cheapest.2.1 0 = .ok (.iconst (-1), 1) := by decide +kernel
theorem dX1_cheapest_1 : decode YX1_cheapest.2.1 1 = .ok (.istore 4, 2) := by decide +kernel
theorem dX1_cheapest_3 : decode YX1_cheapest.2.1 3 = .ok (.iconst 0, 1) := by decide +kernel
theorem dX1_cheapest_4 : decode YX1_cheapest.2.1 4 = .ok (.istore 5, 2) := by decide +kernel
theorem dX1_cheapest_6 : decode YX1_cheapest.2.1 6 = .ok (.iload 5, 2) := by decide +kernel
theorem dX1_cheapest_8 : decode YX1_cheapest.2.1 8 = .ok (.aload_n 0, 1) := by decide +kernel
theorem dX1_cheapest_9 : decode YX1_cheapest.2.1 9 = .ok (.getfield 34, 3) := by decide +kernel
theorem dX1_cheapest_12 : decode YX1_cheapest.2.1 12 = .ok (.if_icmp .ge 80, 3) := by decide +kernel
theorem dX1_cheapest_15 : decode YX1_cheapest.2.1 15 = .ok (.aload_n 0, 1) := by decide +kernel
theorem dX1_cheapest_16 : decode YX1_cheapest.2.1 16 = .ok (.iload 5, 2) := by decide +kernel
theorem dX1_cheapest_18 : decode YX1_cheapest.2.1 18 = .ok (.iload_n 1, 1) := by decide +kernel
theorem dX1_cheapest_19 : decode YX1_cheapest.2.1 19 = .ok (.invokevirtual 44, 3) := by decide +kernel
theorem dX1_cheapest_22 : decode YX1_cheapest.2.1 22 = .ok (.ifCond .eq 29, 3) := by decide +kernel
theorem dX1_cheapest_25 : decode YX1_cheapest.2.1 25 = .ok (.aload_n 0, 1) := by decide +kernel
theorem dX1_cheapest_26 : decode YX1_cheapest.2.1 26 = .ok (.iload 5, 2) := by decide +kernel
theorem dX1_cheapest_28 : decode YX1_cheapest.2.1 28 = .ok (.iload_n 1, 1) := by decide +kernel
theorem dX1_cheapest_29 : decode YX1_cheapest.2.1 29 = .ok (.invokevirtual 48, 3) := by decide +kernel
theorem dX1_cheapest_32 : decode YX1_cheapest.2.1 32 = .ok (.iload_n 2, 1) := by decide +kernel
theorem dX1_cheapest_33 : decode YX1_cheapest.2.1 33 = .ok (.if_icmp .ne 18, 3) := by decide +kernel
theorem dX1_cheapest_36 : decode YX1_cheapest.2.1 36 = .ok (.aload_n 0, 1) := by decide +kernel
theorem dX1_cheapest_37 : decode YX1_cheapest.2.1 37 = .ok (.getfield 18, 3) := by decide +kernel
theorem dX1_cheapest_40 : decode YX1_cheapest.2.1 40 = .ok (.iload 5, 2) := by decide +kernel
theorem dX1_cheapest_42 : decode YX1_cheapest.2.1 42 = .ok (.iaload, 1) := by decide +kernel
theorem dX1_cheapest_43 : decode YX1_cheapest.2.1 43 = .ok (.iload_n 3, 1) := by decide +kernel
theorem dX1_cheapest_44 : decode YX1_cheapest.2.1 44 = .ok (.if_icmp .ne 7, 3) := by decide +kernel
theorem dX1_cheapest_47 : decode YX1_cheapest.2.1 47 = .ok (.iconst 1, 1) := by decide +kernel
theorem dX1_cheapest_48 : decode YX1_cheapest.2.1 48 = .ok (.goto 4, 3) := by decide +kernel
theorem dX1_cheapest_51 : decode YX1_cheapest.2.1 51 = .ok (.iconst 0, 1) := by decide +kernel
theorem dX1_cheapest_52 : decode YX1_cheapest.2.1 52 = .ok (.istore 6, 2) := by decide +kernel
theorem dX1_cheapest_54 : decode YX1_cheapest.2.1 54 = .ok (.iload 6, 2) := by decide +kernel
theorem dX1_cheapest_56 : decode YX1_cheapest.2.1 56 = .ok (.ifCond .eq 30, 3) := by decide +kernel
theorem dX1_cheapest_59 : decode YX1_cheapest.2.1 59 = .ok (.iload 4, 2) := by decide +kernel
theorem dX1_cheapest_61 : decode YX1_cheapest.2.1 61 = .ok (.iconst (-1), 1) := by decide +kernel
theorem dX1_cheapest_62 : decode YX1_cheapest.2.1 62 = .ok (.if_icmp .eq 20, 3) := by decide +kernel
theorem dX1_cheapest_65 : decode YX1_cheapest.2.1 65 = .ok (.aload_n 0, 1) := by decide +kernel
theorem dX1_cheapest_66 : decode YX1_cheapest.2.1 66 = .ok (.iload 5, 2) := by decide +kernel
theorem dX1_cheapest_68 : decode YX1_cheapest.2.1 68 = .ok (.iload_n 1, 1) := by decide +kernel
theorem dX1_cheapest_69 : decode YX1_cheapest.2.1 69 = .ok (.invokevirtual 52, 3) := by decide +kernel
theorem dX1_cheapest_72 : decode YX1_cheapest.2.1 72 = .ok (.aload_n 0, 1) := by decide +kernel
theorem dX1_cheapest_73 : decode YX1_cheapest.2.1 73 = .ok (.iload 4, 2) := by decide +kernel
theorem dX1_cheapest_75 : decode YX1_cheapest.2.1 75 = .ok (.iload_n 1, 1) := by decide +kernel
theorem dX1_cheapest_76 : decode YX1_cheapest.2.1 76 = .ok (.invokevirtual 52, 3) := by decide +kernel
theorem dX1_cheapest_79 : decode YX1_cheapest.2.1 79 = .ok (.if_icmp .ge 7, 3) := by decide +kernel
theorem dX1_cheapest_82 : decode YX1_cheapest.2.1 82 = .ok (.iload 5, 2) := by decide +kernel
theorem dX1_cheapest_84 : decode YX1_cheapest.2.1 84 = .ok (.istore 4, 2) := by decide +kernel
theorem dX1_cheapest_86 : decode YX1_cheapest.2.1 86 = .ok (.iinc 5 1, 3) := by decide +kernel
theorem dX1_cheapest_89 : decode YX1_cheapest.2.1 89 = .ok (.goto (-83), 3) := by decide +kernel
theorem dX1_cheapest_92 : decode YX1_cheapest.2.1 92 = .ok (.iload 4, 2) := by decide +kernel
theorem dX1_cheapest_94 : decode YX1_cheapest.2.1 94 = .ok (.ireturn, 1) := by decide +kernel
theorem dX1_leastCost_0 : decode YX1_leastCost.2.1 0 = .ok (.aload_n 0, 1) := by decide +kernel
theorem dX1_leastCost_1 : decode YX1_leastCost.2.1 1 = .ok (.iload_n 1, 1) := by decide +kernel
theorem dX1_leastCost_2 : decode YX1_leastCost.2.1 2 = .ok (.iload_n 3, 1) := by decide +kernel
theorem dX1_leastCost_3 : decode YX1_leastCost.2.1 3 = .ok (.invokevirtual 55, 3) := by decide +kernel
theorem dX1_leastCost_6 : decode YX1_leastCost.2.1 6 = .ok (.aload_n 0, 1) := by decide +kernel
theorem dX1_leastCost_7 : decode YX1_leastCost.2.1 7 = .ok (.getfield 31, 3) := by decide +kernel
theorem dX1_leastCost_10 : decode YX1_leastCost.2.1 10 = .ok (.iload_n 2, 1) := by decide +kernel
theorem dX1_leastCost_11 : decode YX1_leastCost.2.1 11 = .ok (.iaload, 1) := by decide +kernel
theorem dX1_leastCost_12 : decode YX1_leastCost.2.1 12 = .ok (.ireturn, 1) := by decide +kernel
theorem dX1_joinedTo_0 : decode YX1_joinedTo.2.1 0 = .ok (.aload_n 0, 1) := by decide +kernel
theorem dX1_joinedTo_1 : decode YX1_joinedTo.2.1 1 = .ok (.iload_n 1, 1) := by decide +kernel
theorem dX1_joinedTo_2 : decode YX1_joinedTo.2.1 2 = .ok (.iconst (-1), 1) := by decide +kernel
theorem dX1_joinedTo_3 : decode YX1_joinedTo.2.1 3 = .ok (.invokevirtual 55, 3) := by decide +kernel
theorem dX1_joinedTo_6 : decode YX1_joinedTo.2.1 6 = .ok (.iconst 0, 1) := by decide +kernel
theorem dX1_joinedTo_7 : decode YX1_joinedTo.2.1 7 = .ok (.istore_n 2, 1) := by decide +kernel
theorem dX1_joinedTo_8 : decode YX1_joinedTo.2.1 8 = .ok (.iconst 0, 1) := by decide +kernel
theorem dX1_joinedTo_9 : decode YX1_joinedTo.2.1 9 = .ok (.istore_n 3, 1) := by decide +kernel
theorem dX1_joinedTo_10 : decode YX1_joinedTo.2.1 10 = .ok (.iload_n 3, 1) := by decide +kernel
theorem dX1_joinedTo_11 : decode YX1_joinedTo.2.1 11 = .ok (.bipush 8, 2) := by decide +kernel
theorem dX1_joinedTo_13 : decode YX1_joinedTo.2.1 13 = .ok (.if_icmp .ge 27, 3) := by decide +kernel
theorem dX1_joinedTo_16 : decode YX1_joinedTo.2.1 16 = .ok (.aload_n 0, 1) := by decide +kernel
theorem dX1_joinedTo_17 : decode YX1_joinedTo.2.1 17 = .ok (.getfield 31, 3) := by decide +kernel
theorem dX1_joinedTo_20 : decode YX1_joinedTo.2.1 20 = .ok (.iload_n 3, 1) := by decide +kernel
theorem dX1_joinedTo_21 : decode YX1_joinedTo.2.1 21 = .ok (.iaload, 1) := by decide +kernel
theorem dX1_joinedTo_22 : decode YX1_joinedTo.2.1 22 = .ok (.sipush 9999, 3) := by decide +kernel
theorem dX1_joinedTo_25 : decode YX1_joinedTo.2.1 25 = .ok (.if_icmp .ge 9, 3) := by decide +kernel
theorem dX1_joinedTo_28 : decode YX1_joinedTo.2.1 28 = .ok (.iload_n 2, 1) := by decide +kernel
theorem dX1_joinedTo_29 : decode YX1_joinedTo.2.1 29 = .ok (.iconst 1, 1) := by decide +kernel
theorem dX1_joinedTo_30 : decode YX1_joinedTo.2.1 30 = .ok (.iload_n 3, 1) := by decide +kernel
theorem dX1_joinedTo_31 : decode YX1_joinedTo.2.1 31 = .ok (.ishl, 1) := by decide +kernel
theorem dX1_joinedTo_32 : decode YX1_joinedTo.2.1 32 = .ok (.ior, 1) := by decide +kernel
theorem dX1_joinedTo_33 : decode YX1_joinedTo.2.1 33 = .ok (.istore_n 2, 1) := by decide +kernel
theorem dX1_joinedTo_34 : decode YX1_joinedTo.2.1 34 = .ok (.iinc 3 1, 3) := by decide +kernel
theorem dX1_joinedTo_37 : decode YX1_joinedTo.2.1 37 = .ok (.goto (-27), 3) := by decide +kernel
theorem dX1_joinedTo_40 : decode YX1_joinedTo.2.1 40 = .ok (.iload_n 2, 1) := by decide +kernel
theorem dX1_joinedTo_41 : decode YX1_joinedTo.2.1 41 = .ok (.ireturn, 1) := by decide +kernel
theorem dX1_spread_0 : decode YX1_spread.2.1 0 = .ok (.aload_n 0, 1) := by decide +kernel
theorem dX1_spread_1 : decode YX1_spread.2.1 1 = .ok (.getfield 31, 3) := by decide +kernel
theorem dX1_spread_4 : decode YX1_spread.2.1 4 = .ok (.sipush 9999, 3) := by decide +kernel
theorem dX1_spread_7 : decode YX1_spread.2.1 7 = .ok (.invokestatic 59, 3) := by decide +kernel
theorem dX1_spread_10 : decode YX1_spread.2.1 10 = .ok (.aload_n 0, 1) := by decide +kernel
theorem dX1_spread_11 : decode YX1_spread.2.1 11 = .ok (.getfield 31, 3) := by decide +kernel
theorem dX1_spread_14 : decode YX1_spread.2.1 14 = .ok (.iload_n 1, 1) := by decide +kernel
theorem dX1_spread_15 : decode YX1_spread.2.1 15 = .ok (.iconst 0, 1) := by decide +kernel
theorem dX1_spread_16 : decode YX1_spread.2.1 16 = .ok (.iastore, 1) := by decide +kernel
theorem dX1_spread_17 : decode YX1_spread.2.1 17 = .ok (.iconst 1, 1) := by decide +kernel
theorem dX1_spread_18 : decode YX1_spread.2.1 18 = .ok (.istore_n 3, 1) := by decide +kernel
theorem dX1_spread_19 : decode YX1_spread.2.1 19 = .ok (.iload_n 3, 1) := by decide +kernel
theorem dX1_spread_20 : decode YX1_spread.2.1 20 = .ok (.bipush 8, 2) := by decide +kernel
theorem dX1_spread_22 : decode YX1_spread.2.1 22 = .ok (.if_icmp .ge 125, 3) := by decide +kernel
theorem dX1_spread_25 : decode YX1_spread.2.1 25 = .ok (.iconst 0, 1) := by decide +kernel
theorem dX1_spread_26 : decode YX1_spread.2.1 26 = .ok (.istore 4, 2) := by decide +kernel
theorem dX1_spread_28 : decode YX1_spread.2.1 28 = .ok (.iload 4, 2) := by decide +kernel
theorem dX1_spread_30 : decode YX1_spread.2.1 30 = .ok (.aload_n 0, 1) := by decide +kernel
theorem dX1_spread_31 : decode YX1_spread.2.1 31 = .ok (.getfield 34, 3) := by decide +kernel
theorem dX1_spread_34 : decode YX1_spread.2.1 34 = .ok (.if_icmp .ge 107, 3) := by decide +kernel
theorem dX1_spread_37 : decode YX1_spread.2.1 37 = .ok (.aload_n 0, 1) := by decide +kernel
theorem dX1_spread_38 : decode YX1_spread.2.1 38 = .ok (.getfield 27, 3) := by decide +kernel
theorem dX1_spread_41 : decode YX1_spread.2.1 41 = .ok (.iload 4, 2) := by decide +kernel
theorem dX1_spread_43 : decode YX1_spread.2.1 43 = .ok (.baload, 1) := by decide +kernel
theorem dX1_spread_44 : decode YX1_spread.2.1 44 = .ok (.ifCond .eq 91, 3) := by decide +kernel
theorem dX1_spread_47 : decode YX1_spread.2.1 47 = .ok (.iload 4, 2) := by decide +kernel
theorem dX1_spread_49 : decode YX1_spread.2.1 49 = .ok (.iload_n 2, 1) := by decide +kernel
theorem dX1_spread_50 : decode YX1_spread.2.1 50 = .ok (.if_icmp .eq 85, 3) := by decide +kernel
theorem dX1_spread_53 : decode YX1_spread.2.1 53 = .ok (.aload_n 0, 1) := by decide +kernel
theorem dX1_spread_54 : decode YX1_spread.2.1 54 = .ok (.getfield 9, 3) := by decide +kernel
theorem dX1_spread_57 : decode YX1_spread.2.1 57 = .ok (.iload 4, 2) := by decide +kernel
theorem dX1_spread_59 : decode YX1_spread.2.1 59 = .ok (.iaload, 1) := by decide +kernel
theorem dX1_spread_60 : decode YX1_spread.2.1 60 = .ok (.istore 5, 2) := by decide +kernel
theorem dX1_spread_62 : decode YX1_spread.2.1 62 = .ok (.aload_n 0, 1) := by decide +kernel
theorem dX1_spread_63 : decode YX1_spread.2.1 63 = .ok (.getfield 15, 3) := by decide +kernel
theorem dX1_spread_66 : decode YX1_spread.2.1 66 = .ok (.iload 4, 2) := by decide +kernel
theorem dX1_spread_68 : decode YX1_spread.2.1 68 = .ok (.iaload, 1) := by decide +kernel
theorem dX1_spread_69 : decode YX1_spread.2.1 69 = .ok (.istore 6, 2) := by decide +kernel
theorem dX1_spread_71 : decode YX1_spread.2.1 71 = .ok (.aload_n 0, 1) := by decide +kernel
theorem dX1_spread_72 : decode YX1_spread.2.1 72 = .ok (.getfield 31, 3) := by decide +kernel
theorem dX1_spread_75 : decode YX1_spread.2.1 75 = .ok (.iload 6, 2) := by decide +kernel
theorem dX1_spread_77 : decode YX1_spread.2.1 77 = .ok (.aload_n 0, 1) := by decide +kernel
theorem dX1_spread_78 : decode YX1_spread.2.1 78 = .ok (.getfield 31, 3) := by decide +kernel
theorem dX1_spread_81 : decode YX1_spread.2.1 81 = .ok (.iload 6, 2) := by decide +kernel
theorem dX1_spread_83 : decode YX1_spread.2.1 83 = .ok (.iaload, 1) := by decide +kernel
theorem dX1_spread_84 : decode YX1_spread.2.1 84 = .ok (.aload_n 0, 1) := by decide +kernel
theorem dX1_spread_85 : decode YX1_spread.2.1 85 = .ok (.getfield 31, 3) := by decide +kernel
theorem dX1_spread_88 : decode YX1_spread.2.1 88 = .ok (.iload 5, 2) := by decide +kernel
theorem dX1_spread_90 : decode YX1_spread.2.1 90 = .ok (.iaload, 1) := by decide +kernel
theorem dX1_spread_91 : decode YX1_spread.2.1 91 = .ok (.aload_n 0, 1) := by decide +kernel
theorem dX1_spread_92 : decode YX1_spread.2.1 92 = .ok (.getfield 21, 3) := by decide +kernel
theorem dX1_spread_95 : decode YX1_spread.2.1 95 = .ok (.iload 4, 2) := by decide +kernel
theorem dX1_spread_97 : decode YX1_spread.2.1 97 = .ok (.iaload, 1) := by decide +kernel
theorem dX1_spread_98 : decode YX1_spread.2.1 98 = .ok (.iadd, 1) := by decide +kernel
theorem dX1_spread_99 : decode YX1_spread.2.1 99 = .ok (.invokestatic 65, 3) := by decide +kernel
theorem dX1_spread_102 : decode YX1_spread.2.1 102 = .ok (.iastore, 1) := by decide +kernel
theorem dX1_spread_103 : decode YX1_spread.2.1 103 = .ok (.aload_n 0, 1) := by decide +kernel
theorem dX1_spread_104 : decode YX1_spread.2.1 104 = .ok (.getfield 31, 3) := by decide +kernel
theorem dX1_spread_107 : decode YX1_spread.2.1 107 = .ok (.iload 5, 2) := by decide +kernel
theorem dX1_spread_109 : decode YX1_spread.2.1 109 = .ok (.aload_n 0, 1) := by decide +kernel
theorem dX1_spread_110 : decode YX1_spread.2.1 110 = .ok (.getfield 31, 3) := by decide +kernel
theorem dX1_spread_113 : decode YX1_spread.2.1 113 = .ok (.iload 5, 2) := by decide +kernel
theorem dX1_spread_115 : decode YX1_spread.2.1 115 = .ok (.iaload, 1) := by decide +kernel
theorem dX1_spread_116 : decode YX1_spread.2.1 116 = .ok (.aload_n 0, 1) := by decide +kernel
theorem dX1_spread_117 : decode YX1_spread.2.1 117 = .ok (.getfield 31, 3) := by decide +kernel
theorem dX1_spread_120 : decode YX1_spread.2.1 120 = .ok (.iload 6, 2) := by decide +kernel
theorem dX1_spread_122 : decode YX1_spread.2.1 122 = .ok (.iaload, 1) := by decide +kernel
theorem dX1_spread_123 : decode YX1_spread.2.1 123 = .ok (.aload_n 0, 1) := by decide +kernel
theorem dX1_spread_124 : decode YX1_spread.2.1 124 = .ok (.getfield 24, 3) := by decide +kernel
theorem dX1_spread_127 : decode YX1_spread.2.1 127 = .ok (.iload 4, 2) := by decide +kernel
theorem dX1_spread_129 : decode YX1_spread.2.1 129 = .ok (.iaload, 1) := by decide +kernel
theorem dX1_spread_130 : decode YX1_spread.2.1 130 = .ok (.iadd, 1) := by decide +kernel
theorem dX1_spread_131 : decode YX1_spread.2.1 131 = .ok (.invokestatic 65, 3) := by decide +kernel
theorem dX1_spread_134 : decode YX1_spread.2.1 134 = .ok (.iastore, 1) := by decide +kernel
theorem dX1_spread_135 : decode YX1_spread.2.1 135 = .ok (.iinc 4 1, 3) := by decide +kernel
theorem dX1_spread_138 : decode YX1_spread.2.1 138 = .ok (.goto (-110), 3) := by decide +kernel
theorem dX1_spread_141 : decode YX1_spread.2.1 141 = .ok (.iinc 3 1, 3) := by decide +kernel
theorem dX1_spread_144 : decode YX1_spread.2.1 144 = .ok (.goto (-125), 3) := by decide +kernel
theorem dX1_spread_147 : decode YX1_spread.2.1 147 = .ok (.return_, 1) := by decide +kernel
theorem dX2_init_0 : decode YX2_init.2.1 0 = .ok (.aload_n 0, 1) := by decide +kernel
theorem dX2_init_1 : decode YX2_init.2.1 1 = .ok (.invokespecial 3, 3) := by decide +kernel
theorem dX2_init_4 : decode YX2_init.2.1 4 = .ok (.aload_n 0, 1) := by decide +kernel
theorem dX2_init_5 : decode YX2_init.2.1 5 = .ok (.new 9, 3) := by decide +kernel
theorem dX2_init_8 : decode YX2_init.2.1 8 = .ok (.dup, 1) := by decide +kernel
theorem dX2_init_9 : decode YX2_init.2.1 9 = .ok (.invokespecial 11, 3) := by decide +kernel
theorem dX2_init_12 : decode YX2_init.2.1 12 = .ok (.putfield 12, 3) := by decide +kernel
theorem dX2_init_15 : decode YX2_init.2.1 15 = .ok (.aload_n 0, 1) := by decide +kernel
theorem dX2_init_16 : decode YX2_init.2.1 16 = .ok (.new 18, 3) := by decide +kernel
theorem dX2_init_19 : decode YX2_init.2.1 19 = .ok (.dup, 1) := by decide +kernel
theorem dX2_init_20 : decode YX2_init.2.1 20 = .ok (.sipush 192, 3) := by decide +kernel
theorem dX2_init_23 : decode YX2_init.2.1 23 = .ok (.invokespecial 20, 3) := by decide +kernel
theorem dX2_init_26 : decode YX2_init.2.1 26 = .ok (.putfield 23, 3) := by decide +kernel
theorem dX2_init_29 : decode YX2_init.2.1 29 = .ok (.aload_n 0, 1) := by decide +kernel
theorem dX2_init_30 : decode YX2_init.2.1 30 = .ok (.new 18, 3) := by decide +kernel
theorem dX2_init_33 : decode YX2_init.2.1 33 = .ok (.dup, 1) := by decide +kernel
theorem dX2_init_34 : decode YX2_init.2.1 34 = .ok (.sipush 192, 3) := by decide +kernel
theorem dX2_init_37 : decode YX2_init.2.1 37 = .ok (.invokespecial 20, 3) := by decide +kernel
theorem dX2_init_40 : decode YX2_init.2.1 40 = .ok (.putfield 27, 3) := by decide +kernel
theorem dX2_init_43 : decode YX2_init.2.1 43 = .ok (.aload_n 0, 1) := by decide +kernel
theorem dX2_init_44 : decode YX2_init.2.1 44 = .ok (.sipush 192, 3) := by decide +kernel
theorem dX2_init_47 : decode YX2_init.2.1 47 = .ok (.newarray .int, 2) := by decide +kernel
theorem dX2_init_49 : decode YX2_init.2.1 49 = .ok (.putfield 30, 3) := by decide +kernel
theorem dX2_init_52 : decode YX2_init.2.1 52 = .ok (.aload_n 0, 1) := by decide +kernel
theorem dX2_init_53 : decode YX2_init.2.1 53 = .ok (.sipush 192, 3) := by decide +kernel
theorem dX2_init_56 : decode YX2_init.2.1 56 = .ok (.newarray .int, 2) := by decide +kernel
theorem dX2_init_58 : decode YX2_init.2.1 58 = .ok (.putfield 34, 3) := by decide +kernel
theorem dX2_init_61 : decode YX2_init.2.1 61 = .ok (.aload_n 0, 1) := by decide +kernel
theorem dX2_init_62 : decode YX2_init.2.1 62 = .ok (.sipush 192, 3) := by decide +kernel
theorem dX2_init_65 : decode YX2_init.2.1 65 = .ok (.newarray .int, 2) := by decide +kernel
theorem dX2_init_67 : decode YX2_init.2.1 67 = .ok (.putfield 37, 3) := by decide +kernel
theorem dX2_init_70 : decode YX2_init.2.1 70 = .ok (.aload_n 0, 1) := by decide +kernel
theorem dX2_init_71 : decode YX2_init.2.1 71 = .ok (.sipush 192, 3) := by decide +kernel
theorem dX2_init_74 : decode YX2_init.2.1 74 = .ok (.newarray .boolean, 2) := by decide +kernel
theorem dX2_init_76 : decode YX2_init.2.1 76 = .ok (.putfield 40, 3) := by decide +kernel
theorem dX2_init_79 : decode YX2_init.2.1 79 = .ok (.aload_n 0, 1) := by decide +kernel
theorem dX2_init_80 : decode YX2_init.2.1 80 = .ok (.sipush 192, 3) := by decide +kernel
theorem dX2_init_83 : decode YX2_init.2.1 83 = .ok (.newarray .int, 2) := by decide +kernel
theorem dX2_init_85 : decode YX2_init.2.1 85 = .ok (.putfield 44, 3) := by decide +kernel
theorem dX2_init_88 : decode YX2_init.2.1 88 = .ok (.aload_n 0, 1) := by decide +kernel
theorem dX2_init_89 : decode YX2_init.2.1 89 = .ok (.new 18, 3) := by decide +kernel
theorem dX2_init_92 : decode YX2_init.2.1 92 = .ok (.dup, 1) := by decide +kernel
theorem dX2_init_93 : decode YX2_init.2.1 93 = .ok (.iconst 1, 1) := by decide +kernel
theorem dX2_init_94 : decode YX2_init.2.1 94 = .ok (.invokespecial 20, 3) := by decide +kernel
theorem dX2_init_97 : decode YX2_init.2.1 97 = .ok (.putfield 47, 3) := by decide +kernel
theorem dX2_init_100 : decode YX2_init.2.1 100 = .ok (.aload_n 0, 1) := by decide +kernel
theorem dX2_init_101 : decode YX2_init.2.1 101 = .ok (.new 50, 3) := by decide +kernel
theorem dX2_init_104 : decode YX2_init.2.1 104 = .ok (.dup, 1) := by decide +kernel
theorem dX2_init_105 : decode YX2_init.2.1 105 = .ok (.invokespecial 52, 3) := by decide +kernel
theorem dX2_init_108 : decode YX2_init.2.1 108 = .ok (.putfield 53, 3) := by decide +kernel
theorem dX2_init_111 : decode YX2_init.2.1 111 = .ok (.return_, 1) := by decide +kernel
theorem dX2_takeOver_0 : decode YX2_takeOver.2.1 0 = .ok (.aload_n 0, 1) := by decide +kernel
theorem dX2_takeOver_1 : decode YX2_takeOver.2.1 1 = .ok (.getfield 12, 3) := by decide +kernel
theorem dX2_takeOver_4 : decode YX2_takeOver.2.1 4 = .ok (.aload_n 1, 1) := by decide +kernel
theorem dX2_takeOver_5 : decode YX2_takeOver.2.1 5 = .ok (.getfield 12, 3) := by decide +kernel
theorem dX2_takeOver_8 : decode YX2_takeOver.2.1 8 = .ok (.invokevirtual 57, 3) := by decide +kernel
theorem dX2_takeOver_11 : decode YX2_takeOver.2.1 11 = .ok (.aload_n 0, 1) := by decide +kernel
theorem dX2_takeOver_12 : decode YX2_takeOver.2.1 12 = .ok (.getfield 23, 3) := by decide +kernel
theorem dX2_takeOver_15 : decode YX2_takeOver.2.1 15 = .ok (.aload_n 1, 1) := by decide +kernel
theorem dX2_takeOver_16 : decode YX2_takeOver.2.1 16 = .ok (.getfield 23, 3) := by decide +kernel
theorem dX2_takeOver_19 : decode YX2_takeOver.2.1 19 = .ok (.sipush 192, 3) := by decide +kernel
theorem dX2_takeOver_22 : decode YX2_takeOver.2.1 22 = .ok (.invokevirtual 61, 3) := by decide +kernel
theorem dX2_takeOver_25 : decode YX2_takeOver.2.1 25 = .ok (.aload_n 0, 1) := by decide +kernel
theorem dX2_takeOver_26 : decode YX2_takeOver.2.1 26 = .ok (.aload_n 1, 1) := by decide +kernel
theorem dX2_takeOver_27 : decode YX2_takeOver.2.1 27 = .ok (.getfield 65, 3) := by decide +kernel
theorem dX2_takeOver_30 : decode YX2_takeOver.2.1 30 = .ok (.putfield 65, 3) := by decide +kernel
theorem dX2_takeOver_33 : decode YX2_takeOver.2.1 33 = .ok (.aload_n 0, 1) := by decide +kernel
theorem dX2_takeOver_34 : decode YX2_takeOver.2.1 34 = .ok (.getfield 27, 3) := by decide +kernel
theorem dX2_takeOver_37 : decode YX2_takeOver.2.1 37 = .ok (.aload_n 1, 1) := by decide +kernel
theorem dX2_takeOver_38 : decode YX2_takeOver.2.1 38 = .ok (.getfield 27, 3) := by decide +kernel
theorem dX2_takeOver_41 : decode YX2_takeOver.2.1 41 = .ok (.aload_n 0, 1) := by decide +kernel
theorem dX2_takeOver_42 : decode YX2_takeOver.2.1 42 = .ok (.getfield 65, 3) := by decide +kernel
theorem dX2_takeOver_45 : decode YX2_takeOver.2.1 45 = .ok (.invokevirtual 61, 3) := by decide +kernel
theorem dX2_takeOver_48 : decode YX2_takeOver.2.1 48 = .ok (.aload_n 1, 1) := by decide +kernel
theorem dX2_takeOver_49 : decode YX2_takeOver.2.1 49 = .ok (.getfield 30, 3) := by decide +kernel
theorem dX2_takeOver_52 : decode YX2_takeOver.2.1 52 = .ok (.iconst 0, 1) := by decide +kernel
theorem dX2_takeOver_53 : decode YX2_takeOver.2.1 53 = .ok (.aload_n 0, 1) := by decide +kernel
theorem dX2_takeOver_54 : decode YX2_takeOver.2.1 54 = .ok (.getfield 30, 3) := by decide +kernel
theorem dX2_takeOver_57 : decode YX2_takeOver.2.1 57 = .ok (.iconst 0, 1) := by decide +kernel
theorem dX2_takeOver_58 : decode YX2_takeOver.2.1 58 = .ok (.aload_n 0, 1) := by decide +kernel
theorem dX2_takeOver_59 : decode YX2_takeOver.2.1 59 = .ok (.getfield 65, 3) := by decide +kernel
theorem dX2_takeOver_62 : decode YX2_takeOver.2.1 62 = .ok (.invokestatic 69, 3) := by decide +kernel
theorem dX2_takeOver_65 : decode YX2_takeOver.2.1 65 = .ok (.aload_n 1, 1) := by decide +kernel
theorem dX2_takeOver_66 : decode YX2_takeOver.2.1 66 = .ok (.getfield 34, 3) := by decide +kernel
theorem dX2_takeOver_69 : decode YX2_takeOver.2.1 69 = .ok (.iconst 0, 1) := by decide +kernel
theorem dX2_takeOver_70 : decode YX2_takeOver.2.1 70 = .ok (.aload_n 0, 1) := by decide +kernel
theorem dX2_takeOver_71 : decode YX2_takeOver.2.1 71 = .ok (.getfield 34, 3) := by decide +kernel
theorem dX2_takeOver_74 : decode YX2_takeOver.2.1 74 = .ok (.iconst 0, 1) := by decide +kernel
theorem dX2_takeOver_75 : decode YX2_takeOver.2.1 75 = .ok (.aload_n 0, 1) := by decide +kernel
theorem dX2_takeOver_76 : decode YX2_takeOver.2.1 76 = .ok (.getfield 65, 3) := by decide +kernel
theorem dX2_takeOver_79 : decode YX2_takeOver.2.1 79 = .ok (.invokestatic 69, 3) := by decide +kernel
theorem dX2_takeOver_82 : decode YX2_takeOver.2.1 82 = .ok (.aload_n 1, 1) := by decide +kernel
theorem dX2_takeOver_83 : decode YX2_takeOver.2.1 83 = .ok (.getfield 37, 3) := by decide +kernel
theorem dX2_takeOver_86 : decode YX2_takeOver.2.1 86 = .ok (.iconst 0, 1) := by decide +kernel
theorem dX2_takeOver_87 : decode YX2_takeOver.2.1 87 = .ok (.aload_n 0, 1) := by decide +kernel
theorem dX2_takeOver_88 : decode YX2_takeOver.2.1 88 = .ok (.getfield 37, 3) := by decide +kernel
theorem dX2_takeOver_91 : decode YX2_takeOver.2.1 91 = .ok (.iconst 0, 1) := by decide +kernel
theorem dX2_takeOver_92 : decode YX2_takeOver.2.1 92 = .ok (.aload_n 0, 1) := by decide +kernel
theorem dX2_takeOver_93 : decode YX2_takeOver.2.1 93 = .ok (.getfield 65, 3) := by decide +kernel
theorem dX2_takeOver_96 : decode YX2_takeOver.2.1 96 = .ok (.invokestatic 69, 3) := by decide +kernel
theorem dX2_takeOver_99 : decode YX2_takeOver.2.1 99 = .ok (.aload_n 0, 1) := by decide +kernel
theorem dX2_takeOver_100 : decode YX2_takeOver.2.1 100 = .ok (.aload_n 1, 1) := by decide +kernel
theorem dX2_takeOver_101 : decode YX2_takeOver.2.1 101 = .ok (.getfield 75, 3) := by decide +kernel
theorem dX2_takeOver_104 : decode YX2_takeOver.2.1 104 = .ok (.putfield 75, 3) := by decide +kernel
theorem dX2_takeOver_107 : decode YX2_takeOver.2.1 107 = .ok (.aload_n 0, 1) := by decide +kernel
theorem dX2_takeOver_108 : decode YX2_takeOver.2.1 108 = .ok (.aload_n 1, 1) := by decide +kernel
theorem dX2_takeOver_109 : decode YX2_takeOver.2.1 109 = .ok (.getfield 78, 3) := by decide +kernel
theorem dX2_takeOver_112 : decode YX2_takeOver.2.1 112 = .ok (.putfield 78, 3) := by decide +kernel
theorem dX2_takeOver_115 : decode YX2_takeOver.2.1 115 = .ok (.return_, 1) := by decide +kernel
theorem dX2_advance_0 : decode YX2_advance.2.1 0 = .ok (.aload_n 0, 1) := by decide +kernel
theorem dX2_advance_1 : decode YX2_advance.2.1 1 = .ok (.getfield 78, 3) := by decide +kernel
theorem dX2_advance_4 : decode YX2_advance.2.1 4 = .ok (.istore_n 2, 1) := by decide +kernel
theorem dX2_advance_5 : decode YX2_advance.2.1 5 = .ok (.iconst 0, 1) := by decide +kernel
theorem dX2_advance_6 : decode YX2_advance.2.1 6 = .ok (.istore_n 3, 1) := by decide +kernel
theorem dX2_advance_7 : decode YX2_advance.2.1 7 = .ok (.iload_n 3, 1) := by decide +kernel
theorem dX2_advance_8 : decode YX2_advance.2.1 8 = .ok (.iload_n 1, 1) := by decide +kernel
theorem dX2_advance_9 : decode YX2_advance.2.1 9 = .ok (.if_icmp .ge 35, 3) := by decide +kernel
theorem dX2_advance_12 : decode YX2_advance.2.1 12 = .ok (.aload_n 0, 1) := by decide +kernel
theorem dX2_advance_13 : decode YX2_advance.2.1 13 = .ok (.invokevirtual 81, 3) := by decide +kernel
theorem dX2_advance_16 : decode YX2_advance.2.1 16 = .ok (.aload_n 0, 1) := by decide +kernel
theorem dX2_advance_17 : decode YX2_advance.2.1 17 = .ok (.invokevirtual 84, 3) := by decide +kernel
theorem dX2_advance_20 : decode YX2_advance.2.1 20 = .ok (.aload_n 0, 1) := by decide +kernel
theorem dX2_advance_21 : decode YX2_advance.2.1 21 = .ok (.invokevirtual 87, 3) := by decide +kernel
theorem dX2_advance_24 : decode YX2_advance.2.1 24 = .ok (.aload_n 0, 1) := by decide +kernel
theorem dX2_advance_25 : decode YX2_advance.2.1 25 = .ok (.invokevirtual 90, 3) := by decide +kernel
theorem dX2_advance_28 : decode YX2_advance.2.1 28 = .ok (.aload_n 0, 1) := by decide +kernel
theorem dX2_advance_29 : decode YX2_advance.2.1 29 = .ok (.dup, 1) := by decide +kernel
theorem dX2_advance_30 : decode YX2_advance.2.1 30 = .ok (.getfield 75, 3) := by decide +kernel
theorem dX2_advance_33 : decode YX2_advance.2.1 33 = .ok (.iconst 1, 1) := by decide +kernel
theorem dX2_advance_34 : decode YX2_advance.2.1 34 = .ok (.iadd, 1) := by decide +kernel
theorem dX2_advance_35 : decode YX2_advance.2.1 35 = .ok (.putfield 75, 3) := by decide +kernel
theorem dX2_advance_38 : decode YX2_advance.2.1 38 = .ok (.iinc 3 1, 3) := by decide +kernel
theorem dX2_advance_41 : decode YX2_advance.2.1 41 = .ok (.goto (-34), 3) := by decide +kernel
theorem dX2_advance_44 : decode YX2_advance.2.1 44 = .ok (.aload_n 0, 1) := by decide +kernel
theorem dX2_advance_45 : decode YX2_advance.2.1 45 = .ok (.getfield 78, 3) := by decide +kernel
theorem dX2_advance_48 : decode YX2_advance.2.1 48 = .ok (.iload_n 2, 1) := by decide +kernel
theorem dX2_advance_49 : decode YX2_advance.2.1 49 = .ok (.isub, 1) := by decide +kernel
theorem dX2_advance_50 : decode YX2_advance.2.1 50 = .ok (.ireturn, 1) := by decide +kernel
theorem dX2_advanceTillQuiet_0 : decode YX2_advanceTillQuiet.2.1 0 = .ok (.iconst 1, 1) := by decide +kernel
theorem dX2_advanceTillQuiet_1 : decode YX2_advanceTillQuiet.2.1 1 = .ok (.istore_n 1, 1) := by decide +kernel
theorem dX2_advanceTillQuiet_2 : decode YX2_advanceTillQuiet.2.1 2 = .ok (.iload_n 1, 1) := by decide +kernel
theorem dX2_advanceTillQuiet_3 : decode YX2_advanceTillQuiet.2.1 3 = .ok (.bipush 80, 2) := by decide +kernel
theorem dX2_advanceTillQuiet_5 : decode YX2_advanceTillQuiet.2.1 5 = .ok (.if_icmp .gt 36, 3) := by decide +kernel
theorem dX2_advanceTillQuiet_8 : decode YX2_advanceTillQuiet.2.1 8 = .ok (.aload_n 0, 1) := by decide +kernel
theorem dX2_advanceTillQuiet_9 : decode YX2_advanceTillQuiet.2.1 9 = .ok (.getfield 65, 3) := by decide +kernel
theorem dX2_advanceTillQuiet_12 : decode YX2_advanceTillQuiet.2.1 12 = .ok (.ifCond .ne 7, 3) := by decide +kernel
theorem dX2_advanceTillQuiet_15 : decode YX2_advanceTillQuiet.2.1 15 = .ok (.iconst 1, 1) := by decide +kernel
theorem dX2_advanceTillQuiet_16 : decode YX2_advanceTillQuiet.2.1 16 = .ok (.goto 4, 3) := by decide +kernel
theorem dX2_advanceTillQuiet_19 : decode YX2_advanceTillQuiet.2.1 19 = .ok (.iconst 0, 1) := by decide +kernel
theorem dX2_advanceTillQuiet_20 : decode YX2_advanceTillQuiet.2.1 20 = .ok (.istore_n 2, 1) := by decide +kernel
theorem dX2_advanceTillQuiet_21 : decode YX2_advanceTillQuiet.2.1 21 = .ok (.aload_n 0, 1) := by decide +kernel
theorem dX2_advanceTillQuiet_22 : decode YX2_advanceTillQuiet.2.1 22 = .ok (.iconst 1, 1) := by decide +kernel
theorem dX2_advanceTillQuiet_23 : decode YX2_advanceTillQuiet.2.1 23 = .ok (.invokevirtual 93, 3) := by decide +kernel
theorem dX2_advanceTillQuiet_26 : decode YX2_advanceTillQuiet.2.1 26 = .ok (.ifCond .ne 9, 3) := by decide +kernel
theorem dX2_advanceTillQuiet_29 : decode YX2_advanceTillQuiet.2.1 29 = .ok (.iload_n 2, 1) := by decide +kernel
theorem dX2_advanceTillQuiet_30 : decode YX2_advanceTillQuiet.2.1 30 = .ok (.ifCond .eq 5, 3) := by decide +kernel
theorem dX2_advanceTillQuiet_33 : decode YX2_advanceTillQuiet.2.1 33 = .ok (.iload_n 1, 1) := by decide +kernel
theorem dX2_advanceTillQuiet_34 : decode YX2_advanceTillQuiet.2.1 34 = .ok (.ireturn, 1) := by decide +kernel
theorem dX2_advanceTillQuiet_35 : decode YX2_advanceTillQuiet.2.1 35 = .ok (.iinc 1 1, 3) := by decide +kernel
theorem dX2_advanceTillQuiet_38 : decode YX2_advanceTillQuiet.2.1 38 = .ok (.goto (-36), 3) := by decide +kernel
theorem dX2_advanceTillQuiet_41 : decode YX2_advanceTillQuiet.2.1 41 = .ok (.iconst (-1), 1) := by decide +kernel
theorem dX2_advanceTillQuiet_42 : decode YX2_advanceTillQuiet.2.1 42 = .ok (.ireturn, 1) := by decide +kernel
theorem dX2_arrive_0 : decode YX2_arrive.2.1 0 = .ok (.iconst 0, 1) := by decide +kernel
theorem dX2_arrive_1 : decode YX2_arrive.2.1 1 = .ok (.istore_n 1, 1) := by decide +kernel
theorem dX2_arrive_2 : decode YX2_arrive.2.1 2 = .ok (.iload_n 1, 1) := by decide +kernel
theorem dX2_arrive_3 : decode YX2_arrive.2.1 3 = .ok (.aload_n 0, 1) := by decide +kernel
theorem dX2_arrive_4 : decode YX2_arrive.2.1 4 = .ok (.getfield 65, 3) := by decide +kernel
theorem dX2_arrive_7 : decode YX2_arrive.2.1 7 = .ok (.if_icmp .ge 46, 3) := by decide +kernel
theorem dX2_arrive_10 : decode YX2_arrive.2.1 10 = .ok (.aload_n 0, 1) := by decide +kernel
theorem dX2_arrive_11 : decode YX2_arrive.2.1 11 = .ok (.getfield 12, 3) := by decide +kernel
theorem dX2_arrive_14 : decode YX2_arrive.2.1 14 = .ok (.getfield 97, 3) := by decide +kernel
theorem dX2_arrive_17 : decode YX2_arrive.2.1 17 = .ok (.aload_n 0, 1) := by decide +kernel
theorem dX2_arrive_18 : decode YX2_arrive.2.1 18 = .ok (.getfield 30, 3) := by decide +kernel
theorem dX2_arrive_21 : decode YX2_arrive.2.1 21 = .ok (.iload_n 1, 1) := by decide +kernel
theorem dX2_arrive_22 : decode YX2_arrive.2.1 22 = .ok (.iaload, 1) := by decide +kernel
theorem dX2_arrive_23 : decode YX2_arrive.2.1 23 = .ok (.baload, 1) := by decide +kernel
theorem dX2_arrive_24 : decode YX2_arrive.2.1 24 = .ok (.ifCond .eq 23, 3) := by decide +kernel
theorem dX2_arrive_27 : decode YX2_arrive.2.1 27 = .ok (.aload_n 0, 1) := by decide +kernel
theorem dX2_arrive_28 : decode YX2_arrive.2.1 28 = .ok (.getfield 34, 3) := by decide +kernel
theorem dX2_arrive_31 : decode YX2_arrive.2.1 31 = .ok (.iload_n 1, 1) := by decide +kernel
theorem dX2_arrive_32 : decode YX2_arrive.2.1 32 = .ok (.iaload, 1) := by decide +kernel
theorem dX2_arrive_33 : decode YX2_arrive.2.1 33 = .ok (.aload_n 0, 1) := by decide +kernel
theorem dX2_arrive_34 : decode YX2_arrive.2.1 34 = .ok (.getfield 37, 3) := by decide +kernel
theorem dX2_arrive_37 : decode YX2_arrive.2.1 37 = .ok (.iload_n 1, 1) := by decide +kernel
theorem dX2_arrive_38 : decode YX2_arrive.2.1 38 = .ok (.iaload, 1) := by decide +kernel
theorem dX2_arrive_39 : decode YX2_arrive.2.1 39 = .ok (.if_icmp .eq 8, 3) := by decide +kernel
theorem dX2_arrive_42 : decode YX2_arrive.2.1 42 = .ok (.aload_n 0, 1) := by decide +kernel
theorem dX2_arrive_43 : decode YX2_arrive.2.1 43 = .ok (.iload_n 1, 1) := by decide +kernel
theorem dX2_arrive_44 : decode YX2_arrive.2.1 44 = .ok (.invokevirtual 100, 3) := by decide +kernel
theorem dX2_arrive_47 : decode YX2_arrive.2.1 47 = .ok (.iinc 1 1, 3) := by decide +kernel
theorem dX2_arrive_50 : decode YX2_arrive.2.1 50 = .ok (.goto (-48), 3) := by decide +kernel
theorem dX2_arrive_53 : decode YX2_arrive.2.1 53 = .ok (.aload_n 0, 1) := by decide +kernel
theorem dX2_arrive_54 : decode YX2_arrive.2.1 54 = .ok (.iconst 0, 1) := by decide +kernel
theorem dX2_arrive_55 : decode YX2_arrive.2.1 55 = .ok (.putfield 65, 3) := by decide +kernel
theorem dX2_arrive_58 : decode YX2_arrive.2.1 58 = .ok (.return_, 1) := by decide +kernel
theorem dX2_take_0 : decode YX2_take.2.1 0 = .ok (.aload_n 0, 1) := by decide +kernel
theorem dX2_take_1 : decode YX2_take.2.1 1 = .ok (.getfield 30, 3) := by decide +kernel
theorem dX2_take_4 : decode YX2_take.2.1 4 = .ok (.iload_n 1, 1) := by decide +kernel
theorem dX2_take_5 : decode YX2_take.2.1 5 = .ok (.iaload, 1) := by decide +kernel
theorem dX2_take_6 : decode YX2_take.2.1 6 = .ok (.istore_n 2, 1) := by decide +kernel
theorem dX2_take_7 : decode YX2_take.2.1 7 = .ok (.aload_n 0, 1) := by decide +kernel
theorem dX2_take_8 : decode YX2_take.2.1 8 = .ok (.getfield 34, 3) := by decide +kernel
theorem dX2_take_11 : decode YX2_take.2.1 11 = .ok (.iload_n 1, 1) := by decide +kernel
theorem dX2_take_12 : decode YX2_take.2.1 12 = .ok (.iaload, 1) := by decide +kernel
theorem dX2_take_13 : decode YX2_take.2.1 13 = .ok (.aload_n 0, 1) := by decide +kernel
theorem dX2_take_14 : decode YX2_take.2.1 14 = .ok (.getfield 12, 3) := by decide +kernel
theorem dX2_take_17 : decode YX2_take.2.1 17 = .ok (.getfield 103, 3) := by decide +kernel
theorem dX2_take_20 : decode YX2_take.2.1 20 = .ok (.iload_n 2, 1) := by decide +kernel
theorem dX2_take_21 : decode YX2_take.2.1 21 = .ok (.iaload, 1) := by decide +kernel
theorem dX2_take_22 : decode YX2_take.2.1 22 = .ok (.aload_n 0, 1) := by decide +kernel
theorem dX2_take_23 : decode YX2_take.2.1 23 = .ok (.getfield 37, 3) := by decide +kernel
theorem dX2_take_26 : decode YX2_take.2.1 26 = .ok (.iload_n 1, 1) := by decide +kernel
theorem dX2_take_27 : decode YX2_take.2.1 27 = .ok (.iaload, 1) := by decide +kernel
theorem dX2_take_28 : decode YX2_take.2.1 28 = .ok (.invokestatic 106, 3) := by decide +kernel
theorem dX2_take_31 : decode YX2_take.2.1 31 = .ok (.istore_n 3, 1) := by decide +kernel
theorem dX2_take_32 : decode YX2_take.2.1 32 = .ok (.aload_n 0, 1) := by decide +kernel
theorem dX2_take_33 : decode YX2_take.2.1 33 = .ok (.getfield 23, 3) := by decide +kernel
theorem dX2_take_36 : decode YX2_take.2.1 36 = .ok (.getfield 110, 3) := by decide +kernel
theorem dX2_take_39 : decode YX2_take.2.1 39 = .ok (.iload_n 3, 1) := by decide +kernel
theorem dX2_take_40 : decode YX2_take.2.1 40 = .ok (.iaload, 1) := by decide +kernel
theorem dX2_take_41 : decode YX2_take.2.1 41 = .ok (.aload_n 0, 1) := by decide +kernel
theorem dX2_take_42 : decode YX2_take.2.1 42 = .ok (.getfield 27, 3) := by decide +kernel
theorem dX2_take_45 : decode YX2_take.2.1 45 = .ok (.getfield 110, 3) := by decide +kernel
theorem dX2_take_48 : decode YX2_take.2.1 48 = .ok (.iload_n 1, 1) := by decide +kernel
theorem dX2_take_49 : decode YX2_take.2.1 49 = .ok (.iaload, 1) := by decide +kernel
theorem dX2_take_50 : decode YX2_take.2.1 50 = .ok (.if_icmp .ge 35, 3) := by decide +kernel
theorem dX2_take_53 : decode YX2_take.2.1 53 = .ok (.aload_n 0, 1) := by decide +kernel
theorem dX2_take_54 : decode YX2_take.2.1 54 = .ok (.getfield 23, 3) := by decide +kernel
theorem dX2_take_57 : decode YX2_take.2.1 57 = .ok (.iload_n 3, 1) := by decide +kernel
theorem dX2_take_58 : decode YX2_take.2.1 58 = .ok (.aload_n 0, 1) := by decide +kernel
theorem dX2_take_59 : decode YX2_take.2.1 59 = .ok (.getfield 27, 3) := by decide +kernel
theorem dX2_take_62 : decode YX2_take.2.1 62 = .ok (.iload_n 1, 1) := by decide +kernel
theorem dX2_take_63 : decode YX2_take.2.1 63 = .ok (.invokevirtual 113, 3) := by decide +kernel
theorem dX2_take_66 : decode YX2_take.2.1 66 = .ok (.aload_n 0, 1) := by decide +kernel
theorem dX2_take_67 : decode YX2_take.2.1 67 = .ok (.getfield 40, 3) := by decide +kernel
theorem dX2_take_70 : decode YX2_take.2.1 70 = .ok (.iload_n 3, 1) := by decide +kernel
theorem dX2_take_71 : decode YX2_take.2.1 71 = .ok (.iconst 1, 1) := by decide +kernel
theorem dX2_take_72 : decode YX2_take.2.1 72 = .ok (.bastore, 1) := by decide +kernel
theorem dX2_take_73 : decode YX2_take.2.1 73 = .ok (.aload_n 0, 1) := by decide +kernel
theorem dX2_take_74 : decode YX2_take.2.1 74 = .ok (.getfield 44, 3) := by decide +kernel
theorem dX2_take_77 : decode YX2_take.2.1 77 = .ok (.iload_n 3, 1) := by decide +kernel
theorem dX2_take_78 : decode YX2_take.2.1 78 = .ok (.iconst 1, 1) := by decide +kernel
theorem dX2_take_79 : decode YX2_take.2.1 79 = .ok (.iload_n 2, 1) := by decide +kernel
theorem dX2_take_80 : decode YX2_take.2.1 80 = .ok (.ishl, 1) := by decide +kernel
theorem dX2_take_81 : decode YX2_take.2.1 81 = .ok (.iastore, 1) := by decide +kernel
theorem dX2_take_82 : decode YX2_take.2.1 82 = .ok (.goto 45, 3) := by decide +kernel
theorem dX2_take_85 : decode YX2_take.2.1 85 = .ok (.aload_n 0, 1) := by decide +kernel
theorem dX2_take_86 : decode YX2_take.2.1 86 = .ok (.getfield 23, 3) := by decide +kernel
theorem dX2_take_89 : decode YX2_take.2.1 89 = .ok (.getfield 110, 3) := by decide +kernel
theorem dX2_take_92 : decode YX2_take.2.1 92 = .ok (.iload_n 3, 1) := by decide +kernel
theorem dX2_take_93 : decode YX2_take.2.1 93 = .ok (.iaload, 1) := by decide +kernel
theorem dX2_take_94 : decode YX2_take.2.1 94 = .ok (.aload_n 0, 1) := by decide +kernel
theorem dX2_take_95 : decode YX2_take.2.1 95 = .ok (.getfield 27, 3) := by decide +kernel
theorem dX2_take_98 : decode YX2_take.2.1 98 = .ok (.getfield 110, 3) := by decide +kernel
theorem dX2_take_101 : decode YX2_take.2.1 101 = .ok (.iload_n 1, 1) := by decide +kernel
theorem dX2_take_102 : decode YX2_take.2.1 102 = .ok (.iaload, 1) := by decide +kernel
theorem dX2_take_103 : decode YX2_take.2.1 103 = .ok (.if_icmp .ne 24, 3) := by decide +kernel
theorem dX2_take_106 : decode YX2_take.2.1 106 = .ok (.aload_n 0, 1) := by decide +kernel
theorem dX2_take_107 : decode YX2_take.2.1 107 = .ok (.getfield 40, 3) := by decide +kernel
theorem dX2_take_110 : decode YX2_take.2.1 110 = .ok (.iload_n 3, 1) := by decide +kernel
theorem dX2_take_111 : decode YX2_take.2.1 111 = .ok (.baload, 1) := by decide +kernel
theorem dX2_take_112 : decode YX2_take.2.1 112 = .ok (.ifCond .eq 15, 3) := by decide +kernel
theorem dX2_take_115 : decode YX2_take.2.1 115 = .ok (.aload_n 0, 1) := by decide +kernel
theorem dX2_take_116 : decode YX2_take.2.1 116 = .ok (.getfield 44, 3) := by decide +kernel
theorem dX2_take_119 : decode YX2_take.2.1 119 = .ok (.iload_n 3, 1) := by decide +kernel
theorem dX2_take_120 : decode YX2_take.2.1 120 = .ok (.dup2, 1) := by decide +kernel
theorem dX2_take_121 : decode YX2_take.2.1 121 = .ok (.iaload, 1) := by decide +kernel
theorem dX2_take_122 : decode YX2_take.2.1 122 = .ok (.iconst 1, 1) := by decide +kernel
theorem dX2_take_123 : decode YX2_take.2.1 123 = .ok (.iload_n 2, 1) := by decide +kernel
theorem dX2_take_124 : decode YX2_take.2.1 124 = .ok (.ishl, 1) := by decide +kernel
theorem dX2_take_125 : decode YX2_take.2.1 125 = .ok (.ior, 1) := by decide +kernel
theorem dX2_take_126 : decode YX2_take.2.1 126 = .ok (.iastore, 1) := by decide +kernel
theorem dX2_take_127 : decode YX2_take.2.1 127 = .ok (.return_, 1) := by decide +kernel
theorem dX2_growOlder_0 : decode YX2_growOlder.2.1 0 = .ok (.iconst 0, 1) := by decide +kernel
theorem dX2_growOlder_1 : decode YX2_growOlder.2.1 1 = .ok (.istore_n 1, 1) := by decide +kernel
theorem dX2_growOlder_2 : decode YX2_growOlder.2.1 2 = .ok (.iload_n 1, 1) := by decide +kernel
theorem dX2_growOlder_3 : decode YX2_growOlder.2.1 3 = .ok (.sipush 192, 3) := by decide +kernel
theorem dX2_growOlder_6 : decode YX2_growOlder.2.1 6 = .ok (.if_icmp .ge 70, 3) := by decide +kernel
theorem dX2_growOlder_9 : decode YX2_growOlder.2.1 9 = .ok (.aload_n 0, 1) := by decide +kernel
theorem dX2_growOlder_10 : decode YX2_growOlder.2.1 10 = .ok (.getfield 23, 3) := by decide +kernel
theorem dX2_growOlder_13 : decode YX2_growOlder.2.1 13 = .ok (.getfield 110, 3) := by decide +kernel
theorem dX2_growOlder_16 : decode YX2_growOlder.2.1 16 = .ok (.iload_n 1, 1) := by decide +kernel
theorem dX2_growOlder_17 : decode YX2_growOlder.2.1 17 = .ok (.iaload, 1) := by decide +kernel
theorem dX2_growOlder_18 : decode YX2_growOlder.2.1 18 = .ok (.ifCond .eq 52, 3) := by decide +kernel
theorem dX2_growOlder_21 : decode YX2_growOlder.2.1 21 = .ok (.aload_n 0, 1) := by decide +kernel
theorem dX2_growOlder_22 : decode YX2_growOlder.2.1 22 = .ok (.getfield 23, 3) := by decide +kernel
theorem dX2_growOlder_25 : decode YX2_growOlder.2.1 25 = .ok (.getfield 117, 3) := by decide +kernel
theorem dX2_growOlder_28 : decode YX2_growOlder.2.1 28 = .ok (.iload_n 1, 1) := by decide +kernel
theorem dX2_growOlder_29 : decode YX2_growOlder.2.1 29 = .ok (.dup2, 1) := by decide +kernel
theorem dX2_growOlder_30 : decode YX2_growOlder.2.1 30 = .ok (.iaload, 1) := by decide +kernel
theorem dX2_growOlder_31 : decode YX2_growOlder.2.1 31 = .ok (.iconst 1, 1) := by decide +kernel
theorem dX2_growOlder_32 : decode YX2_growOlder.2.1 32 = .ok (.iadd, 1) := by decide +kernel
theorem dX2_growOlder_33 : decode YX2_growOlder.2.1 33 = .ok (.iastore, 1) := by decide +kernel
theorem dX2_growOlder_34 : decode YX2_growOlder.2.1 34 = .ok (.aload_n 0, 1) := by decide +kernel
theorem dX2_growOlder_35 : decode YX2_growOlder.2.1 35 = .ok (.getfield 23, 3) := by decide +kernel
theorem dX2_growOlder_38 : decode YX2_growOlder.2.1 38 = .ok (.getfield 117, 3) := by decide +kernel
theorem dX2_growOlder_41 : decode YX2_growOlder.2.1 41 = .ok (.iload_n 1, 1) := by decide +kernel
theorem dX2_growOlder_42 : decode YX2_growOlder.2.1 42 = .ok (.iaload, 1) := by decide +kernel
theorem dX2_growOlder_43 : decode YX2_growOlder.2.1 43 = .ok (.bipush 60, 2) := by decide +kernel
theorem dX2_growOlder_45 : decode YX2_growOlder.2.1 45 = .ok (.if_icmp .lt 25, 3) := by decide +kernel
theorem dX2_growOlder_48 : decode YX2_growOlder.2.1 48 = .ok (.iload_n 1, 1) := by decide +kernel
theorem dX2_growOlder_49 : decode YX2_growOlder.2.1 49 = .ok (.invokestatic 120, 3) := by decide +kernel
theorem dX2_growOlder_52 : decode YX2_growOlder.2.1 52 = .ok (.ifCond .ne 18, 3) := by decide +kernel
theorem dX2_growOlder_55 : decode YX2_growOlder.2.1 55 = .ok (.aload_n 0, 1) := by decide +kernel
theorem dX2_growOlder_56 : decode YX2_growOlder.2.1 56 = .ok (.getfield 23, 3) := by decide +kernel
theorem dX2_growOlder_59 : decode YX2_growOlder.2.1 59 = .ok (.iload_n 1, 1) := by decide +kernel
theorem dX2_growOlder_60 : decode YX2_growOlder.2.1 60 = .ok (.invokevirtual 124, 3) := by decide +kernel
theorem dX2_growOlder_63 : decode YX2_growOlder.2.1 63 = .ok (.aload_n 0, 1) := by decide +kernel
theorem dX2_growOlder_64 : decode YX2_growOlder.2.1 64 = .ok (.getfield 40, 3) := by decide +kernel
theorem dX2_growOlder_67 : decode YX2_growOlder.2.1 67 = .ok (.iload_n 1, 1) := by decide +kernel
theorem dX2_growOlder_68 : decode YX2_growOlder.2.1 68 = .ok (.iconst 0, 1) := by decide +kernel
theorem dX2_growOlder_69 : decode YX2_growOlder.2.1 69 = .ok (.bastore, 1) := by decide +kernel
theorem dX2_growOlder_70 : decode YX2_growOlder.2.1 70 = .ok (.iinc 1 1, 3) := by decide +kernel
theorem dX2_growOlder_73 : decode YX2_growOlder.2.1 73 = .ok (.goto (-71), 3) := by decide +kernel
theorem dX2_growOlder_76 : decode YX2_growOlder.2.1 76 = .ok (.return_, 1) := by decide +kernel
theorem dX2_isOwn_0 : decode YX2_isOwn.2.1 0 = .ok (.iload_n 0, 1) := by decide +kernel
theorem dX2_isOwn_1 : decode YX2_isOwn.2.1 1 = .ok (.bipush 8, 2) := by decide +kernel
theorem dX2_isOwn_3 : decode YX2_isOwn.2.1 3 = .ok (.irem, 1) := by decide +kernel
theorem dX2_isOwn_4 : decode YX2_isOwn.2.1 4 = .ok (.iload_n 0, 1) := by decide +kernel
theorem dX2_isOwn_5 : decode YX2_isOwn.2.1 5 = .ok (.bipush 24, 2) := by decide +kernel
theorem dX2_isOwn_7 : decode YX2_isOwn.2.1 7 = .ok (.idiv, 1) := by decide +kernel
theorem dX2_isOwn_8 : decode YX2_isOwn.2.1 8 = .ok (.if_icmp .ne 7, 3) := by decide +kernel
theorem dX2_isOwn_11 : decode YX2_isOwn.2.1 11 = .ok (.iconst 1, 1) := by decide +kernel
theorem dX2_isOwn_12 : decode YX2_isOwn.2.1 12 = .ok (.goto 4, 3) := by decide +kernel
theorem dX2_isOwn_15 : decode YX2_isOwn.2.1 15 = .ok (.iconst 0, 1) := by decide +kernel
theorem dX2_isOwn_16 : decode YX2_isOwn.2.1 16 = .ok (.ireturn, 1) := by decide +kernel
theorem dX2_tellAnew_0 : decode YX2_tellAnew.2.1 0 = .ok (.iconst 0, 1) := by decide +kernel
theorem dX2_tellAnew_1 : decode YX2_tellAnew.2.1 1 = .ok (.istore_n 1, 1) := by decide +kernel
theorem dX2_tellAnew_2 : decode YX2_tellAnew.2.1 2 = .ok (.iload_n 1, 1) := by decide +kernel
theorem dX2_tellAnew_3 : decode YX2_tellAnew.2.1 3 = .ok (.bipush 8, 2) := by decide +kernel
theorem dX2_tellAnew_5 : decode YX2_tellAnew.2.1 5 = .ok (.if_icmp .ge 79, 3) := by decide +kernel
theorem dX2_tellAnew_8 : decode YX2_tellAnew.2.1 8 = .ok (.aload_n 0, 1) := by decide +kernel
theorem dX2_tellAnew_9 : decode YX2_tellAnew.2.1 9 = .ok (.getfield 12, 3) := by decide +kernel
theorem dX2_tellAnew_12 : decode YX2_tellAnew.2.1 12 = .ok (.iload_n 1, 1) := by decide +kernel
theorem dX2_tellAnew_13 : decode YX2_tellAnew.2.1 13 = .ok (.invokevirtual 127, 3) := by decide +kernel
theorem dX2_tellAnew_16 : decode YX2_tellAnew.2.1 16 = .ok (.istore_n 2, 1) := by decide +kernel
theorem dX2_tellAnew_17 : decode YX2_tellAnew.2.1 17 = .ok (.iconst 0, 1) := by decide +kernel
theorem dX2_tellAnew_18 : decode YX2_tellAnew.2.1 18 = .ok (.istore_n 3, 1) := by decide +kernel
theorem dX2_tellAnew_19 : decode YX2_tellAnew.2.1 19 = .ok (.iload_n 3, 1) := by decide +kernel
theorem dX2_tellAnew_20 : decode YX2_tellAnew.2.1 20 = .ok (.iconst 3, 1) := by decide +kernel
theorem dX2_tellAnew_21 : decode YX2_tellAnew.2.1 21 = .ok (.if_icmp .ge 57, 3) := by decide +kernel
theorem dX2_tellAnew_24 : decode YX2_tellAnew.2.1 24 = .ok (.iload_n 1, 1) := by decide +kernel
theorem dX2_tellAnew_25 : decode YX2_tellAnew.2.1 25 = .ok (.iload_n 3, 1) := by decide +kernel
theorem dX2_tellAnew_26 : decode YX2_tellAnew.2.1 26 = .ok (.iload_n 1, 1) := by decide +kernel
theorem dX2_tellAnew_27 : decode YX2_tellAnew.2.1 27 = .ok (.invokestatic 106, 3) := by decide +kernel
theorem dX2_tellAnew_30 : decode YX2_tellAnew.2.1 30 = .ok (.istore 4, 2) := by decide +kernel
theorem dX2_tellAnew_32 : decode YX2_tellAnew.2.1 32 = .ok (.aload_n 0, 1) := by decide +kernel
theorem dX2_tellAnew_33 : decode YX2_tellAnew.2.1 33 = .ok (.getfield 23, 3) := by decide +kernel
theorem dX2_tellAnew_36 : decode YX2_tellAnew.2.1 36 = .ok (.getfield 110, 3) := by decide +kernel
theorem dX2_tellAnew_39 : decode YX2_tellAnew.2.1 39 = .ok (.iload 4, 2) := by decide +kernel
theorem dX2_tellAnew_41 : decode YX2_tellAnew.2.1 41 = .ok (.iaload, 1) := by decide +kernel
theorem dX2_tellAnew_42 : decode YX2_tellAnew.2.1 42 = .ok (.ifCond .ne 11, 3) := by decide +kernel
theorem dX2_tellAnew_45 : decode YX2_tellAnew.2.1 45 = .ok (.iload_n 2, 1) := by decide +kernel
theorem dX2_tellAnew_46 : decode YX2_tellAnew.2.1 46 = .ok (.iload_n 3, 1) := by decide +kernel
theorem dX2_tellAnew_47 : decode YX2_tellAnew.2.1 47 = .ok (.ishr, 1) := by decide +kernel
theorem dX2_tellAnew_48 : decode YX2_tellAnew.2.1 48 = .ok (.iconst 1, 1) := by decide +kernel
theorem dX2_tellAnew_49 : decode YX2_tellAnew.2.1 49 = .ok (.iand, 1) := by decide +kernel
theorem dX2_tellAnew_50 : decode YX2_tellAnew.2.1 50 = .ok (.ifCond .eq 22, 3) := by decide +kernel
theorem dX2_tellAnew_53 : decode YX2_tellAnew.2.1 53 = .ok (.aload_n 0, 1) := by decide +kernel
theorem dX2_tellAnew_54 : decode YX2_tellAnew.2.1 54 = .ok (.iload_n 1, 1) := by decide +kernel
theorem dX2_tellAnew_55 : decode YX2_tellAnew.2.1 55 = .ok (.iload_n 3, 1) := by decide +kernel
theorem dX2_tellAnew_56 : decode YX2_tellAnew.2.1 56 = .ok (.invokevirtual 130, 3) := by decide +kernel
theorem dX2_tellAnew_59 : decode YX2_tellAnew.2.1 59 = .ok (.aload_n 0, 1) := by decide +kernel
theorem dX2_tellAnew_60 : decode YX2_tellAnew.2.1 60 = .ok (.iload_n 1, 1) := by decide +kernel
theorem dX2_tellAnew_61 : decode YX2_tellAnew.2.1 61 = .ok (.iload_n 3, 1) := by decide +kernel
theorem dX2_tellAnew_62 : decode YX2_tellAnew.2.1 62 = .ok (.iload_n 2, 1) := by decide +kernel
theorem dX2_tellAnew_63 : decode YX2_tellAnew.2.1 63 = .ok (.invokevirtual 134, 3) := by decide +kernel
theorem dX2_tellAnew_66 : decode YX2_tellAnew.2.1 66 = .ok (.aload_n 0, 1) := by decide +kernel
theorem dX2_tellAnew_67 : decode YX2_tellAnew.2.1 67 = .ok (.iload 4, 2) := by decide +kernel
theorem dX2_tellAnew_69 : decode YX2_tellAnew.2.1 69 = .ok (.invokevirtual 138, 3) := by decide +kernel
theorem dX2_tellAnew_72 : decode YX2_tellAnew.2.1 72 = .ok (.iinc 3 1, 3) := by decide +kernel
theorem dX2_tellAnew_75 : decode YX2_tellAnew.2.1 75 = .ok (.goto (-56), 3) := by decide +kernel
theorem dX2_tellAnew_78 : decode YX2_tellAnew.2.1 78 = .ok (.iinc 1 1, 3) := by decide +kernel
theorem dX2_tellAnew_81 : decode YX2_tellAnew.2.1 81 = .ok (.goto (-79), 3) := by decide +kernel
theorem dX2_tellAnew_84 : decode YX2_tellAnew.2.1 84 = .ok (.return_, 1) := by decide +kernel
theorem dX2_draftLinks_0 : decode YX2_draftLinks.2.1 0 = .ok (.aload_n 0, 1) := by decide +kernel
theorem dX2_draftLinks_1 : decode YX2_draftLinks.2.1 1 = .ok (.getfield 47, 3) := by decide +kernel
theorem dX2_draftLinks_4 : decode YX2_draftLinks.2.1 4 = .ok (.getfield 141, 3) := by decide +kernel
theorem dX2_draftLinks_7 : decode YX2_draftLinks.2.1 7 = .ok (.iconst 0, 1) := by decide +kernel
theorem dX2_draftLinks_8 : decode YX2_draftLinks.2.1 8 = .ok (.iconst 0, 1) := by decide +kernel
theorem dX2_draftLinks_9 : decode YX2_draftLinks.2.1 9 = .ok (.iastore, 1) := by decide +kernel
theorem dX2_draftLinks_10 : decode YX2_draftLinks.2.1 10 = .ok (.iconst 0, 1) := by decide +kernel
theorem dX2_draftLinks_11 : decode YX2_draftLinks.2.1 11 = .ok (.istore_n 3, 1) := by decide +kernel
theorem dX2_draftLinks_12 : decode YX2_draftLinks.2.1 12 = .ok (.iload_n 3, 1) := by decide +kernel
theorem dX2_draftLinks_13 : decode YX2_draftLinks.2.1 13 = .ok (.bipush 12, 2) := by decide +kernel
theorem dX2_draftLinks_15 : decode YX2_draftLinks.2.1 15 = .ok (.if_icmp .ge 103, 3) := by decide +kernel
theorem dX2_draftLinks_18 : decode YX2_draftLinks.2.1 18 = .ok (.iload_n 3, 1) := by decide +kernel
theorem dX2_draftLinks_19 : decode YX2_draftLinks.2.1 19 = .ok (.aload_n 0, 1) := by decide +kernel
theorem dX2_draftLinks_20 : decode YX2_draftLinks.2.1 20 = .ok (.getfield 12, 3) := by decide +kernel
theorem dX2_draftLinks_23 : decode YX2_draftLinks.2.1 23 = .ok (.getfield 143, 3) := by decide +kernel
theorem dX2_draftLinks_26 : decode YX2_draftLinks.2.1 26 = .ok (.if_icmp .ge 32, 3) := by decide +kernel
theorem dX2_draftLinks_29 : decode YX2_draftLinks.2.1 29 = .ok (.aload_n 0, 1) := by decide +kernel
theorem dX2_draftLinks_30 : decode YX2_draftLinks.2.1 30 = .ok (.getfield 12, 3) := by decide +kernel
theorem dX2_draftLinks_33 : decode YX2_draftLinks.2.1 33 = .ok (.getfield 103, 3) := by decide +kernel
theorem dX2_draftLinks_36 : decode YX2_draftLinks.2.1 36 = .ok (.iload_n 3, 1) := by decide +kernel
theorem dX2_draftLinks_37 : decode YX2_draftLinks.2.1 37 = .ok (.iaload, 1) := by decide +kernel
theorem dX2_draftLinks_38 : decode YX2_draftLinks.2.1 38 = .ok (.iload_n 2, 1) := by decide +kernel
theorem dX2_draftLinks_39 : decode YX2_draftLinks.2.1 39 = .ok (.if_icmp .ne 19, 3) := by decide +kernel
theorem dX2_draftLinks_42 : decode YX2_draftLinks.2.1 42 = .ok (.aload_n 0, 1) := by decide +kernel
theorem dX2_draftLinks_43 : decode YX2_draftLinks.2.1 43 = .ok (.getfield 12, 3) := by decide +kernel
theorem dX2_draftLinks_46 : decode YX2_draftLinks.2.1 46 = .ok (.iload_n 3, 1) := by decide +kernel
theorem dX2_draftLinks_47 : decode YX2_draftLinks.2.1 47 = .ok (.iload_n 1, 1) := by decide +kernel
theorem dX2_draftLinks_48 : decode YX2_draftLinks.2.1 48 = .ok (.invokevirtual 146, 3) := by decide +kernel
theorem dX2_draftLinks_51 : decode YX2_draftLinks.2.1 51 = .ok (.ifCond .eq 7, 3) := by decide +kernel
theorem dX2_draftLinks_54 : decode YX2_draftLinks.2.1 54 = .ok (.iconst 1, 1) := by decide +kernel
theorem dX2_draftLinks_55 : decode YX2_draftLinks.2.1 55 = .ok (.goto 4, 3) := by decide +kernel
theorem dX2_draftLinks_58 : decode YX2_draftLinks.2.1 58 = .ok (.iconst 0, 1) := by decide +kernel
theorem dX2_draftLinks_59 : decode YX2_draftLinks.2.1 59 = .ok (.istore 4, 2) := by decide +kernel
theorem dX2_draftLinks_61 : decode YX2_draftLinks.2.1 61 = .ok (.aload_n 0, 1) := by decide +kernel
theorem dX2_draftLinks_62 : decode YX2_draftLinks.2.1 62 = .ok (.getfield 47, 3) := by decide +kernel
theorem dX2_draftLinks_65 : decode YX2_draftLinks.2.1 65 = .ok (.getfield 150, 3) := by decide +kernel
theorem dX2_draftLinks_68 : decode YX2_draftLinks.2.1 68 = .ok (.iload_n 3, 1) := by decide +kernel
theorem dX2_draftLinks_69 : decode YX2_draftLinks.2.1 69 = .ok (.iload 4, 2) := by decide +kernel
theorem dX2_draftLinks_71 : decode YX2_draftLinks.2.1 71 = .ok (.ifCond .eq 15, 3) := by decide +kernel
theorem dX2_draftLinks_74 : decode YX2_draftLinks.2.1 74 = .ok (.aload_n 0, 1) := by decide +kernel
theorem dX2_draftLinks_75 : decode YX2_draftLinks.2.1 75 = .ok (.getfield 12, 3) := by decide +kernel
theorem dX2_draftLinks_78 : decode YX2_draftLinks.2.1 78 = .ok (.iload_n 3, 1) := by decide +kernel
theorem dX2_draftLinks_79 : decode YX2_draftLinks.2.1 79 = .ok (.iload_n 1, 1) := by decide +kernel
theorem dX2_draftLinks_80 : decode YX2_draftLinks.2.1 80 = .ok (.invokevirtual 153, 3) := by decide +kernel
theorem dX2_draftLinks_83 : decode YX2_draftLinks.2.1 83 = .ok (.goto 4, 3) := by decide +kernel
theorem dX2_draftLinks_86 : decode YX2_draftLinks.2.1 86 = .ok (.iconst (-1), 1) := by decide +kernel
theorem dX2_draftLinks_87 : decode YX2_draftLinks.2.1 87 = .ok (.iastore, 1) := by decide +kernel
theorem dX2_draftLinks_88 : decode YX2_draftLinks.2.1 88 = .ok (.aload_n 0, 1) := by decide +kernel
theorem dX2_draftLinks_89 : decode YX2_draftLinks.2.1 89 = .ok (.getfield 47, 3) := by decide +kernel
theorem dX2_draftLinks_92 : decode YX2_draftLinks.2.1 92 = .ok (.getfield 141, 3) := by decide +kernel
theorem dX2_draftLinks_95 : decode YX2_draftLinks.2.1 95 = .ok (.iconst 0, 1) := by decide +kernel
theorem dX2_draftLinks_96 : decode YX2_draftLinks.2.1 96 = .ok (.dup2, 1) := by decide +kernel
theorem dX2_draftLinks_97 : decode YX2_draftLinks.2.1 97 = .ok (.iaload, 1) := by decide +kernel
theorem dX2_draftLinks_98 : decode YX2_draftLinks.2.1 98 = .ok (.iload 4, 2) := by decide +kernel
theorem dX2_draftLinks_100 : decode YX2_draftLinks.2.1 100 = .ok (.ifCond .eq 9, 3) := by decide +kernel
theorem dX2_draftLinks_103 : decode YX2_draftLinks.2.1 103 = .ok (.iconst 1, 1) := by decide +kernel
theorem dX2_draftLinks_104 : decode YX2_draftLinks.2.1 104 = .ok (.iload_n 3, 1) := by decide +kernel
theorem dX2_draftLinks_105 : decode YX2_draftLinks.2.1 105 = .ok (.ishl, 1) := by decide +kernel
theorem dX2_draftLinks_106 : decode YX2_draftLinks.2.1 106 = .ok (.goto 4, 3) := by decide +kernel
theorem dX2_draftLinks_109 : decode YX2_draftLinks.2.1 109 = .ok (.iconst 0, 1) := by decide +kernel
theorem dX2_draftLinks_110 : decode YX2_draftLinks.2.1 110 = .ok (.ior, 1) := by decide +kernel
theorem dX2_draftLinks_111 : decode YX2_draftLinks.2.1 111 = .ok (.iastore, 1) := by decide +kernel
theorem dX2_draftLinks_112 : decode YX2_draftLinks.2.1 112 = .ok (.iinc 3 1, 3) := by decide +kernel
theorem dX2_draftLinks_115 : decode YX2_draftLinks.2.1 115 = .ok (.goto (-103), 3) := by decide +kernel
theorem dX2_draftLinks_118 : decode YX2_draftLinks.2.1 118 = .ok (.return_, 1) := by decide +kernel
theorem dX2_draftSums_0 : decode YX2_draftSums.2.1 0 = .ok (.aload_n 0, 1) := by decide +kernel
theorem dX2_draftSums_1 : decode YX2_draftSums.2.1 1 = .ok (.getfield 47, 3) := by decide +kernel
theorem dX2_draftSums_4 : decode YX2_draftSums.2.1 4 = .ok (.getfield 157, 3) := by decide +kernel
theorem dX2_draftSums_7 : decode YX2_draftSums.2.1 7 = .ok (.sipush 9999, 3) := by decide +kernel
theorem dX2_draftSums_10 : decode YX2_draftSums.2.1 10 = .ok (.invokestatic 160, 3) := by decide +kernel
theorem dX2_draftSums_13 : decode YX2_draftSums.2.1 13 = .ok (.iload_n 3, 1) := by decide +kernel
theorem dX2_draftSums_14 : decode YX2_draftSums.2.1 14 = .ok (.invokestatic 166, 3) := by decide +kernel
theorem dX2_draftSums_17 : decode YX2_draftSums.2.1 17 = .ok (.ifCond .ne 4, 3) := by decide +kernel
theorem dX2_draftSums_20 : decode YX2_draftSums.2.1 20 = .ok (.return_, 1) := by decide +kernel
theorem dX2_draftSums_21 : decode YX2_draftSums.2.1 21 = .ok (.iload_n 2, 1) := by decide +kernel
theorem dX2_draftSums_22 : decode YX2_draftSums.2.1 22 = .ok (.ifCond .ne 10, 3) := by decide +kernel
theorem dX2_draftSums_25 : decode YX2_draftSums.2.1 25 = .ok (.iload_n 3, 1) := by decide +kernel
theorem dX2_draftSums_26 : decode YX2_draftSums.2.1 26 = .ok (.bipush (-2), 2) := by decide +kernel
theorem dX2_draftSums_28 : decode YX2_draftSums.2.1 28 = .ok (.iand, 1) := by decide +kernel
theorem dX2_draftSums_29 : decode YX2_draftSums.2.1 29 = .ok (.goto 4, 3) := by decide +kernel
theorem dX2_draftSums_32 : decode YX2_draftSums.2.1 32 = .ok (.iconst 1, 1) := by decide +kernel
theorem dX2_draftSums_33 : decode YX2_draftSums.2.1 33 = .ok (.istore 4, 2) := by decide +kernel
theorem dX2_draftSums_35 : decode YX2_draftSums.2.1 35 = .ok (.iconst 0, 1) := by decide +kernel
theorem dX2_draftSums_36 : decode YX2_draftSums.2.1 36 = .ok (.istore 5, 2) := by decide +kernel
theorem dX2_draftSums_38 : decode YX2_draftSums.2.1 38 = .ok (.iload 5, 2) := by decide +kernel
theorem dX2_draftSums_40 : decode YX2_draftSums.2.1 40 = .ok (.iconst 3, 1) := by decide +kernel
theorem dX2_draftSums_41 : decode YX2_draftSums.2.1 41 = .ok (.if_icmp .ge 79, 3) := by decide +kernel
theorem dX2_draftSums_44 : decode YX2_draftSums.2.1 44 = .ok (.iload 4, 2) := by decide +kernel
theorem dX2_draftSums_46 : decode YX2_draftSums.2.1 46 = .ok (.iload 5, 2) := by decide +kernel
theorem dX2_draftSums_48 : decode YX2_draftSums.2.1 48 = .ok (.ishr, 1) := by decide +kernel
theorem dX2_draftSums_49 : decode YX2_draftSums.2.1 49 = .ok (.iconst 1, 1) := by decide +kernel
theorem dX2_draftSums_50 : decode YX2_draftSums.2.1 50 = .ok (.iand, 1) := by decide +kernel
theorem dX2_draftSums_51 : decode YX2_draftSums.2.1 51 = .ok (.ifCond .eq 63, 3) := by decide +kernel
theorem dX2_draftSums_54 : decode YX2_draftSums.2.1 54 = .ok (.aload_n 0, 1) := by decide +kernel
theorem dX2_draftSums_55 : decode YX2_draftSums.2.1 55 = .ok (.getfield 53, 3) := by decide +kernel
theorem dX2_draftSums_58 : decode YX2_draftSums.2.1 58 = .ok (.aload_n 0, 1) := by decide +kernel
theorem dX2_draftSums_59 : decode YX2_draftSums.2.1 59 = .ok (.iload_n 1, 1) := by decide +kernel
theorem dX2_draftSums_60 : decode YX2_draftSums.2.1 60 = .ok (.iload 5, 2) := by decide +kernel
theorem dX2_draftSums_62 : decode YX2_draftSums.2.1 62 = .ok (.invokevirtual 169, 3) := by decide +kernel
theorem dX2_draftSums_65 : decode YX2_draftSums.2.1 65 = .ok (.iconst 0, 1) := by decide +kernel
theorem dX2_draftSums_66 : decode YX2_draftSums.2.1 66 = .ok (.istore 6, 2) := by decide +kernel
theorem dX2_draftSums_68 : decode YX2_draftSums.2.1 68 = .ok (.iload 6, 2) := by decide +kernel
theorem dX2_draftSums_70 : decode YX2_draftSums.2.1 70 = .ok (.bipush 8, 2) := by decide +kernel
theorem dX2_draftSums_72 : decode YX2_draftSums.2.1 72 = .ok (.if_icmp .ge 42, 3) := by decide +kernel
theorem dX2_draftSums_75 : decode YX2_draftSums.2.1 75 = .ok (.aload_n 0, 1) := by decide +kernel
theorem dX2_draftSums_76 : decode YX2_draftSums.2.1 76 = .ok (.getfield 47, 3) := by decide +kernel
theorem dX2_draftSums_79 : decode YX2_draftSums.2.1 79 = .ok (.getfield 157, 3) := by decide +kernel
theorem dX2_draftSums_82 : decode YX2_draftSums.2.1 82 = .ok (.iload 6, 2) := by decide +kernel
theorem dX2_draftSums_84 : decode YX2_draftSums.2.1 84 = .ok (.aload_n 0, 1) := by decide +kernel
theorem dX2_draftSums_85 : decode YX2_draftSums.2.1 85 = .ok (.getfield 47, 3) := by decide +kernel
theorem dX2_draftSums_88 : decode YX2_draftSums.2.1 88 = .ok (.getfield 157, 3) := by decide +kernel
theorem dX2_draftSums_91 : decode YX2_draftSums.2.1 91 = .ok (.iload 6, 2) := by decide +kernel
theorem dX2_draftSums_93 : decode YX2_draftSums.2.1 93 = .ok (.iaload, 1) := by decide +kernel
theorem dX2_draftSums_94 : decode YX2_draftSums.2.1 94 = .ok (.aload_n 0, 1) := by decide +kernel
theorem dX2_draftSums_95 : decode YX2_draftSums.2.1 95 = .ok (.getfield 53, 3) := by decide +kernel
theorem dX2_draftSums_98 : decode YX2_draftSums.2.1 98 = .ok (.getfield 173, 3) := by decide +kernel
theorem dX2_draftSums_101 : decode YX2_draftSums.2.1 101 = .ok (.iload 6, 2) := by decide +kernel
theorem dX2_draftSums_103 : decode YX2_draftSums.2.1 103 = .ok (.iaload, 1) := by decide +kernel
theorem dX2_draftSums_104 : decode YX2_draftSums.2.1 104 = .ok (.invokestatic 176, 3) := by decide +kernel
theorem dX2_draftSums_107 : decode YX2_draftSums.2.1 107 = .ok (.iastore, 1) := by decide +kernel
theorem dX2_draftSums_108 : decode YX2_draftSums.2.1 108 = .ok (.iinc 6 1, 3) := by decide +kernel
theorem dX2_draftSums_111 : decode YX2_draftSums.2.1 111 = .ok (.goto (-43), 3) := by decide +kernel
theorem dX2_draftSums_114 : decode YX2_draftSums.2.1 114 = .ok (.iinc 5 1, 3) := by decide +kernel
theorem dX2_draftSums_117 : decode YX2_draftSums.2.1 117 = .ok (.goto (-79), 3) := by decide +kernel
theorem dX2_draftSums_120 : decode YX2_draftSums.2.1 120 = .ok (.iload_n 2, 1) := by decide +kernel
theorem dX2_draftSums_121 : decode YX2_draftSums.2.1 121 = .ok (.ifCond .eq 8, 3) := by decide +kernel
theorem dX2_draftSums_124 : decode YX2_draftSums.2.1 124 = .ok (.aload_n 0, 1) := by decide +kernel
theorem dX2_draftSums_125 : decode YX2_draftSums.2.1 125 = .ok (.iload_n 1, 1) := by decide +kernel
theorem dX2_draftSums_126 : decode YX2_draftSums.2.1 126 = .ok (.invokevirtual 181, 3) := by decide +kernel
theorem dX2_draftSums_129 : decode YX2_draftSums.2.1 129 = .ok (.aload_n 0, 1) := by decide +kernel
theorem dX2_draftSums_130 : decode YX2_draftSums.2.1 130 = .ok (.getfield 47, 3) := by decide +kernel
theorem dX2_draftSums_133 : decode YX2_draftSums.2.1 133 = .ok (.getfield 157, 3) := by decide +kernel
theorem dX2_draftSums_136 : decode YX2_draftSums.2.1 136 = .ok (.iload_n 1, 1) := by decide +kernel
theorem dX2_draftSums_137 : decode YX2_draftSums.2.1 137 = .ok (.sipush 9999, 3) := by decide +kernel
theorem dX2_draftSums_140 : decode YX2_draftSums.2.1 140 = .ok (.iastore, 1) := by decide +kernel
theorem dX2_draftSums_141 : decode YX2_draftSums.2.1 141 = .ok (.return_, 1) := by decide +kernel
theorem dX2_sumUpAcross_0 : decode YX2_sumUpAcross.2.1 0 = .ok (.iconst 0, 1) := by decide +kernel
theorem dX2_sumUpAcross_1 : decode YX2_sumUpAcross.2.1 1 = .ok (.istore_n 2, 1) := by decide +kernel
theorem dX2_sumUpAcross_2 : decode YX2_sumUpAcross.2.1 2 = .ok (.iload_n 2, 1) := by decide +kernel
theorem dX2_sumUpAcross_3 : decode YX2_sumUpAcross.2.1 3 = .ok (.bipush 8, 2) := by decide +kernel
theorem dX2_sumUpAcross_5 : decode YX2_sumUpAcross.2.1 5 = .ok (.if_icmp .ge 71, 3) := by decide +kernel
theorem dX2_sumUpAcross_8 : decode YX2_sumUpAcross.2.1 8 = .ok (.aload_n 0, 1) := by decide +kernel
theorem dX2_sumUpAcross_9 : decode YX2_sumUpAcross.2.1 9 = .ok (.getfield 47, 3) := by decide +kernel
theorem dX2_sumUpAcross_12 : decode YX2_sumUpAcross.2.1 12 = .ok (.getfield 157, 3) := by decide +kernel
theorem dX2_sumUpAcross_15 : decode YX2_sumUpAcross.2.1 15 = .ok (.iload_n 2, 1) := by decide +kernel
theorem dX2_sumUpAcross_16 : decode YX2_sumUpAcross.2.1 16 = .ok (.iaload, 1) := by decide +kernel
theorem dX2_sumUpAcross_17 : decode YX2_sumUpAcross.2.1 17 = .ok (.sipush 9999, 3) := by decide +kernel
theorem dX2_sumUpAcross_20 : decode YX2_sumUpAcross.2.1 20 = .ok (.if_icmp .lt 50, 3) := by decide +kernel
theorem dX2_sumUpAcross_23 : decode YX2_sumUpAcross.2.1 23 = .ok (.aload_n 0, 1) := by decide +kernel
theorem dX2_sumUpAcross_24 : decode YX2_sumUpAcross.2.1 24 = .ok (.aload_n 0, 1) := by decide +kernel
theorem dX2_sumUpAcross_25 : decode YX2_sumUpAcross.2.1 25 = .ok (.getfield 53, 3) := by decide +kernel
theorem dX2_sumUpAcross_28 : decode YX2_sumUpAcross.2.1 28 = .ok (.iload_n 1, 1) := by decide +kernel
theorem dX2_sumUpAcross_29 : decode YX2_sumUpAcross.2.1 29 = .ok (.iconst 0, 1) := by decide +kernel
theorem dX2_sumUpAcross_30 : decode YX2_sumUpAcross.2.1 30 = .ok (.iload_n 2, 1) := by decide +kernel
theorem dX2_sumUpAcross_31 : decode YX2_sumUpAcross.2.1 31 = .ok (.invokevirtual 184, 3) := by decide +kernel
theorem dX2_sumUpAcross_34 : decode YX2_sumUpAcross.2.1 34 = .ok (.istore_n 3, 1) := by decide +kernel
theorem dX2_sumUpAcross_35 : decode YX2_sumUpAcross.2.1 35 = .ok (.aload_n 0, 1) := by decide +kernel
theorem dX2_sumUpAcross_36 : decode YX2_sumUpAcross.2.1 36 = .ok (.getfield 47, 3) := by decide +kernel
theorem dX2_sumUpAcross_39 : decode YX2_sumUpAcross.2.1 39 = .ok (.getfield 157, 3) := by decide +kernel
theorem dX2_sumUpAcross_42 : decode YX2_sumUpAcross.2.1 42 = .ok (.iload_n 2, 1) := by decide +kernel
theorem dX2_sumUpAcross_43 : decode YX2_sumUpAcross.2.1 43 = .ok (.iload_n 3, 1) := by decide +kernel
theorem dX2_sumUpAcross_44 : decode YX2_sumUpAcross.2.1 44 = .ok (.iconst (-1), 1) := by decide +kernel
theorem dX2_sumUpAcross_45 : decode YX2_sumUpAcross.2.1 45 = .ok (.if_icmp .ne 9, 3) := by decide +kernel
theorem dX2_sumUpAcross_48 : decode YX2_sumUpAcross.2.1 48 = .ok (.sipush 9999, 3) := by decide +kernel
theorem dX2_sumUpAcross_51 : decode YX2_sumUpAcross.2.1 51 = .ok (.goto 18, 3) := by decide +kernel
theorem dX2_sumUpAcross_54 : decode YX2_sumUpAcross.2.1 54 = .ok (.aload_n 0, 1) := by decide +kernel
theorem dX2_sumUpAcross_55 : decode YX2_sumUpAcross.2.1 55 = .ok (.aload_n 0, 1) := by decide +kernel
theorem dX2_sumUpAcross_56 : decode YX2_sumUpAcross.2.1 56 = .ok (.getfield 53, 3) := by decide +kernel
theorem dX2_sumUpAcross_59 : decode YX2_sumUpAcross.2.1 59 = .ok (.iload_n 1, 1) := by decide +kernel
theorem dX2_sumUpAcross_60 : decode YX2_sumUpAcross.2.1 60 = .ok (.iconst 0, 1) := by decide +kernel
theorem dX2_sumUpAcross_61 : decode YX2_sumUpAcross.2.1 61 = .ok (.iload_n 3, 1) := by decide +kernel
theorem dX2_sumUpAcross_62 : decode YX2_sumUpAcross.2.1 62 = .ok (.invokestatic 106, 3) := by decide +kernel
theorem dX2_sumUpAcross_65 : decode YX2_sumUpAcross.2.1 65 = .ok (.iload_n 2, 1) := by decide +kernel
theorem dX2_sumUpAcross_66 : decode YX2_sumUpAcross.2.1 66 = .ok (.invokevirtual 188, 3) := by decide +kernel
theorem dX2_sumUpAcross_69 : decode YX2_sumUpAcross.2.1 69 = .ok (.iastore, 1) := by decide +kernel
theorem dX2_sumUpAcross_70 : decode YX2_sumUpAcross.2.1 70 = .ok (.iinc 2 1, 3) := by decide +kernel
theorem dX2_sumUpAcross_73 : decode YX2_sumUpAcross.2.1 73 = .ok (.goto (-71), 3) := by decide +kernel
theorem dX2_sumUpAcross_76 : decode YX2_sumUpAcross.2.1 76 = .ok (.return_, 1) := by decide +kernel
theorem dX2_tellDraft_0 : decode YX2_tellDraft.2.1 0 = .ok (.aload_n 0, 1) := by decide +kernel
theorem dX2_tellDraft_1 : decode YX2_tellDraft.2.1 1 = .ok (.getfield 23, 3) := by decide +kernel
theorem dX2_tellDraft_4 : decode YX2_tellDraft.2.1 4 = .ok (.getfield 110, 3) := by decide +kernel
theorem dX2_tellDraft_7 : decode YX2_tellDraft.2.1 7 = .ok (.iload_n 1, 1) := by decide +kernel
theorem dX2_tellDraft_8 : decode YX2_tellDraft.2.1 8 = .ok (.iaload, 1) := by decide +kernel
theorem dX2_tellDraft_9 : decode YX2_tellDraft.2.1 9 = .ok (.ifCond .eq 17, 3) := by decide +kernel
theorem dX2_tellDraft_12 : decode YX2_tellDraft.2.1 12 = .ok (.aload_n 0, 1) := by decide +kernel
theorem dX2_tellDraft_13 : decode YX2_tellDraft.2.1 13 = .ok (.getfield 23, 3) := by decide +kernel
theorem dX2_tellDraft_16 : decode YX2_tellDraft.2.1 16 = .ok (.getfield 117, 3) := by decide +kernel
theorem dX2_tellDraft_19 : decode YX2_tellDraft.2.1 19 = .ok (.iload_n 1, 1) := by decide +kernel
theorem dX2_tellDraft_20 : decode YX2_tellDraft.2.1 20 = .ok (.iaload, 1) := by decide +kernel
theorem dX2_tellDraft_21 : decode YX2_tellDraft.2.1 21 = .ok (.bipush 20, 2) := by decide +kernel
theorem dX2_tellDraft_23 : decode YX2_tellDraft.2.1 23 = .ok (.if_icmp .lt 7, 3) := by decide +kernel
theorem dX2_tellDraft_26 : decode YX2_tellDraft.2.1 26 = .ok (.iconst 1, 1) := by decide +kernel
theorem dX2_tellDraft_27 : decode YX2_tellDraft.2.1 27 = .ok (.goto 4, 3) := by decide +kernel
theorem dX2_tellDraft_30 : decode YX2_tellDraft.2.1 30 = .ok (.iconst 0, 1) := by decide +kernel
theorem dX2_tellDraft_31 : decode YX2_tellDraft.2.1 31 = .ok (.istore_n 2, 1) := by decide +kernel
theorem dX2_tellDraft_32 : decode YX2_tellDraft.2.1 32 = .ok (.iload_n 2, 1) := by decide +kernel
theorem dX2_tellDraft_33 : decode YX2_tellDraft.2.1 33 = .ok (.ifCond .ne 19, 3) := by decide +kernel
theorem dX2_tellDraft_36 : decode YX2_tellDraft.2.1 36 = .ok (.aload_n 0, 1) := by decide +kernel
theorem dX2_tellDraft_37 : decode YX2_tellDraft.2.1 37 = .ok (.getfield 23, 3) := by decide +kernel
theorem dX2_tellDraft_40 : decode YX2_tellDraft.2.1 40 = .ok (.iload_n 1, 1) := by decide +kernel
theorem dX2_tellDraft_41 : decode YX2_tellDraft.2.1 41 = .ok (.aload_n 0, 1) := by decide +kernel
theorem dX2_tellDraft_42 : decode YX2_tellDraft.2.1 42 = .ok (.getfield 47, 3) := by decide +kernel
theorem dX2_tellDraft_45 : decode YX2_tellDraft.2.1 45 = .ok (.iconst 0, 1) := by decide +kernel
theorem dX2_tellDraft_46 : decode YX2_tellDraft.2.1 46 = .ok (.invokevirtual 192, 3) := by decide +kernel
theorem dX2_tellDraft_49 : decode YX2_tellDraft.2.1 49 = .ok (.ifCond .ne 60, 3) := by decide +kernel
theorem dX2_tellDraft_52 : decode YX2_tellDraft.2.1 52 = .ok (.aload_n 0, 1) := by decide +kernel
theorem dX2_tellDraft_53 : decode YX2_tellDraft.2.1 53 = .ok (.getfield 47, 3) := by decide +kernel
theorem dX2_tellDraft_56 : decode YX2_tellDraft.2.1 56 = .ok (.getfield 110, 3) := by decide +kernel
theorem dX2_tellDraft_59 : decode YX2_tellDraft.2.1 59 = .ok (.iconst 0, 1) := by decide +kernel
theorem dX2_tellDraft_60 : decode YX2_tellDraft.2.1 60 = .ok (.aload_n 0, 1) := by decide +kernel
theorem dX2_tellDraft_61 : decode YX2_tellDraft.2.1 61 = .ok (.getfield 23, 3) := by decide +kernel
theorem dX2_tellDraft_64 : decode YX2_tellDraft.2.1 64 = .ok (.getfield 110, 3) := by decide +kernel
theorem dX2_tellDraft_67 : decode YX2_tellDraft.2.1 67 = .ok (.iload_n 1, 1) := by decide +kernel
theorem dX2_tellDraft_68 : decode YX2_tellDraft.2.1 68 = .ok (.iaload, 1) := by decide +kernel
theorem dX2_tellDraft_69 : decode YX2_tellDraft.2.1 69 = .ok (.iconst 1, 1) := by decide +kernel
theorem dX2_tellDraft_70 : decode YX2_tellDraft.2.1 70 = .ok (.iadd, 1) := by decide +kernel
theorem dX2_tellDraft_71 : decode YX2_tellDraft.2.1 71 = .ok (.iastore, 1) := by decide +kernel
theorem dX2_tellDraft_72 : decode YX2_tellDraft.2.1 72 = .ok (.aload_n 0, 1) := by decide +kernel
theorem dX2_tellDraft_73 : decode YX2_tellDraft.2.1 73 = .ok (.getfield 47, 3) := by decide +kernel
theorem dX2_tellDraft_76 : decode YX2_tellDraft.2.1 76 = .ok (.getfield 117, 3) := by decide +kernel
theorem dX2_tellDraft_79 : decode YX2_tellDraft.2.1 79 = .ok (.iconst 0, 1) := by decide +kernel
theorem dX2_tellDraft_80 : decode YX2_tellDraft.2.1 80 = .ok (.iconst 0, 1) := by decide +kernel
theorem dX2_tellDraft_81 : decode YX2_tellDraft.2.1 81 = .ok (.iastore, 1) := by decide +kernel
theorem dX2_tellDraft_82 : decode YX2_tellDraft.2.1 82 = .ok (.aload_n 0, 1) := by decide +kernel
theorem dX2_tellDraft_83 : decode YX2_tellDraft.2.1 83 = .ok (.getfield 23, 3) := by decide +kernel
theorem dX2_tellDraft_86 : decode YX2_tellDraft.2.1 86 = .ok (.iload_n 1, 1) := by decide +kernel
theorem dX2_tellDraft_87 : decode YX2_tellDraft.2.1 87 = .ok (.aload_n 0, 1) := by decide +kernel
theorem dX2_tellDraft_88 : decode YX2_tellDraft.2.1 88 = .ok (.getfield 47, 3) := by decide +kernel
theorem dX2_tellDraft_91 : decode YX2_tellDraft.2.1 91 = .ok (.iconst 0, 1) := by decide +kernel
theorem dX2_tellDraft_92 : decode YX2_tellDraft.2.1 92 = .ok (.invokevirtual 113, 3) := by decide +kernel
theorem dX2_tellDraft_95 : decode YX2_tellDraft.2.1 95 = .ok (.aload_n 0, 1) := by decide +kernel
theorem dX2_tellDraft_96 : decode YX2_tellDraft.2.1 96 = .ok (.getfield 40, 3) := by decide +kernel
theorem dX2_tellDraft_99 : decode YX2_tellDraft.2.1 99 = .ok (.iload_n 1, 1) := by decide +kernel
theorem dX2_tellDraft_100 : decode YX2_tellDraft.2.1 100 = .ok (.iconst 1, 1) := by decide +kernel
theorem dX2_tellDraft_101 : decode YX2_tellDraft.2.1 101 = .ok (.bastore, 1) := by decide +kernel
theorem dX2_tellDraft_102 : decode YX2_tellDraft.2.1 102 = .ok (.aload_n 0, 1) := by decide +kernel
theorem dX2_tellDraft_103 : decode YX2_tellDraft.2.1 103 = .ok (.getfield 44, 3) := by decide +kernel
theorem dX2_tellDraft_106 : decode YX2_tellDraft.2.1 106 = .ok (.iload_n 1, 1) := by decide +kernel
theorem dX2_tellDraft_107 : decode YX2_tellDraft.2.1 107 = .ok (.iconst 0, 1) := by decide +kernel
theorem dX2_tellDraft_108 : decode YX2_tellDraft.2.1 108 = .ok (.iastore, 1) := by decide +kernel
theorem dX2_tellDraft_109 : decode YX2_tellDraft.2.1 109 = .ok (.return_, 1) := by decide +kernel
theorem dX2_teller_0 : decode YX2_teller.2.1 0 = .ok (.iconst (-1), 1) := by decide +kernel
theorem dX2_teller_1 : decode YX2_teller.2.1 1 = .ok (.istore 5, 2) := by decide +kernel
theorem dX2_teller_3 : decode YX2_teller.2.1 3 = .ok (.sipush 9999, 3) := by decide +kernel
theorem dX2_teller_6 : decode YX2_teller.2.1 6 = .ok (.istore 6, 2) := by decide +kernel
theorem dX2_teller_8 : decode YX2_teller.2.1 8 = .ok (.iconst 0, 1) := by decide +kernel
theorem dX2_teller_9 : decode YX2_teller.2.1 9 = .ok (.istore 7, 2) := by decide +kernel
theorem dX2_teller_11 : decode YX2_teller.2.1 11 = .ok (.iload 7, 2) := by decide +kernel
theorem dX2_teller_13 : decode YX2_teller.2.1 13 = .ok (.bipush 8, 2) := by decide +kernel
theorem dX2_teller_15 : decode YX2_teller.2.1 15 = .ok (.if_icmp .ge 66, 3) := by decide +kernel
theorem dX2_teller_18 : decode YX2_teller.2.1 18 = .ok (.iload_n 2, 1) := by decide +kernel
theorem dX2_teller_19 : decode YX2_teller.2.1 19 = .ok (.iload_n 3, 1) := by decide +kernel
theorem dX2_teller_20 : decode YX2_teller.2.1 20 = .ok (.iload 7, 2) := by decide +kernel
theorem dX2_teller_22 : decode YX2_teller.2.1 22 = .ok (.invokestatic 106, 3) := by decide +kernel
theorem dX2_teller_25 : decode YX2_teller.2.1 25 = .ok (.istore 8, 2) := by decide +kernel
theorem dX2_teller_27 : decode YX2_teller.2.1 27 = .ok (.iload 7, 2) := by decide +kernel
theorem dX2_teller_29 : decode YX2_teller.2.1 29 = .ok (.iload_n 2, 1) := by decide +kernel
theorem dX2_teller_30 : decode YX2_teller.2.1 30 = .ok (.if_icmp .eq 45, 3) := by decide +kernel
theorem dX2_teller_33 : decode YX2_teller.2.1 33 = .ok (.aload_n 0, 1) := by decide +kernel
theorem dX2_teller_34 : decode YX2_teller.2.1 34 = .ok (.getfield 23, 3) := by decide +kernel
theorem dX2_teller_37 : decode YX2_teller.2.1 37 = .ok (.getfield 110, 3) := by decide +kernel
theorem dX2_teller_40 : decode YX2_teller.2.1 40 = .ok (.iload 8, 2) := by decide +kernel
theorem dX2_teller_42 : decode YX2_teller.2.1 42 = .ok (.iaload, 1) := by decide +kernel
theorem dX2_teller_43 : decode YX2_teller.2.1 43 = .ok (.ifCond .eq 32, 3) := by decide +kernel
theorem dX2_teller_46 : decode YX2_teller.2.1 46 = .ok (.aload_n 0, 1) := by decide +kernel
theorem dX2_teller_47 : decode YX2_teller.2.1 47 = .ok (.aload_n 1, 1) := by decide +kernel
theorem dX2_teller_48 : decode YX2_teller.2.1 48 = .ok (.iload 8, 2) := by decide +kernel
theorem dX2_teller_50 : decode YX2_teller.2.1 50 = .ok (.iload 4, 2) := by decide +kernel
theorem dX2_teller_52 : decode YX2_teller.2.1 52 = .ok (.invokevirtual 188, 3) := by decide +kernel
theorem dX2_teller_55 : decode YX2_teller.2.1 55 = .ok (.iload 6, 2) := by decide +kernel
theorem dX2_teller_57 : decode YX2_teller.2.1 57 = .ok (.if_icmp .ge 18, 3) := by decide +kernel
theorem dX2_teller_60 : decode YX2_teller.2.1 60 = .ok (.iload 7, 2) := by decide +kernel
theorem dX2_teller_62 : decode YX2_teller.2.1 62 = .ok (.istore 5, 2) := by decide +kernel
theorem dX2_teller_64 : decode YX2_teller.2.1 64 = .ok (.aload_n 0, 1) := by decide +kernel
theorem dX2_teller_65 : decode YX2_teller.2.1 65 = .ok (.aload_n 1, 1) := by decide +kernel
theorem dX2_teller_66 : decode YX2_teller.2.1 66 = .ok (.iload 8, 2) := by decide +kernel
theorem dX2_teller_68 : decode YX2_teller.2.1 68 = .ok (.iload 4, 2) := by decide +kernel
theorem dX2_teller_70 : decode YX2_teller.2.1 70 = .ok (.invokevirtual 188, 3) := by decide +kernel
theorem dX2_teller_73 : decode YX2_teller.2.1 73 = .ok (.istore 6, 2) := by decide +kernel
theorem dX2_teller_75 : decode YX2_teller.2.1 75 = .ok (.iinc 7 1, 3) := by decide +kernel
theorem dX2_teller_78 : decode YX2_teller.2.1 78 = .ok (.goto (-67), 3) := by decide +kernel
theorem dX2_teller_81 : decode YX2_teller.2.1 81 = .ok (.iload 5, 2) := by decide +kernel
theorem dX2_teller_83 : decode YX2_teller.2.1 83 = .ok (.ireturn, 1) := by decide +kernel
theorem dX2_costBy_0 : decode YX2_costBy.2.1 0 = .ok (.aload_n 1, 1) := by decide +kernel
theorem dX2_costBy_1 : decode YX2_costBy.2.1 1 = .ok (.getfield 173, 3) := by decide +kernel
theorem dX2_costBy_4 : decode YX2_costBy.2.1 4 = .ok (.iload_n 2, 1) := by decide +kernel
theorem dX2_costBy_5 : decode YX2_costBy.2.1 5 = .ok (.bipush 8, 2) := by decide +kernel
theorem dX2_costBy_7 : decode YX2_costBy.2.1 7 = .ok (.irem, 1) := by decide +kernel
theorem dX2_costBy_8 : decode YX2_costBy.2.1 8 = .ok (.iaload, 1) := by decide +kernel
theorem dX2_costBy_9 : decode YX2_costBy.2.1 9 = .ok (.aload_n 0, 1) := by decide +kernel
theorem dX2_costBy_10 : decode YX2_costBy.2.1 10 = .ok (.getfield 23, 3) := by decide +kernel
theorem dX2_costBy_13 : decode YX2_costBy.2.1 13 = .ok (.getfield 157, 3) := by decide +kernel
theorem dX2_costBy_16 : decode YX2_costBy.2.1 16 = .ok (.iload_n 2, 1) := by decide +kernel
theorem dX2_costBy_17 : decode YX2_costBy.2.1 17 = .ok (.bipush 8, 2) := by decide +kernel
theorem dX2_costBy_19 : decode YX2_costBy.2.1 19 = .ok (.imul, 1) := by decide +kernel
theorem dX2_costBy_20 : decode YX2_costBy.2.1 20 = .ok (.iload_n 3, 1) := by decide +kernel
theorem dX2_costBy_21 : decode YX2_costBy.2.1 21 = .ok (.iadd, 1) := by decide +kernel
theorem dX2_costBy_22 : decode YX2_costBy.2.1 22 = .ok (.iaload, 1) := by decide +kernel
theorem dX2_costBy_23 : decode YX2_costBy.2.1 23 = .ok (.iadd, 1) := by decide +kernel
theorem dX2_costBy_24 : decode YX2_costBy.2.1 24 = .ok (.ireturn, 1) := by decide +kernel
theorem dX2_sendOn_0 : decode YX2_sendOn.2.1 0 = .ok (.iconst 0, 1) := by decide +kernel
theorem dX2_sendOn_1 : decode YX2_sendOn.2.1 1 = .ok (.istore_n 1, 1) := by decide +kernel
theorem dX2_sendOn_2 : decode YX2_sendOn.2.1 2 = .ok (.iload_n 1, 1) := by decide +kernel
theorem dX2_sendOn_3 : decode YX2_sendOn.2.1 3 = .ok (.sipush 192, 3) := by decide +kernel
theorem dX2_sendOn_6 : decode YX2_sendOn.2.1 6 = .ok (.if_icmp .ge 30, 3) := by decide +kernel
theorem dX2_sendOn_9 : decode YX2_sendOn.2.1 9 = .ok (.aload_n 0, 1) := by decide +kernel
theorem dX2_sendOn_10 : decode YX2_sendOn.2.1 10 = .ok (.getfield 40, 3) := by decide +kernel
theorem dX2_sendOn_13 : decode YX2_sendOn.2.1 13 = .ok (.iload_n 1, 1) := by decide +kernel
theorem dX2_sendOn_14 : decode YX2_sendOn.2.1 14 = .ok (.baload, 1) := by decide +kernel
theorem dX2_sendOn_15 : decode YX2_sendOn.2.1 15 = .ok (.ifCond .eq 15, 3) := by decide +kernel
theorem dX2_sendOn_18 : decode YX2_sendOn.2.1 18 = .ok (.aload_n 0, 1) := by decide +kernel
theorem dX2_sendOn_19 : decode YX2_sendOn.2.1 19 = .ok (.getfield 40, 3) := by decide +kernel
theorem dX2_sendOn_22 : decode YX2_sendOn.2.1 22 = .ok (.iload_n 1, 1) := by decide +kernel
theorem dX2_sendOn_23 : decode YX2_sendOn.2.1 23 = .ok (.iconst 0, 1) := by decide +kernel
theorem dX2_sendOn_24 : decode YX2_sendOn.2.1 24 = .ok (.bastore, 1) := by decide +kernel
theorem dX2_sendOn_25 : decode YX2_sendOn.2.1 25 = .ok (.aload_n 0, 1) := by decide +kernel
theorem dX2_sendOn_26 : decode YX2_sendOn.2.1 26 = .ok (.iload_n 1, 1) := by decide +kernel
theorem dX2_sendOn_27 : decode YX2_sendOn.2.1 27 = .ok (.invokevirtual 196, 3) := by decide +kernel
theorem dX2_sendOn_30 : decode YX2_sendOn.2.1 30 = .ok (.iinc 1 1, 3) := by decide +kernel
theorem dX2_sendOn_33 : decode YX2_sendOn.2.1 33 = .ok (.goto (-31), 3) := by decide +kernel
theorem dX2_sendOn_36 : decode YX2_sendOn.2.1 36 = .ok (.aload_n 0, 1) := by decide +kernel
theorem dX2_sendOn_37 : decode YX2_sendOn.2.1 37 = .ok (.dup, 1) := by decide +kernel
theorem dX2_sendOn_38 : decode YX2_sendOn.2.1 38 = .ok (.getfield 78, 3) := by decide +kernel
theorem dX2_sendOn_41 : decode YX2_sendOn.2.1 41 = .ok (.aload_n 0, 1) := by decide +kernel
theorem dX2_sendOn_42 : decode YX2_sendOn.2.1 42 = .ok (.getfield 65, 3) := by decide +kernel
theorem dX2_sendOn_45 : decode YX2_sendOn.2.1 45 = .ok (.iadd, 1) := by decide +kernel
theorem dX2_sendOn_46 : decode YX2_sendOn.2.1 46 = .ok (.putfield 78, 3) := by decide +kernel
theorem dX2_sendOn_49 : decode YX2_sendOn.2.1 49 = .ok (.return_, 1) := by decide +kernel
theorem dX2_sendRow_0 : decode YX2_sendRow.2.1 0 = .ok (.iload_n 1, 1) := by decide +kernel
theorem dX2_sendRow_1 : decode YX2_sendRow.2.1 1 = .ok (.bipush 24, 2) := by decide +kernel
theorem dX2_sendRow_3 : decode YX2_sendRow.2.1 3 = .ok (.idiv, 1) := by decide +kernel
theorem dX2_sendRow_4 : decode YX2_sendRow.2.1 4 = .ok (.istore_n 2, 1) := by decide +kernel
theorem dX2_sendRow_5 : decode YX2_sendRow.2.1 5 = .ok (.iload_n 1, 1) := by decide +kernel
theorem dX2_sendRow_6 : decode YX2_sendRow.2.1 6 = .ok (.bipush 8, 2) := by decide +kernel
theorem dX2_sendRow_8 : decode YX2_sendRow.2.1 8 = .ok (.idiv, 1) := by decide +kernel
theorem dX2_sendRow_9 : decode YX2_sendRow.2.1 9 = .ok (.iconst 3, 1) := by decide +kernel
theorem dX2_sendRow_10 : decode YX2_sendRow.2.1 10 = .ok (.irem, 1) := by decide +kernel
theorem dX2_sendRow_11 : decode YX2_sendRow.2.1 11 = .ok (.istore_n 3, 1) := by decide +kernel
theorem dX2_sendRow_12 : decode YX2_sendRow.2.1 12 = .ok (.iconst 0, 1) := by decide +kernel
theorem dX2_sendRow_13 : decode YX2_sendRow.2.1 13 = .ok (.istore 4, 2) := by decide +kernel
theorem dX2_sendRow_15 : decode YX2_sendRow.2.1 15 = .ok (.iload 4, 2) := by decide +kernel
theorem dX2_sendRow_17 : decode YX2_sendRow.2.1 17 = .ok (.aload_n 0, 1) := by decide +kernel
theorem dX2_sendRow_18 : decode YX2_sendRow.2.1 18 = .ok (.getfield 12, 3) := by decide +kernel
theorem dX2_sendRow_21 : decode YX2_sendRow.2.1 21 = .ok (.getfield 143, 3) := by decide +kernel
theorem dX2_sendRow_24 : decode YX2_sendRow.2.1 24 = .ok (.if_icmp .ge 141, 3) := by decide +kernel
theorem dX2_sendRow_27 : decode YX2_sendRow.2.1 27 = .ok (.aload_n 0, 1) := by decide +kernel
theorem dX2_sendRow_28 : decode YX2_sendRow.2.1 28 = .ok (.getfield 12, 3) := by decide +kernel
theorem dX2_sendRow_31 : decode YX2_sendRow.2.1 31 = .ok (.getfield 103, 3) := by decide +kernel
theorem dX2_sendRow_34 : decode YX2_sendRow.2.1 34 = .ok (.iload 4, 2) := by decide +kernel
theorem dX2_sendRow_36 : decode YX2_sendRow.2.1 36 = .ok (.iaload, 1) := by decide +kernel
theorem dX2_sendRow_37 : decode YX2_sendRow.2.1 37 = .ok (.iload_n 3, 1) := by decide +kernel
theorem dX2_sendRow_38 : decode YX2_sendRow.2.1 38 = .ok (.if_icmp .ne 20, 3) := by decide +kernel
theorem dX2_sendRow_41 : decode YX2_sendRow.2.1 41 = .ok (.aload_n 0, 1) := by decide +kernel
theorem dX2_sendRow_42 : decode YX2_sendRow.2.1 42 = .ok (.getfield 12, 3) := by decide +kernel
theorem dX2_sendRow_45 : decode YX2_sendRow.2.1 45 = .ok (.iload 4, 2) := by decide +kernel
theorem dX2_sendRow_47 : decode YX2_sendRow.2.1 47 = .ok (.iload_n 2, 1) := by decide +kernel
theorem dX2_sendRow_48 : decode YX2_sendRow.2.1 48 = .ok (.invokevirtual 146, 3) := by decide +kernel
theorem dX2_sendRow_51 : decode YX2_sendRow.2.1 51 = .ok (.ifCond .eq 7, 3) := by decide +kernel
theorem dX2_sendRow_54 : decode YX2_sendRow.2.1 54 = .ok (.iconst 1, 1) := by decide +kernel
theorem dX2_sendRow_55 : decode YX2_sendRow.2.1 55 = .ok (.goto 4, 3) := by decide +kernel
theorem dX2_sendRow_58 : decode YX2_sendRow.2.1 58 = .ok (.iconst 0, 1) := by decide +kernel
theorem dX2_sendRow_59 : decode YX2_sendRow.2.1 59 = .ok (.istore 5, 2) := by decide +kernel
theorem dX2_sendRow_61 : decode YX2_sendRow.2.1 61 = .ok (.iload 5, 2) := by decide +kernel
theorem dX2_sendRow_63 : decode YX2_sendRow.2.1 63 = .ok (.ifCond .eq 96, 3) := by decide +kernel
theorem dX2_sendRow_66 : decode YX2_sendRow.2.1 66 = .ok (.aload_n 0, 1) := by decide +kernel
theorem dX2_sendRow_67 : decode YX2_sendRow.2.1 67 = .ok (.getfield 44, 3) := by decide +kernel
theorem dX2_sendRow_70 : decode YX2_sendRow.2.1 70 = .ok (.iload_n 1, 1) := by decide +kernel
theorem dX2_sendRow_71 : decode YX2_sendRow.2.1 71 = .ok (.iaload, 1) := by decide +kernel
theorem dX2_sendRow_72 : decode YX2_sendRow.2.1 72 = .ok (.iload 4, 2) := by decide +kernel
theorem dX2_sendRow_74 : decode YX2_sendRow.2.1 74 = .ok (.ishr, 1) := by decide +kernel
theorem dX2_sendRow_75 : decode YX2_sendRow.2.1 75 = .ok (.iconst 1, 1) := by decide +kernel
theorem dX2_sendRow_76 : decode YX2_sendRow.2.1 76 = .ok (.iand, 1) := by decide +kernel
theorem dX2_sendRow_77 : decode YX2_sendRow.2.1 77 = .ok (.ifCond .ne 82, 3) := by decide +kernel
theorem dX2_sendRow_80 : decode YX2_sendRow.2.1 80 = .ok (.aload_n 0, 1) := by decide +kernel
theorem dX2_sendRow_81 : decode YX2_sendRow.2.1 81 = .ok (.getfield 65, 3) := by decide +kernel
theorem dX2_sendRow_84 : decode YX2_sendRow.2.1 84 = .ok (.sipush 192, 3) := by decide +kernel
theorem dX2_sendRow_87 : decode YX2_sendRow.2.1 87 = .ok (.if_icmp .ge 72, 3) := by decide +kernel
theorem dX2_sendRow_90 : decode YX2_sendRow.2.1 90 = .ok (.aload_n 0, 1) := by decide +kernel
theorem dX2_sendRow_91 : decode YX2_sendRow.2.1 91 = .ok (.getfield 27, 3) := by decide +kernel
theorem dX2_sendRow_94 : decode YX2_sendRow.2.1 94 = .ok (.aload_n 0, 1) := by decide +kernel
theorem dX2_sendRow_95 : decode YX2_sendRow.2.1 95 = .ok (.getfield 65, 3) := by decide +kernel
theorem dX2_sendRow_98 : decode YX2_sendRow.2.1 98 = .ok (.aload_n 0, 1) := by decide +kernel
theorem dX2_sendRow_99 : decode YX2_sendRow.2.1 99 = .ok (.getfield 23, 3) := by decide +kernel
theorem dX2_sendRow_102 : decode YX2_sendRow.2.1 102 = .ok (.iload_n 1, 1) := by decide +kernel
theorem dX2_sendRow_103 : decode YX2_sendRow.2.1 103 = .ok (.invokevirtual 113, 3) := by decide +kernel
theorem dX2_sendRow_106 : decode YX2_sendRow.2.1 106 = .ok (.aload_n 0, 1) := by decide +kernel
theorem dX2_sendRow_107 : decode YX2_sendRow.2.1 107 = .ok (.getfield 30, 3) := by decide +kernel
theorem dX2_sendRow_110 : decode YX2_sendRow.2.1 110 = .ok (.aload_n 0, 1) := by decide +kernel
theorem dX2_sendRow_111 : decode YX2_sendRow.2.1 111 = .ok (.getfield 65, 3) := by decide +kernel
theorem dX2_sendRow_114 : decode YX2_sendRow.2.1 114 = .ok (.iload 4, 2) := by decide +kernel
theorem dX2_sendRow_116 : decode YX2_sendRow.2.1 116 = .ok (.iastore, 1) := by decide +kernel
theorem dX2_sendRow_117 : decode YX2_sendRow.2.1 117 = .ok (.aload_n 0, 1) := by decide +kernel
theorem dX2_sendRow_118 : decode YX2_sendRow.2.1 118 = .ok (.getfield 34, 3) := by decide +kernel
theorem dX2_sendRow_121 : decode YX2_sendRow.2.1 121 = .ok (.aload_n 0, 1) := by decide +kernel
theorem dX2_sendRow_122 : decode YX2_sendRow.2.1 122 = .ok (.getfield 65, 3) := by decide +kernel
theorem dX2_sendRow_125 : decode YX2_sendRow.2.1 125 = .ok (.aload_n 0, 1) := by decide +kernel
theorem dX2_sendRow_126 : decode YX2_sendRow.2.1 126 = .ok (.getfield 12, 3) := by decide +kernel
theorem dX2_sendRow_129 : decode YX2_sendRow.2.1 129 = .ok (.iload 4, 2) := by decide +kernel
theorem dX2_sendRow_131 : decode YX2_sendRow.2.1 131 = .ok (.iload_n 2, 1) := by decide +kernel
theorem dX2_sendRow_132 : decode YX2_sendRow.2.1 132 = .ok (.invokevirtual 199, 3) := by decide +kernel
theorem dX2_sendRow_135 : decode YX2_sendRow.2.1 135 = .ok (.iastore, 1) := by decide +kernel
theorem dX2_sendRow_136 : decode YX2_sendRow.2.1 136 = .ok (.aload_n 0, 1) := by decide +kernel
theorem dX2_sendRow_137 : decode YX2_sendRow.2.1 137 = .ok (.getfield 37, 3) := by decide +kernel
theorem dX2_sendRow_140 : decode YX2_sendRow.2.1 140 = .ok (.aload_n 0, 1) := by decide +kernel
theorem dX2_sendRow_141 : decode YX2_sendRow.2.1 141 = .ok (.getfield 65, 3) := by decide +kernel
theorem dX2_sendRow_144 : decode YX2_sendRow.2.1 144 = .ok (.iload_n 1, 1) := by decide +kernel
theorem dX2_sendRow_145 : decode YX2_sendRow.2.1 145 = .ok (.bipush 8, 2) := by decide +kernel
theorem dX2_sendRow_147 : decode YX2_sendRow.2.1 147 = .ok (.irem, 1) := by decide +kernel
theorem dX2_sendRow_148 : decode YX2_sendRow.2.1 148 = .ok (.iastore, 1) := by decide +kernel
theorem dX2_sendRow_149 : decode YX2_sendRow.2.1 149 = .ok (.aload_n 0, 1) := by decide +kernel
theorem dX2_sendRow_150 : decode YX2_sendRow.2.1 150 = .ok (.dup, 1) := by decide +kernel
theorem dX2_sendRow_151 : decode YX2_sendRow.2.1 151 = .ok (.getfield 65, 3) := by decide +kernel
theorem dX2_sendRow_154 : decode YX2_sendRow.2.1 154 = .ok (.iconst 1, 1) := by decide +kernel
theorem dX2_sendRow_155 : decode YX2_sendRow.2.1 155 = .ok (.iadd, 1) := by decide +kernel
theorem dX2_sendRow_156 : decode YX2_sendRow.2.1 156 = .ok (.putfield 65, 3) := by decide +kernel
theorem dX2_sendRow_159 : decode YX2_sendRow.2.1 159 = .ok (.iinc 4 1, 3) := by decide +kernel
theorem dX2_sendRow_162 : decode YX2_sendRow.2.1 162 = .ok (.goto (-147), 3) := by decide +kernel
theorem dX2_sendRow_165 : decode YX2_sendRow.2.1 165 = .ok (.return_, 1) := by decide +kernel
theorem dX2_knownTo_0 : decode YX2_knownTo.2.1 0 = .ok (.iconst 0, 1) := by decide +kernel
theorem dX2_knownTo_1 : decode YX2_knownTo.2.1 1 = .ok (.istore_n 2, 1) := by decide +kernel
theorem dX2_knownTo_2 : decode YX2_knownTo.2.1 2 = .ok (.iload_n 1, 1) := by decide +kernel
theorem dX2_knownTo_3 : decode YX2_knownTo.2.1 3 = .ok (.iconst 0, 1) := by decide +kernel
theorem dX2_knownTo_4 : decode YX2_knownTo.2.1 4 = .ok (.iconst 0, 1) := by decide +kernel
theorem dX2_knownTo_5 : decode YX2_knownTo.2.1 5 = .ok (.invokestatic 106, 3) := by decide +kernel
theorem dX2_knownTo_8 : decode YX2_knownTo.2.1 8 = .ok (.istore_n 3, 1) := by decide +kernel
theorem dX2_knownTo_9 : decode YX2_knownTo.2.1 9 = .ok (.iload_n 3, 1) := by decide +kernel
theorem dX2_knownTo_10 : decode YX2_knownTo.2.1 10 = .ok (.iload_n 1, 1) := by decide +kernel
theorem dX2_knownTo_11 : decode YX2_knownTo.2.1 11 = .ok (.iconst 1, 1) := by decide +kernel
theorem dX2_knownTo_12 : decode YX2_knownTo.2.1 12 = .ok (.iadd, 1) := by decide +kernel
theorem dX2_knownTo_13 : decode YX2_knownTo.2.1 13 = .ok (.iconst 0, 1) := by decide +kernel
theorem dX2_knownTo_14 : decode YX2_knownTo.2.1 14 = .ok (.iconst 0, 1) := by decide +kernel
theorem dX2_knownTo_15 : decode YX2_knownTo.2.1 15 = .ok (.invokestatic 106, 3) := by decide +kernel
theorem dX2_knownTo_18 : decode YX2_knownTo.2.1 18 = .ok (.if_icmp .ge 29, 3) := by decide +kernel
theorem dX2_knownTo_21 : decode YX2_knownTo.2.1 21 = .ok (.iload_n 2, 1) := by decide +kernel
theorem dX2_knownTo_22 : decode YX2_knownTo.2.1 22 = .ok (.aload_n 0, 1) := by decide +kernel
theorem dX2_knownTo_23 : decode YX2_knownTo.2.1 23 = .ok (.getfield 23, 3) := by decide +kernel
theorem dX2_knownTo_26 : decode YX2_knownTo.2.1 26 = .ok (.getfield 110, 3) := by decide +kernel
theorem dX2_knownTo_29 : decode YX2_knownTo.2.1 29 = .ok (.iload_n 3, 1) := by decide +kernel
theorem dX2_knownTo_30 : decode YX2_knownTo.2.1 30 = .ok (.iaload, 1) := by decide +kernel
theorem dX2_knownTo_31 : decode YX2_knownTo.2.1 31 = .ok (.ifCond .eq 7, 3) := by decide +kernel
theorem dX2_knownTo_34 : decode YX2_knownTo.2.1 34 = .ok (.iconst 1, 1) := by decide +kernel
theorem dX2_knownTo_35 : decode YX2_knownTo.2.1 35 = .ok (.goto 4, 3) := by decide +kernel
theorem dX2_knownTo_38 : decode YX2_knownTo.2.1 38 = .ok (.iconst 0, 1) := by decide +kernel
theorem dX2_knownTo_39 : decode YX2_knownTo.2.1 39 = .ok (.iadd, 1) := by decide +kernel
theorem dX2_knownTo_40 : decode YX2_knownTo.2.1 40 = .ok (.istore_n 2, 1) := by decide +kernel
theorem dX2_knownTo_41 : decode YX2_knownTo.2.1 41 = .ok (.iinc 3 1, 3) := by decide +kernel
theorem dX2_knownTo_44 : decode YX2_knownTo.2.1 44 = .ok (.goto (-35), 3) := by decide +kernel
theorem dX2_knownTo_47 : decode YX2_knownTo.2.1 47 = .ok (.iload_n 2, 1) := by decide +kernel
theorem dX2_knownTo_48 : decode YX2_knownTo.2.1 48 = .ok (.ireturn, 1) := by decide +kernel
theorem dX2_knownToAll_0 : decode YX2_knownToAll.2.1 0 = .ok (.iconst 0, 1) := by decide +kernel
theorem dX2_knownToAll_1 : decode YX2_knownToAll.2.1 1 = .ok (.istore_n 1, 1) := by decide +kernel
theorem dX2_knownToAll_2 : decode YX2_knownToAll.2.1 2 = .ok (.iconst 0, 1) := by decide +kernel
theorem dX2_knownToAll_3 : decode YX2_knownToAll.2.1 3 = .ok (.istore_n 2, 1) := by decide +kernel
theorem dX2_knownToAll_4 : decode YX2_knownToAll.2.1 4 = .ok (.iload_n 2, 1) := by decide +kernel
theorem dX2_knownToAll_5 : decode YX2_knownToAll.2.1 5 = .ok (.bipush 8, 2) := by decide +kernel
theorem dX2_knownToAll_7 : decode YX2_knownToAll.2.1 7 = .ok (.if_icmp .ge 17, 3) := by decide +kernel
theorem dX2_knownToAll_10 : decode YX2_knownToAll.2.1 10 = .ok (.iload_n 1, 1) := by decide +kernel
theorem dX2_knownToAll_11 : decode YX2_knownToAll.2.1 11 = .ok (.aload_n 0, 1) := by decide +kernel
theorem dX2_knownToAll_12 : decode YX2_knownToAll.2.1 12 = .ok (.iload_n 2, 1) := by decide +kernel
theorem dX2_knownToAll_13 : decode YX2_knownToAll.2.1 13 = .ok (.invokevirtual 202, 3) := by decide +kernel
theorem dX2_knownToAll_16 : decode YX2_knownToAll.2.1 16 = .ok (.iadd, 1) := by decide +kernel
theorem dX2_knownToAll_17 : decode YX2_knownToAll.2.1 17 = .ok (.istore_n 1, 1) := by decide +kernel
theorem dX2_knownToAll_18 : decode YX2_knownToAll.2.1 18 = .ok (.iinc 2 1, 3) := by decide +kernel
theorem dX2_knownToAll_21 : decode YX2_knownToAll.2.1 21 = .ok (.goto (-17), 3) := by decide +kernel
theorem dX2_knownToAll_24 : decode YX2_knownToAll.2.1 24 = .ok (.iload_n 1, 1) := by decide +kernel
theorem dX2_knownToAll_25 : decode YX2_knownToAll.2.1 25 = .ok (.ireturn, 1) := by decide +kernel
theorem dX2_staleTo_0 : decode YX2_staleTo.2.1 0 = .ok (.iconst 0, 1) := by decide +kernel
theorem dX2_staleTo_1 : decode YX2_staleTo.2.1 1 = .ok (.istore_n 2, 1) := by decide +kernel
theorem dX2_staleTo_2 : decode YX2_staleTo.2.1 2 = .ok (.iload_n 1, 1) := by decide +kernel
theorem dX2_staleTo_3 : decode YX2_staleTo.2.1 3 = .ok (.iconst 0, 1) := by decide +kernel
theorem dX2_staleTo_4 : decode YX2_staleTo.2.1 4 = .ok (.iconst 0, 1) := by decide +kernel
theorem dX2_staleTo_5 : decode YX2_staleTo.2.1 5 = .ok (.invokestatic 106, 3) := by decide +kernel
theorem dX2_staleTo_8 : decode YX2_staleTo.2.1 8 = .ok (.istore_n 3, 1) := by decide +kernel
theorem dX2_staleTo_9 : decode YX2_staleTo.2.1 9 = .ok (.iload_n 3, 1) := by decide +kernel
theorem dX2_staleTo_10 : decode YX2_staleTo.2.1 10 = .ok (.iload_n 1, 1) := by decide +kernel
theorem dX2_staleTo_11 : decode YX2_staleTo.2.1 11 = .ok (.iconst 1, 1) := by decide +kernel
theorem dX2_staleTo_12 : decode YX2_staleTo.2.1 12 = .ok (.iadd, 1) := by decide +kernel
theorem dX2_staleTo_13 : decode YX2_staleTo.2.1 13 = .ok (.iconst 0, 1) := by decide +kernel
theorem dX2_staleTo_14 : decode YX2_staleTo.2.1 14 = .ok (.iconst 0, 1) := by decide +kernel
theorem dX2_staleTo_15 : decode YX2_staleTo.2.1 15 = .ok (.invokestatic 106, 3) := by decide +kernel
theorem dX2_staleTo_18 : decode YX2_staleTo.2.1 18 = .ok (.if_icmp .ge 37, 3) := by decide +kernel
theorem dX2_staleTo_21 : decode YX2_staleTo.2.1 21 = .ok (.iload_n 2, 1) := by decide +kernel
theorem dX2_staleTo_22 : decode YX2_staleTo.2.1 22 = .ok (.aload_n 0, 1) := by decide +kernel
theorem dX2_staleTo_23 : decode YX2_staleTo.2.1 23 = .ok (.getfield 23, 3) := by decide +kernel
theorem dX2_staleTo_26 : decode YX2_staleTo.2.1 26 = .ok (.getfield 110, 3) := by decide +kernel
theorem dX2_staleTo_29 : decode YX2_staleTo.2.1 29 = .ok (.iload_n 3, 1) := by decide +kernel
theorem dX2_staleTo_30 : decode YX2_staleTo.2.1 30 = .ok (.iaload, 1) := by decide +kernel
theorem dX2_staleTo_31 : decode YX2_staleTo.2.1 31 = .ok (.ifCond .eq 15, 3) := by decide +kernel
theorem dX2_staleTo_34 : decode YX2_staleTo.2.1 34 = .ok (.aload_n 0, 1) := by decide +kernel
theorem dX2_staleTo_35 : decode YX2_staleTo.2.1 35 = .ok (.iload_n 3, 1) := by decide +kernel
theorem dX2_staleTo_36 : decode YX2_staleTo.2.1 36 = .ok (.invokevirtual 205, 3) := by decide +kernel
theorem dX2_staleTo_39 : decode YX2_staleTo.2.1 39 = .ok (.ifCond .eq 7, 3) := by decide +kernel
theorem dX2_staleTo_42 : decode YX2_staleTo.2.1 42 = .ok (.iconst 1, 1) := by decide +kernel
theorem dX2_staleTo_43 : decode YX2_staleTo.2.1 43 = .ok (.goto 4, 3) := by decide +kernel
theorem dX2_staleTo_46 : decode YX2_staleTo.2.1 46 = .ok (.iconst 0, 1) := by decide +kernel
theorem dX2_staleTo_47 : decode YX2_staleTo.2.1 47 = .ok (.iadd, 1) := by decide +kernel
theorem dX2_staleTo_48 : decode YX2_staleTo.2.1 48 = .ok (.istore_n 2, 1) := by decide +kernel
theorem dX2_staleTo_49 : decode YX2_staleTo.2.1 49 = .ok (.iinc 3 1, 3) := by decide +kernel
theorem dX2_staleTo_52 : decode YX2_staleTo.2.1 52 = .ok (.goto (-43), 3) := by decide +kernel
theorem dX2_staleTo_55 : decode YX2_staleTo.2.1 55 = .ok (.iload_n 2, 1) := by decide +kernel
theorem dX2_staleTo_56 : decode YX2_staleTo.2.1 56 = .ok (.ireturn, 1) := by decide +kernel
theorem dX2_staleToAll_0 : decode YX2_staleToAll.2.1 0 = .ok (.iconst 0, 1) := by decide +kernel
theorem dX2_staleToAll_1 : decode YX2_staleToAll.2.1 1 = .ok (.istore_n 1, 1) := by decide +kernel
theorem dX2_staleToAll_2 : decode YX2_staleToAll.2.1 2 = .ok (.iconst 0, 1) := by decide +kernel
theorem dX2_staleToAll_3 : decode YX2_staleToAll.2.1 3 = .ok (.istore_n 2, 1) := by decide +kernel
theorem dX2_staleToAll_4 : decode YX2_staleToAll.2.1 4 = .ok (.iload_n 2, 1) := by decide +kernel
theorem dX2_staleToAll_5 : decode YX2_staleToAll.2.1 5 = .ok (.bipush 8, 2) := by decide +kernel
theorem dX2_staleToAll_7 : decode YX2_staleToAll.2.1 7 = .ok (.if_icmp .ge 17, 3) := by decide +kernel
theorem dX2_staleToAll_10 : decode YX2_staleToAll.2.1 10 = .ok (.iload_n 1, 1) := by decide +kernel
theorem dX2_staleToAll_11 : decode YX2_staleToAll.2.1 11 = .ok (.aload_n 0, 1) := by decide +kernel
theorem dX2_staleToAll_12 : decode YX2_staleToAll.2.1 12 = .ok (.iload_n 2, 1) := by decide +kernel
theorem dX2_staleToAll_13 : decode YX2_staleToAll.2.1 13 = .ok (.invokevirtual 208, 3) := by decide +kernel
theorem dX2_staleToAll_16 : decode YX2_staleToAll.2.1 16 = .ok (.iadd, 1) := by decide +kernel
theorem dX2_staleToAll_17 : decode YX2_staleToAll.2.1 17 = .ok (.istore_n 1, 1) := by decide +kernel
theorem dX2_staleToAll_18 : decode YX2_staleToAll.2.1 18 = .ok (.iinc 2 1, 3) := by decide +kernel
theorem dX2_staleToAll_21 : decode YX2_staleToAll.2.1 21 = .ok (.goto (-17), 3) := by decide +kernel
theorem dX2_staleToAll_24 : decode YX2_staleToAll.2.1 24 = .ok (.iload_n 1, 1) := by decide +kernel
theorem dX2_staleToAll_25 : decode YX2_staleToAll.2.1 25 = .ok (.ireturn, 1) := by decide +kernel
theorem dX2_isStale_0 : decode YX2_isStale.2.1 0 = .ok (.iload_n 1, 1) := by decide +kernel
theorem dX2_isStale_1 : decode YX2_isStale.2.1 1 = .ok (.bipush 8, 2) := by decide +kernel
theorem dX2_isStale_3 : decode YX2_isStale.2.1 3 = .ok (.irem, 1) := by decide +kernel
theorem dX2_isStale_4 : decode YX2_isStale.2.1 4 = .ok (.istore_n 2, 1) := by decide +kernel
theorem dX2_isStale_5 : decode YX2_isStale.2.1 5 = .ok (.iconst 0, 1) := by decide +kernel
theorem dX2_isStale_6 : decode YX2_isStale.2.1 6 = .ok (.istore_n 3, 1) := by decide +kernel
theorem dX2_isStale_7 : decode YX2_isStale.2.1 7 = .ok (.iload_n 3, 1) := by decide +kernel
theorem dX2_isStale_8 : decode YX2_isStale.2.1 8 = .ok (.aload_n 0, 1) := by decide +kernel
theorem dX2_isStale_9 : decode YX2_isStale.2.1 9 = .ok (.getfield 12, 3) := by decide +kernel
theorem dX2_isStale_12 : decode YX2_isStale.2.1 12 = .ok (.getfield 143, 3) := by decide +kernel
theorem dX2_isStale_15 : decode YX2_isStale.2.1 15 = .ok (.if_icmp .ge 65, 3) := by decide +kernel
theorem dX2_isStale_18 : decode YX2_isStale.2.1 18 = .ok (.aload_n 0, 1) := by decide +kernel
theorem dX2_isStale_19 : decode YX2_isStale.2.1 19 = .ok (.getfield 23, 3) := by decide +kernel
theorem dX2_isStale_22 : decode YX2_isStale.2.1 22 = .ok (.iload_n 1, 1) := by decide +kernel
theorem dX2_isStale_23 : decode YX2_isStale.2.1 23 = .ok (.iload_n 3, 1) := by decide +kernel
theorem dX2_isStale_24 : decode YX2_isStale.2.1 24 = .ok (.invokevirtual 211, 3) := by decide +kernel
theorem dX2_isStale_27 : decode YX2_isStale.2.1 27 = .ok (.ifCond .eq 47, 3) := by decide +kernel
theorem dX2_isStale_30 : decode YX2_isStale.2.1 30 = .ok (.aload_n 0, 1) := by decide +kernel
theorem dX2_isStale_31 : decode YX2_isStale.2.1 31 = .ok (.getfield 23, 3) := by decide +kernel
theorem dX2_isStale_34 : decode YX2_isStale.2.1 34 = .ok (.getfield 150, 3) := by decide +kernel
theorem dX2_isStale_37 : decode YX2_isStale.2.1 37 = .ok (.iload_n 1, 1) := by decide +kernel
theorem dX2_isStale_38 : decode YX2_isStale.2.1 38 = .ok (.bipush 12, 2) := by decide +kernel
theorem dX2_isStale_40 : decode YX2_isStale.2.1 40 = .ok (.imul, 1) := by decide +kernel
theorem dX2_isStale_41 : decode YX2_isStale.2.1 41 = .ok (.iload_n 3, 1) := by decide +kernel
theorem dX2_isStale_42 : decode YX2_isStale.2.1 42 = .ok (.iadd, 1) := by decide +kernel
theorem dX2_isStale_43 : decode YX2_isStale.2.1 43 = .ok (.iaload, 1) := by decide +kernel
theorem dX2_isStale_44 : decode YX2_isStale.2.1 44 = .ok (.istore 4, 2) := by decide +kernel
theorem dX2_isStale_46 : decode YX2_isStale.2.1 46 = .ok (.aload_n 0, 1) := by decide +kernel
theorem dX2_isStale_47 : decode YX2_isStale.2.1 47 = .ok (.getfield 12, 3) := by decide +kernel
theorem dX2_isStale_50 : decode YX2_isStale.2.1 50 = .ok (.getfield 97, 3) := by decide +kernel
theorem dX2_isStale_53 : decode YX2_isStale.2.1 53 = .ok (.iload_n 3, 1) := by decide +kernel
theorem dX2_isStale_54 : decode YX2_isStale.2.1 54 = .ok (.baload, 1) := by decide +kernel
theorem dX2_isStale_55 : decode YX2_isStale.2.1 55 = .ok (.ifCond .eq 17, 3) := by decide +kernel
theorem dX2_isStale_58 : decode YX2_isStale.2.1 58 = .ok (.aload_n 0, 1) := by decide +kernel
theorem dX2_isStale_59 : decode YX2_isStale.2.1 59 = .ok (.getfield 12, 3) := by decide +kernel
theorem dX2_isStale_62 : decode YX2_isStale.2.1 62 = .ok (.iload_n 3, 1) := by decide +kernel
theorem dX2_isStale_63 : decode YX2_isStale.2.1 63 = .ok (.iload_n 2, 1) := by decide +kernel
theorem dX2_isStale_64 : decode YX2_isStale.2.1 64 = .ok (.invokevirtual 153, 3) := by decide +kernel
theorem dX2_isStale_67 : decode YX2_isStale.2.1 67 = .ok (.iload 4, 2) := by decide +kernel
theorem dX2_isStale_69 : decode YX2_isStale.2.1 69 = .ok (.if_icmp .eq 5, 3) := by decide +kernel
theorem dX2_isStale_72 : decode YX2_isStale.2.1 72 = .ok (.iconst 1, 1) := by decide +kernel
theorem dX2_isStale_73 : decode YX2_isStale.2.1 73 = .ok (.ireturn, 1) := by decide +kernel
theorem dX2_isStale_74 : decode YX2_isStale.2.1 74 = .ok (.iinc 3 1, 3) := by decide +kernel
theorem dX2_isStale_77 : decode YX2_isStale.2.1 77 = .ok (.goto (-70), 3) := by decide +kernel
theorem dX2_isStale_80 : decode YX2_isStale.2.1 80 = .ok (.iconst 0, 1) := by decide +kernel
theorem dX2_isStale_81 : decode YX2_isStale.2.1 81 = .ok (.ireturn, 1) := by decide +kernel
theorem dX3_init_0 : decode YX3_init.2.1 0 = .ok (.aload_n 0, 1) := by decide +kernel
theorem dX3_init_1 : decode YX3_init.2.1 1 = .ok (.invokespecial 3, 3) := by decide +kernel
theorem dX3_init_4 : decode YX3_init.2.1 4 = .ok (.aload_n 0, 1) := by decide +kernel
theorem dX3_init_5 : decode YX3_init.2.1 5 = .ok (.bipush 8, 2) := by decide +kernel
theorem dX3_init_7 : decode YX3_init.2.1 7 = .ok (.newarray .int, 2) := by decide +kernel
theorem dX3_init_9 : decode YX3_init.2.1 9 = .ok (.putfield 9, 3) := by decide +kernel
theorem dX3_init_12 : decode YX3_init.2.1 12 = .ok (.aload_n 0, 1) := by decide +kernel
theorem dX3_init_13 : decode YX3_init.2.1 13 = .ok (.bipush 8, 2) := by decide +kernel
theorem dX3_init_15 : decode YX3_init.2.1 15 = .ok (.newarray .int, 2) := by decide +kernel
theorem dX3_init_17 : decode YX3_init.2.1 17 = .ok (.putfield 15, 3) := by decide +kernel
theorem dX3_init_20 : decode YX3_init.2.1 20 = .ok (.aload_n 0, 1) := by decide +kernel
theorem dX3_init_21 : decode YX3_init.2.1 21 = .ok (.bipush 8, 2) := by decide +kernel
theorem dX3_init_23 : decode YX3_init.2.1 23 = .ok (.newarray .boolean, 2) := by decide +kernel
theorem dX3_init_25 : decode YX3_init.2.1 25 = .ok (.putfield 18, 3) := by decide +kernel
theorem dX3_init_28 : decode YX3_init.2.1 28 = .ok (.return_, 1) := by decide +kernel
theorem dX3_measure_0 : decode YX3_measure.2.1 0 = .ok (.iconst 0, 1) := by decide +kernel
theorem dX3_measure_1 : decode YX3_measure.2.1 1 = .ok (.istore 4, 2) := by decide +kernel
theorem dX3_measure_3 : decode YX3_measure.2.1 3 = .ok (.iload 4, 2) := by decide +kernel
theorem dX3_measure_5 : decode YX3_measure.2.1 5 = .ok (.bipush 8, 2) := by decide +kernel
theorem dX3_measure_7 : decode YX3_measure.2.1 7 = .ok (.if_icmp .ge 35, 3) := by decide +kernel
theorem dX3_measure_10 : decode YX3_measure.2.1 10 = .ok (.aload_n 0, 1) := by decide +kernel
theorem dX3_measure_11 : decode YX3_measure.2.1 11 = .ok (.getfield 9, 3) := by decide +kernel
theorem dX3_measure_14 : decode YX3_measure.2.1 14 = .ok (.iload 4, 2) := by decide +kernel
theorem dX3_measure_16 : decode YX3_measure.2.1 16 = .ok (.sipush 9999, 3) := by decide +kernel
theorem dX3_measure_19 : decode YX3_measure.2.1 19 = .ok (.iastore, 1) := by decide +kernel
theorem dX3_measure_20 : decode YX3_measure.2.1 20 = .ok (.aload_n 0, 1) := by decide +kernel
theorem dX3_measure_21 : decode YX3_measure.2.1 21 = .ok (.getfield 15, 3) := by decide +kernel
theorem dX3_measure_24 : decode YX3_measure.2.1 24 = .ok (.iload 4, 2) := by decide +kernel
theorem dX3_measure_26 : decode YX3_measure.2.1 26 = .ok (.iconst (-1), 1) := by decide +kernel
theorem dX3_measure_27 : decode YX3_measure.2.1 27 = .ok (.iastore, 1) := by decide +kernel
theorem dX3_measure_28 : decode YX3_measure.2.1 28 = .ok (.aload_n 0, 1) := by decide +kernel
theorem dX3_measure_29 : decode YX3_measure.2.1 29 = .ok (.getfield 18, 3) := by decide +kernel
theorem dX3_measure_32 : decode YX3_measure.2.1 32 = .ok (.iload 4, 2) := by decide +kernel
theorem dX3_measure_34 : decode YX3_measure.2.1 34 = .ok (.iconst 0, 1) := by decide +kernel
theorem dX3_measure_35 : decode YX3_measure.2.1 35 = .ok (.bastore, 1) := by decide +kernel
theorem dX3_measure_36 : decode YX3_measure.2.1 36 = .ok (.iinc 4 1, 3) := by decide +kernel
theorem dX3_measure_39 : decode YX3_measure.2.1 39 = .ok (.goto (-36), 3) := by decide +kernel
theorem dX3_measure_42 : decode YX3_measure.2.1 42 = .ok (.aload_n 0, 1) := by decide +kernel
theorem dX3_measure_43 : decode YX3_measure.2.1 43 = .ok (.getfield 9, 3) := by decide +kernel
theorem dX3_measure_46 : decode YX3_measure.2.1 46 = .ok (.iload_n 2, 1) := by decide +kernel
theorem dX3_measure_47 : decode YX3_measure.2.1 47 = .ok (.iconst 0, 1) := by decide +kernel
theorem dX3_measure_48 : decode YX3_measure.2.1 48 = .ok (.iastore, 1) := by decide +kernel
theorem dX3_measure_49 : decode YX3_measure.2.1 49 = .ok (.iload_n 2, 1) := by decide +kernel
theorem dX3_measure_50 : decode YX3_measure.2.1 50 = .ok (.iload_n 3, 1) := by decide +kernel
theorem dX3_measure_51 : decode YX3_measure.2.1 51 = .ok (.iconst 0, 1) := by decide +kernel
theorem dX3_measure_52 : decode YX3_measure.2.1 52 = .ok (.invokestatic 22, 3) := by decide +kernel
theorem dX3_measure_55 : decode YX3_measure.2.1 55 = .ok (.istore 4, 2) := by decide +kernel
theorem dX3_measure_57 : decode YX3_measure.2.1 57 = .ok (.iconst 0, 1) := by decide +kernel
theorem dX3_measure_58 : decode YX3_measure.2.1 58 = .ok (.istore 5, 2) := by decide +kernel
theorem dX3_measure_60 : decode YX3_measure.2.1 60 = .ok (.iload 5, 2) := by decide +kernel
theorem dX3_measure_62 : decode YX3_measure.2.1 62 = .ok (.bipush 8, 2) := by decide +kernel
theorem dX3_measure_64 : decode YX3_measure.2.1 64 = .ok (.if_icmp .ge 40, 3) := by decide +kernel
theorem dX3_measure_67 : decode YX3_measure.2.1 67 = .ok (.aload_n 0, 1) := by decide +kernel
theorem dX3_measure_68 : decode YX3_measure.2.1 68 = .ok (.invokevirtual 26, 3) := by decide +kernel
theorem dX3_measure_71 : decode YX3_measure.2.1 71 = .ok (.istore 6, 2) := by decide +kernel
theorem dX3_measure_73 : decode YX3_measure.2.1 73 = .ok (.iload 6, 2) := by decide +kernel
theorem dX3_measure_75 : decode YX3_measure.2.1 75 = .ok (.iconst (-1), 1) := by decide +kernel
theorem dX3_measure_76 : decode YX3_measure.2.1 76 = .ok (.if_icmp .ne 4, 3) := by decide +kernel
theorem dX3_measure_79 : decode YX3_measure.2.1 79 = .ok (.return_, 1) := by decide +kernel
theorem dX3_measure_80 : decode YX3_measure.2.1 80 = .ok (.aload_n 0, 1) := by decide +kernel
theorem dX3_measure_81 : decode YX3_measure.2.1 81 = .ok (.getfield 18, 3) := by decide +kernel
theorem dX3_measure_84 : decode YX3_measure.2.1 84 = .ok (.iload 6, 2) := by decide +kernel
theorem dX3_measure_86 : decode YX3_measure.2.1 86 = .ok (.iconst 1, 1) := by decide +kernel
theorem dX3_measure_87 : decode YX3_measure.2.1 87 = .ok (.bastore, 1) := by decide +kernel
theorem dX3_measure_88 : decode YX3_measure.2.1 88 = .ok (.aload_n 0, 1) := by decide +kernel
theorem dX3_measure_89 : decode YX3_measure.2.1 89 = .ok (.aload_n 1, 1) := by decide +kernel
theorem dX3_measure_90 : decode YX3_measure.2.1 90 = .ok (.iload 4, 2) := by decide +kernel
theorem dX3_measure_92 : decode YX3_measure.2.1 92 = .ok (.iload_n 2, 1) := by decide +kernel
theorem dX3_measure_93 : decode YX3_measure.2.1 93 = .ok (.iload 6, 2) := by decide +kernel
theorem dX3_measure_95 : decode YX3_measure.2.1 95 = .ok (.invokevirtual 30, 3) := by decide +kernel
theorem dX3_measure_98 : decode YX3_measure.2.1 98 = .ok (.iinc 5 1, 3) := by decide +kernel
theorem dX3_measure_101 : decode YX3_measure.2.1 101 = .ok (.goto (-41), 3) := by decide +kernel
theorem dX3_measure_104 : decode YX3_measure.2.1 104 = .ok (.return_, 1) := by decide +kernel
theorem dX3_nearest_0 : decode YX3_nearest.2.1 0 = .ok (.iconst (-1), 1) := by decide +kernel
theorem dX3_nearest_1 : decode YX3_nearest.2.1 1 = .ok (.istore_n 1, 1) := by decide +kernel
theorem dX3_nearest_2 : decode YX3_nearest.2.1 2 = .ok (.sipush 9999, 3) := by decide +kernel
theorem dX3_nearest_5 : decode YX3_nearest.2.1 5 = .ok (.istore_n 2, 1) := by decide +kernel
theorem dX3_nearest_6 : decode YX3_nearest.2.1 6 = .ok (.iconst 0, 1) := by decide +kernel
theorem dX3_nearest_7 : decode YX3_nearest.2.1 7 = .ok (.istore_n 3, 1) := by decide +kernel
theorem dX3_nearest_8 : decode YX3_nearest.2.1 8 = .ok (.iload_n 3, 1) := by decide +kernel
theorem dX3_nearest_9 : decode YX3_nearest.2.1 9 = .ok (.bipush 8, 2) := by decide +kernel
theorem dX3_nearest_11 : decode YX3_nearest.2.1 11 = .ok (.if_icmp .ge 37, 3) := by decide +kernel
theorem dX3_nearest_14 : decode YX3_nearest.2.1 14 = .ok (.aload_n 0, 1) := by decide +kernel
theorem dX3_nearest_15 : decode YX3_nearest.2.1 15 = .ok (.getfield 18, 3) := by decide +kernel
theorem dX3_nearest_18 : decode YX3_nearest.2.1 18 = .ok (.iload_n 3, 1) := by decide +kernel
theorem dX3_nearest_19 : decode YX3_nearest.2.1 19 = .ok (.baload, 1) := by decide +kernel
theorem dX3_nearest_20 : decode YX3_nearest.2.1 20 = .ok (.ifCond .ne 22, 3) := by decide +kernel
theorem dX3_nearest_23 : decode YX3_nearest.2.1 23 = .ok (.aload_n 0, 1) := by decide +kernel
theorem dX3_nearest_24 : decode YX3_nearest.2.1 24 = .ok (.getfield 9, 3) := by decide +kernel
theorem dX3_nearest_27 : decode YX3_nearest.2.1 27 = .ok (.iload_n 3, 1) := by decide +kernel
theorem dX3_nearest_28 : decode YX3_nearest.2.1 28 = .ok (.iaload, 1) := by decide +kernel
theorem dX3_nearest_29 : decode YX3_nearest.2.1 29 = .ok (.iload_n 2, 1) := by decide +kernel
theorem dX3_nearest_30 : decode YX3_nearest.2.1 30 = .ok (.if_icmp .ge 12, 3) := by decide +kernel
theorem dX3_nearest_33 : decode YX3_nearest.2.1 33 = .ok (.iload_n 3, 1) := by decide +kernel
theorem dX3_nearest_34 : decode YX3_nearest.2.1 34 = .ok (.istore_n 1, 1) := by decide +kernel
theorem dX3_nearest_35 : decode YX3_nearest.2.1 35 = .ok (.aload_n 0, 1) := by decide +kernel
theorem dX3_nearest_36 : decode YX3_nearest.2.1 36 = .ok (.getfield 9, 3) := by decide +kernel
theorem dX3_nearest_39 : decode YX3_nearest.2.1 39 = .ok (.iload_n 3, 1) := by decide +kernel
theorem dX3_nearest_40 : decode YX3_nearest.2.1 40 = .ok (.iaload, 1) := by decide +kernel
theorem dX3_nearest_41 : decode YX3_nearest.2.1 41 = .ok (.istore_n 2, 1) := by decide +kernel
theorem dX3_nearest_42 : decode YX3_nearest.2.1 42 = .ok (.iinc 3 1, 3) := by decide +kernel
theorem dX3_nearest_45 : decode YX3_nearest.2.1 45 = .ok (.goto (-37), 3) := by decide +kernel
theorem dX3_nearest_48 : decode YX3_nearest.2.1 48 = .ok (.iload_n 1, 1) := by decide +kernel
theorem dX3_nearest_49 : decode YX3_nearest.2.1 49 = .ok (.ireturn, 1) := by decide +kernel
theorem dX3_goOn_0 : decode YX3_goOn.2.1 0 = .ok (.aload_n 1, 1) := by decide +kernel
theorem dX3_goOn_1 : decode YX3_goOn.2.1 1 = .ok (.getfield 34, 3) := by decide +kernel
theorem dX3_goOn_4 : decode YX3_goOn.2.1 4 = .ok (.astore 5, 2) := by decide +kernel
theorem dX3_goOn_6 : decode YX3_goOn.2.1 6 = .ok (.aload_n 1, 1) := by decide +kernel
theorem dX3_goOn_7 : decode YX3_goOn.2.1 7 = .ok (.getfield 40, 3) := by decide +kernel
theorem dX3_goOn_10 : decode YX3_goOn.2.1 10 = .ok (.astore 6, 2) := by decide +kernel
theorem dX3_goOn_12 : decode YX3_goOn.2.1 12 = .ok (.iconst 0, 1) := by decide +kernel
theorem dX3_goOn_13 : decode YX3_goOn.2.1 13 = .ok (.istore 7, 2) := by decide +kernel
theorem dX3_goOn_15 : decode YX3_goOn.2.1 15 = .ok (.iload 7, 2) := by decide +kernel
theorem dX3_goOn_17 : decode YX3_goOn.2.1 17 = .ok (.aload 5, 2) := by decide +kernel
theorem dX3_goOn_19 : decode YX3_goOn.2.1 19 = .ok (.getfield 44, 3) := by decide +kernel
theorem dX3_goOn_22 : decode YX3_goOn.2.1 22 = .ok (.if_icmp .ge 176, 3) := by decide +kernel
theorem dX3_goOn_25 : decode YX3_goOn.2.1 25 = .ok (.aload 5, 2) := by decide +kernel
theorem dX3_goOn_27 : decode YX3_goOn.2.1 27 = .ok (.getfield 50, 3) := by decide +kernel
theorem dX3_goOn_30 : decode YX3_goOn.2.1 30 = .ok (.iload 7, 2) := by decide +kernel
theorem dX3_goOn_32 : decode YX3_goOn.2.1 32 = .ok (.iaload, 1) := by decide +kernel
theorem dX3_goOn_33 : decode YX3_goOn.2.1 33 = .ok (.iload 4, 2) := by decide +kernel
theorem dX3_goOn_35 : decode YX3_goOn.2.1 35 = .ok (.if_icmp .ne 14, 3) := by decide +kernel
theorem dX3_goOn_38 : decode YX3_goOn.2.1 38 = .ok (.aload 5, 2) := by decide +kernel
theorem dX3_goOn_40 : decode YX3_goOn.2.1 40 = .ok (.getfield 53, 3) := by decide +kernel
theorem dX3_goOn_43 : decode YX3_goOn.2.1 43 = .ok (.iload 7, 2) := by decide +kernel
theorem dX3_goOn_45 : decode YX3_goOn.2.1 45 = .ok (.iaload, 1) := by decide +kernel
theorem dX3_goOn_46 : decode YX3_goOn.2.1 46 = .ok (.goto 11, 3) := by decide +kernel
theorem dX3_goOn_49 : decode YX3_goOn.2.1 49 = .ok (.aload 5, 2) := by decide +kernel
theorem dX3_goOn_51 : decode YX3_goOn.2.1 51 = .ok (.getfield 50, 3) := by decide +kernel
theorem dX3_goOn_54 : decode YX3_goOn.2.1 54 = .ok (.iload 7, 2) := by decide +kernel
theorem dX3_goOn_56 : decode YX3_goOn.2.1 56 = .ok (.iaload, 1) := by decide +kernel
theorem dX3_goOn_57 : decode YX3_goOn.2.1 57 = .ok (.istore 8, 2) := by decide +kernel
theorem dX3_goOn_59 : decode YX3_goOn.2.1 59 = .ok (.aload 6, 2) := by decide +kernel
theorem dX3_goOn_61 : decode YX3_goOn.2.1 61 = .ok (.getfield 56, 3) := by decide +kernel
theorem dX3_goOn_64 : decode YX3_goOn.2.1 64 = .ok (.iload_n 2, 1) := by decide +kernel
theorem dX3_goOn_65 : decode YX3_goOn.2.1 65 = .ok (.iload 4, 2) := by decide +kernel
theorem dX3_goOn_67 : decode YX3_goOn.2.1 67 = .ok (.iadd, 1) := by decide +kernel
theorem dX3_goOn_68 : decode YX3_goOn.2.1 68 = .ok (.iaload, 1) := by decide +kernel
theorem dX3_goOn_69 : decode YX3_goOn.2.1 69 = .ok (.aload 6, 2) := by decide +kernel
theorem dX3_goOn_71 : decode YX3_goOn.2.1 71 = .ok (.getfield 56, 3) := by decide +kernel
theorem dX3_goOn_74 : decode YX3_goOn.2.1 74 = .ok (.iload_n 2, 1) := by decide +kernel
theorem dX3_goOn_75 : decode YX3_goOn.2.1 75 = .ok (.iload 8, 2) := by decide +kernel
theorem dX3_goOn_77 : decode YX3_goOn.2.1 77 = .ok (.iadd, 1) := by decide +kernel
theorem dX3_goOn_78 : decode YX3_goOn.2.1 78 = .ok (.iaload, 1) := by decide +kernel
theorem dX3_goOn_79 : decode YX3_goOn.2.1 79 = .ok (.iand, 1) := by decide +kernel
theorem dX3_goOn_80 : decode YX3_goOn.2.1 80 = .ok (.istore 9, 2) := by decide +kernel
theorem dX3_goOn_82 : decode YX3_goOn.2.1 82 = .ok (.iload 9, 2) := by decide +kernel
theorem dX3_goOn_84 : decode YX3_goOn.2.1 84 = .ok (.iload 7, 2) := by decide +kernel
theorem dX3_goOn_86 : decode YX3_goOn.2.1 86 = .ok (.ishr, 1) := by decide +kernel
theorem dX3_goOn_87 : decode YX3_goOn.2.1 87 = .ok (.iconst 1, 1) := by decide +kernel
theorem dX3_goOn_88 : decode YX3_goOn.2.1 88 = .ok (.iand, 1) := by decide +kernel
theorem dX3_goOn_89 : decode YX3_goOn.2.1 89 = .ok (.ifCond .eq 103, 3) := by decide +kernel
theorem dX3_goOn_92 : decode YX3_goOn.2.1 92 = .ok (.aload_n 0, 1) := by decide +kernel
theorem dX3_goOn_93 : decode YX3_goOn.2.1 93 = .ok (.getfield 9, 3) := by decide +kernel
theorem dX3_goOn_96 : decode YX3_goOn.2.1 96 = .ok (.iload 4, 2) := by decide +kernel
theorem dX3_goOn_98 : decode YX3_goOn.2.1 98 = .ok (.iaload, 1) := by decide +kernel
theorem dX3_goOn_99 : decode YX3_goOn.2.1 99 = .ok (.aload 6, 2) := by decide +kernel
theorem dX3_goOn_101 : decode YX3_goOn.2.1 101 = .ok (.getfield 60, 3) := by decide +kernel
theorem dX3_goOn_104 : decode YX3_goOn.2.1 104 = .ok (.iload_n 2, 1) := by decide +kernel
theorem dX3_goOn_105 : decode YX3_goOn.2.1 105 = .ok (.iload 4, 2) := by decide +kernel
theorem dX3_goOn_107 : decode YX3_goOn.2.1 107 = .ok (.iadd, 1) := by decide +kernel
theorem dX3_goOn_108 : decode YX3_goOn.2.1 108 = .ok (.bipush 12, 2) := by decide +kernel
theorem dX3_goOn_110 : decode YX3_goOn.2.1 110 = .ok (.imul, 1) := by decide +kernel
theorem dX3_goOn_111 : decode YX3_goOn.2.1 111 = .ok (.iload 7, 2) := by decide +kernel
theorem dX3_goOn_113 : decode YX3_goOn.2.1 113 = .ok (.iadd, 1) := by decide +kernel
theorem dX3_goOn_114 : decode YX3_goOn.2.1 114 = .ok (.iaload, 1) := by decide +kernel
theorem dX3_goOn_115 : decode YX3_goOn.2.1 115 = .ok (.iadd, 1) := by decide +kernel
theorem dX3_goOn_116 : decode YX3_goOn.2.1 116 = .ok (.istore 10, 2) := by decide +kernel
theorem dX3_goOn_118 : decode YX3_goOn.2.1 118 = .ok (.iload 4, 2) := by decide +kernel
theorem dX3_goOn_120 : decode YX3_goOn.2.1 120 = .ok (.iload_n 3, 1) := by decide +kernel
theorem dX3_goOn_121 : decode YX3_goOn.2.1 121 = .ok (.if_icmp .ne 8, 3) := by decide +kernel
theorem dX3_goOn_124 : decode YX3_goOn.2.1 124 = .ok (.iload 8, 2) := by decide +kernel
theorem dX3_goOn_126 : decode YX3_goOn.2.1 126 = .ok (.goto 10, 3) := by decide +kernel
theorem dX3_goOn_129 : decode YX3_goOn.2.1 129 = .ok (.aload_n 0, 1) := by decide +kernel
theorem dX3_goOn_130 : decode YX3_goOn.2.1 130 = .ok (.getfield 15, 3) := by decide +kernel
theorem dX3_goOn_133 : decode YX3_goOn.2.1 133 = .ok (.iload 4, 2) := by decide +kernel
theorem dX3_goOn_135 : decode YX3_goOn.2.1 135 = .ok (.iaload, 1) := by decide +kernel
theorem dX3_goOn_136 : decode YX3_goOn.2.1 136 = .ok (.istore 11, 2) := by decide +kernel
theorem dX3_goOn_138 : decode YX3_goOn.2.1 138 = .ok (.iload 10, 2) := by decide +kernel
theorem dX3_goOn_140 : decode YX3_goOn.2.1 140 = .ok (.aload_n 0, 1) := by decide +kernel
theorem dX3_goOn_141 : decode YX3_goOn.2.1 141 = .ok (.getfield 9, 3) := by decide +kernel
theorem dX3_goOn_144 : decode YX3_goOn.2.1 144 = .ok (.iload 8, 2) := by decide +kernel
theorem dX3_goOn_146 : decode YX3_goOn.2.1 146 = .ok (.iaload, 1) := by decide +kernel
theorem dX3_goOn_147 : decode YX3_goOn.2.1 147 = .ok (.if_icmp .lt 27, 3) := by decide +kernel
theorem dX3_goOn_150 : decode YX3_goOn.2.1 150 = .ok (.iload 10, 2) := by decide +kernel
theorem dX3_goOn_152 : decode YX3_goOn.2.1 152 = .ok (.aload_n 0, 1) := by decide +kernel
theorem dX3_goOn_153 : decode YX3_goOn.2.1 153 = .ok (.getfield 9, 3) := by decide +kernel
theorem dX3_goOn_156 : decode YX3_goOn.2.1 156 = .ok (.iload 8, 2) := by decide +kernel
theorem dX3_goOn_158 : decode YX3_goOn.2.1 158 = .ok (.iaload, 1) := by decide +kernel
theorem dX3_goOn_159 : decode YX3_goOn.2.1 159 = .ok (.if_icmp .ne 33, 3) := by decide +kernel
theorem dX3_goOn_162 : decode YX3_goOn.2.1 162 = .ok (.iload 11, 2) := by decide +kernel
theorem dX3_goOn_164 : decode YX3_goOn.2.1 164 = .ok (.aload_n 0, 1) := by decide +kernel
theorem dX3_goOn_165 : decode YX3_goOn.2.1 165 = .ok (.getfield 15, 3) := by decide +kernel
theorem dX3_goOn_168 : decode YX3_goOn.2.1 168 = .ok (.iload 8, 2) := by decide +kernel
theorem dX3_goOn_170 : decode YX3_goOn.2.1 170 = .ok (.iaload, 1) := by decide +kernel
theorem dX3_goOn_171 : decode YX3_goOn.2.1 171 = .ok (.if_icmp .ge 21, 3) := by decide +kernel
theorem dX3_goOn_174 : decode YX3_goOn.2.1 174 = .ok (.aload_n 0, 1) := by decide +kernel
theorem dX3_goOn_175 : decode YX3_goOn.2.1 175 = .ok (.getfield 9, 3) := by decide +kernel
theorem dX3_goOn_178 : decode YX3_goOn.2.1 178 = .ok (.iload 8, 2) := by decide +kernel
theorem dX3_goOn_180 : decode YX3_goOn.2.1 180 = .ok (.iload 10, 2) := by decide +kernel
theorem dX3_goOn_182 : decode YX3_goOn.2.1 182 = .ok (.iastore, 1) := by decide +kernel
theorem dX3_goOn_183 : decode YX3_goOn.2.1 183 = .ok (.aload_n 0, 1) := by decide +kernel
theorem dX3_goOn_184 : decode YX3_goOn.2.1 184 = .ok (.getfield 15, 3) := by decide +kernel
theorem dX3_goOn_187 : decode YX3_goOn.2.1 187 = .ok (.iload 8, 2) := by decide +kernel
theorem dX3_goOn_189 : decode YX3_goOn.2.1 189 = .ok (.iload 11, 2) := by decide +kernel
theorem dX3_goOn_191 : decode YX3_goOn.2.1 191 = .ok (.iastore, 1) := by decide +kernel
theorem dX3_goOn_192 : decode YX3_goOn.2.1 192 = .ok (.iinc 7 1, 3) := by decide +kernel
theorem dX3_goOn_195 : decode YX3_goOn.2.1 195 = .ok (.goto (-180), 3) := by decide +kernel
theorem dX3_goOn_198 : decode YX3_goOn.2.1 198 = .ok (.return_, 1) := by decide +kernel
theorem dX4_init_0 : decode YX4_init.2.1 0 = .ok (.aload_n 0, 1) := by decide +kernel
theorem dX4_init_1 : decode YX4_init.2.1 1 = .ok (.invokespecial 3, 3) := by decide +kernel
theorem dX4_init_4 : decode YX4_init.2.1 4 = .ok (.aload_n 0, 1) := by decide +kernel
theorem dX4_init_5 : decode YX4_init.2.1 5 = .ok (.bipush 8, 2) := by decide +kernel
theorem dX4_init_7 : decode YX4_init.2.1 7 = .ok (.newarray .int, 2) := by decide +kernel
theorem dX4_init_9 : decode YX4_init.2.1 9 = .ok (.putfield 9, 3) := by decide +kernel
theorem dX4_init_12 : decode YX4_init.2.1 12 = .ok (.aload_n 0, 1) := by decide +kernel
theorem dX4_init_13 : decode YX4_init.2.1 13 = .ok (.bipush 8, 2) := by decide +kernel
theorem dX4_init_15 : decode YX4_init.2.1 15 = .ok (.newarray .int, 2) := by decide +kernel
theorem dX4_init_17 : decode YX4_init.2.1 17 = .ok (.putfield 15, 3) := by decide +kernel
theorem dX4_init_20 : decode YX4_init.2.1 20 = .ok (.aload_n 0, 1) := by decide +kernel
theorem dX4_init_21 : decode YX4_init.2.1 21 = .ok (.bipush 8, 2) := by decide +kernel
theorem dX4_init_23 : decode YX4_init.2.1 23 = .ok (.newarray .int, 2) := by decide +kernel
theorem dX4_init_25 : decode YX4_init.2.1 25 = .ok (.putfield 18, 3) := by decide +kernel
theorem dX4_init_28 : decode YX4_init.2.1 28 = .ok (.aload_n 0, 1) := by decide +kernel
theorem dX4_init_29 : decode YX4_init.2.1 29 = .ok (.bipush 8, 2) := by decide +kernel
theorem dX4_init_31 : decode YX4_init.2.1 31 = .ok (.newarray .int, 2) := by decide +kernel
theorem dX4_init_33 : decode YX4_init.2.1 33 = .ok (.putfield 21, 3) := by decide +kernel
theorem dX4_init_36 : decode YX4_init.2.1 36 = .ok (.aload_n 0, 1) := by decide +kernel
theorem dX4_init_37 : decode YX4_init.2.1 37 = .ok (.iconst 3, 1) := by decide +kernel
theorem dX4_init_38 : decode YX4_init.2.1 38 = .ok (.anewarray 24, 3) := by decide +kernel
theorem dX4_init_41 : decode YX4_init.2.1 41 = .ok (.dup, 1) := by decide +kernel
theorem dX4_init_42 : decode YX4_init.2.1 42 = .ok (.iconst 0, 1) := by decide +kernel
theorem dX4_init_43 : decode YX4_init.2.1 43 = .ok (.new 24, 3) := by decide +kernel
theorem dX4_init_46 : decode YX4_init.2.1 46 = .ok (.dup, 1) := by decide +kernel
theorem dX4_init_47 : decode YX4_init.2.1 47 = .ok (.invokespecial 26, 3) := by decide +kernel
theorem dX4_init_50 : decode YX4_init.2.1 50 = .ok (.aastore, 1) := by decide +kernel
theorem dX4_init_51 : decode YX4_init.2.1 51 = .ok (.dup, 1) := by decide +kernel
theorem dX4_init_52 : decode YX4_init.2.1 52 = .ok (.iconst 1, 1) := by decide +kernel
theorem dX4_init_53 : decode YX4_init.2.1 53 = .ok (.new 24, 3) := by decide +kernel
theorem dX4_init_56 : decode YX4_init.2.1 56 = .ok (.dup, 1) := by decide +kernel
theorem dX4_init_57 : decode YX4_init.2.1 57 = .ok (.invokespecial 26, 3) := by decide +kernel
theorem dX4_init_60 : decode YX4_init.2.1 60 = .ok (.aastore, 1) := by decide +kernel
theorem dX4_init_61 : decode YX4_init.2.1 61 = .ok (.dup, 1) := by decide +kernel
theorem dX4_init_62 : decode YX4_init.2.1 62 = .ok (.iconst 2, 1) := by decide +kernel
theorem dX4_init_63 : decode YX4_init.2.1 63 = .ok (.new 24, 3) := by decide +kernel
theorem dX4_init_66 : decode YX4_init.2.1 66 = .ok (.dup, 1) := by decide +kernel
theorem dX4_init_67 : decode YX4_init.2.1 67 = .ok (.invokespecial 26, 3) := by decide +kernel
theorem dX4_init_70 : decode YX4_init.2.1 70 = .ok (.aastore, 1) := by decide +kernel
theorem dX4_init_71 : decode YX4_init.2.1 71 = .ok (.putfield 27, 3) := by decide +kernel
theorem dX4_init_74 : decode YX4_init.2.1 74 = .ok (.return_, 1) := by decide +kernel
theorem dX4_find_0 : decode YX4_find.2.1 0 = .ok (.aload_n 1, 1) := by decide +kernel
theorem dX4_find_1 : decode YX4_find.2.1 1 = .ok (.getfield 31, 3) := by decide +kernel
theorem dX4_find_4 : decode YX4_find.2.1 4 = .ok (.iload_n 2, 1) := by decide +kernel
theorem dX4_find_5 : decode YX4_find.2.1 5 = .ok (.invokevirtual 37, 3) := by decide +kernel
theorem dX4_find_8 : decode YX4_find.2.1 8 = .ok (.istore_n 3, 1) := by decide +kernel
theorem dX4_find_9 : decode YX4_find.2.1 9 = .ok (.iconst 0, 1) := by decide +kernel
theorem dX4_find_10 : decode YX4_find.2.1 10 = .ok (.istore 4, 2) := by decide +kernel
theorem dX4_find_12 : decode YX4_find.2.1 12 = .ok (.iload 4, 2) := by decide +kernel
theorem dX4_find_14 : decode YX4_find.2.1 14 = .ok (.iconst 3, 1) := by decide +kernel
theorem dX4_find_15 : decode YX4_find.2.1 15 = .ok (.if_icmp .ge 32, 3) := by decide +kernel
theorem dX4_find_18 : decode YX4_find.2.1 18 = .ok (.iload_n 3, 1) := by decide +kernel
theorem dX4_find_19 : decode YX4_find.2.1 19 = .ok (.iload 4, 2) := by decide +kernel
theorem dX4_find_21 : decode YX4_find.2.1 21 = .ok (.ishr, 1) := by decide +kernel
theorem dX4_find_22 : decode YX4_find.2.1 22 = .ok (.iconst 1, 1) := by decide +kernel
theorem dX4_find_23 : decode YX4_find.2.1 23 = .ok (.iand, 1) := by decide +kernel
theorem dX4_find_24 : decode YX4_find.2.1 24 = .ok (.ifCond .eq 17, 3) := by decide +kernel
theorem dX4_find_27 : decode YX4_find.2.1 27 = .ok (.aload_n 0, 1) := by decide +kernel
theorem dX4_find_28 : decode YX4_find.2.1 28 = .ok (.getfield 27, 3) := by decide +kernel
theorem dX4_find_31 : decode YX4_find.2.1 31 = .ok (.iload 4, 2) := by decide +kernel
theorem dX4_find_33 : decode YX4_find.2.1 33 = .ok (.aaload, 1) := by decide +kernel
theorem dX4_find_34 : decode YX4_find.2.1 34 = .ok (.aload_n 1, 1) := by decide +kernel
theorem dX4_find_35 : decode YX4_find.2.1 35 = .ok (.iload_n 2, 1) := by decide +kernel
theorem dX4_find_36 : decode YX4_find.2.1 36 = .ok (.iload 4, 2) := by decide +kernel
theorem dX4_find_38 : decode YX4_find.2.1 38 = .ok (.invokevirtual 43, 3) := by decide +kernel
theorem dX4_find_41 : decode YX4_find.2.1 41 = .ok (.iinc 4 1, 3) := by decide +kernel
theorem dX4_find_44 : decode YX4_find.2.1 44 = .ok (.goto (-32), 3) := by decide +kernel
theorem dX4_find_47 : decode YX4_find.2.1 47 = .ok (.iconst 0, 1) := by decide +kernel
theorem dX4_find_48 : decode YX4_find.2.1 48 = .ok (.istore 4, 2) := by decide +kernel
theorem dX4_find_50 : decode YX4_find.2.1 50 = .ok (.iload 4, 2) := by decide +kernel
theorem dX4_find_52 : decode YX4_find.2.1 52 = .ok (.bipush 8, 2) := by decide +kernel
theorem dX4_find_54 : decode YX4_find.2.1 54 = .ok (.if_icmp .ge 80, 3) := by decide +kernel
theorem dX4_find_57 : decode YX4_find.2.1 57 = .ok (.aload_n 0, 1) := by decide +kernel
theorem dX4_find_58 : decode YX4_find.2.1 58 = .ok (.iload 4, 2) := by decide +kernel
theorem dX4_find_60 : decode YX4_find.2.1 60 = .ok (.iload 4, 2) := by decide +kernel
theorem dX4_find_62 : decode YX4_find.2.1 62 = .ok (.iload_n 2, 1) := by decide +kernel
theorem dX4_find_63 : decode YX4_find.2.1 63 = .ok (.if_icmp .ne 7, 3) := by decide +kernel
theorem dX4_find_66 : decode YX4_find.2.1 66 = .ok (.iconst 0, 1) := by decide +kernel
theorem dX4_find_67 : decode YX4_find.2.1 67 = .ok (.goto 4, 3) := by decide +kernel
theorem dX4_find_70 : decode YX4_find.2.1 70 = .ok (.iconst (-1), 1) := by decide +kernel
theorem dX4_find_71 : decode YX4_find.2.1 71 = .ok (.iconst (-1), 1) := by decide +kernel
theorem dX4_find_72 : decode YX4_find.2.1 72 = .ok (.iconst (-1), 1) := by decide +kernel
theorem dX4_find_73 : decode YX4_find.2.1 73 = .ok (.invokevirtual 47, 3) := by decide +kernel
theorem dX4_find_76 : decode YX4_find.2.1 76 = .ok (.aload_n 0, 1) := by decide +kernel
theorem dX4_find_77 : decode YX4_find.2.1 77 = .ok (.getfield 21, 3) := by decide +kernel
theorem dX4_find_80 : decode YX4_find.2.1 80 = .ok (.iload 4, 2) := by decide +kernel
theorem dX4_find_82 : decode YX4_find.2.1 82 = .ok (.iconst (-1), 1) := by decide +kernel
theorem dX4_find_83 : decode YX4_find.2.1 83 = .ok (.iastore, 1) := by decide +kernel
theorem dX4_find_84 : decode YX4_find.2.1 84 = .ok (.iload 4, 2) := by decide +kernel
theorem dX4_find_86 : decode YX4_find.2.1 86 = .ok (.iload_n 2, 1) := by decide +kernel
theorem dX4_find_87 : decode YX4_find.2.1 87 = .ok (.if_icmp .eq 41, 3) := by decide +kernel
theorem dX4_find_90 : decode YX4_find.2.1 90 = .ok (.aload_n 0, 1) := by decide +kernel
theorem dX4_find_91 : decode YX4_find.2.1 91 = .ok (.iload_n 3, 1) := by decide +kernel
theorem dX4_find_92 : decode YX4_find.2.1 92 = .ok (.iload 4, 2) := by decide +kernel
theorem dX4_find_94 : decode YX4_find.2.1 94 = .ok (.invokevirtual 51, 3) := by decide +kernel
theorem dX4_find_97 : decode YX4_find.2.1 97 = .ok (.aload_n 0, 1) := by decide +kernel
theorem dX4_find_98 : decode YX4_find.2.1 98 = .ok (.getfield 9, 3) := by decide +kernel
theorem dX4_find_101 : decode YX4_find.2.1 101 = .ok (.iload 4, 2) := by decide +kernel
theorem dX4_find_103 : decode YX4_find.2.1 103 = .ok (.iaload, 1) := by decide +kernel
theorem dX4_find_104 : decode YX4_find.2.1 104 = .ok (.iconst (-1), 1) := by decide +kernel
theorem dX4_find_105 : decode YX4_find.2.1 105 = .ok (.if_icmp .ne 23, 3) := by decide +kernel
theorem dX4_find_108 : decode YX4_find.2.1 108 = .ok (.aload_n 0, 1) := by decide +kernel
theorem dX4_find_109 : decode YX4_find.2.1 109 = .ok (.aload_n 1, 1) := by decide +kernel
theorem dX4_find_110 : decode YX4_find.2.1 110 = .ok (.iload_n 2, 1) := by decide +kernel
theorem dX4_find_111 : decode YX4_find.2.1 111 = .ok (.iload_n 3, 1) := by decide +kernel
theorem dX4_find_112 : decode YX4_find.2.1 112 = .ok (.invokestatic 55, 3) := by decide +kernel
theorem dX4_find_115 : decode YX4_find.2.1 115 = .ok (.ifCond .eq 7, 3) := by decide +kernel
theorem dX4_find_118 : decode YX4_find.2.1 118 = .ok (.iconst 1, 1) := by decide +kernel
theorem dX4_find_119 : decode YX4_find.2.1 119 = .ok (.goto 4, 3) := by decide +kernel
theorem dX4_find_122 : decode YX4_find.2.1 122 = .ok (.iload_n 3, 1) := by decide +kernel
theorem dX4_find_123 : decode YX4_find.2.1 123 = .ok (.iload 4, 2) := by decide +kernel
theorem dX4_find_125 : decode YX4_find.2.1 125 = .ok (.invokevirtual 59, 3) := by decide +kernel
theorem dX4_find_128 : decode YX4_find.2.1 128 = .ok (.iinc 4 1, 3) := by decide +kernel
theorem dX4_find_131 : decode YX4_find.2.1 131 = .ok (.goto (-81), 3) := by decide +kernel
theorem dX4_find_134 : decode YX4_find.2.1 134 = .ok (.return_, 1) := by decide +kernel
theorem dX4_findInside_0 : decode YX4_findInside.2.1 0 = .ok (.sipush 9999, 3) := by decide +kernel
theorem dX4_findInside_3 : decode YX4_findInside.2.1 3 = .ok (.istore_n 3, 1) := by decide +kernel
theorem dX4_findInside_4 : decode YX4_findInside.2.1 4 = .ok (.iconst 0, 1) := by decide +kernel
theorem dX4_findInside_5 : decode YX4_findInside.2.1 5 = .ok (.istore 4, 2) := by decide +kernel
theorem dX4_findInside_7 : decode YX4_findInside.2.1 7 = .ok (.iload 4, 2) := by decide +kernel
theorem dX4_findInside_9 : decode YX4_findInside.2.1 9 = .ok (.iconst 3, 1) := by decide +kernel
theorem dX4_findInside_10 : decode YX4_findInside.2.1 10 = .ok (.if_icmp .ge 67, 3) := by decide +kernel
theorem dX4_findInside_13 : decode YX4_findInside.2.1 13 = .ok (.iload_n 1, 1) := by decide +kernel
theorem dX4_findInside_14 : decode YX4_findInside.2.1 14 = .ok (.iload 4, 2) := by decide +kernel
theorem dX4_findInside_16 : decode YX4_findInside.2.1 16 = .ok (.ishr, 1) := by decide +kernel
theorem dX4_findInside_17 : decode YX4_findInside.2.1 17 = .ok (.iconst 1, 1) := by decide +kernel
theorem dX4_findInside_18 : decode YX4_findInside.2.1 18 = .ok (.iand, 1) := by decide +kernel
theorem dX4_findInside_19 : decode YX4_findInside.2.1 19 = .ok (.ifCond .eq 52, 3) := by decide +kernel
theorem dX4_findInside_22 : decode YX4_findInside.2.1 22 = .ok (.aload_n 0, 1) := by decide +kernel
theorem dX4_findInside_23 : decode YX4_findInside.2.1 23 = .ok (.getfield 27, 3) := by decide +kernel
theorem dX4_findInside_26 : decode YX4_findInside.2.1 26 = .ok (.iload 4, 2) := by decide +kernel
theorem dX4_findInside_28 : decode YX4_findInside.2.1 28 = .ok (.aaload, 1) := by decide +kernel
theorem dX4_findInside_29 : decode YX4_findInside.2.1 29 = .ok (.getfield 63, 3) := by decide +kernel
theorem dX4_findInside_32 : decode YX4_findInside.2.1 32 = .ok (.iload_n 2, 1) := by decide +kernel
theorem dX4_findInside_33 : decode YX4_findInside.2.1 33 = .ok (.iaload, 1) := by decide +kernel
theorem dX4_findInside_34 : decode YX4_findInside.2.1 34 = .ok (.iload_n 3, 1) := by decide +kernel
theorem dX4_findInside_35 : decode YX4_findInside.2.1 35 = .ok (.if_icmp .ge 36, 3) := by decide +kernel
theorem dX4_findInside_38 : decode YX4_findInside.2.1 38 = .ok (.aload_n 0, 1) := by decide +kernel
theorem dX4_findInside_39 : decode YX4_findInside.2.1 39 = .ok (.getfield 27, 3) := by decide +kernel
theorem dX4_findInside_42 : decode YX4_findInside.2.1 42 = .ok (.iload 4, 2) := by decide +kernel
theorem dX4_findInside_44 : decode YX4_findInside.2.1 44 = .ok (.aaload, 1) := by decide +kernel
theorem dX4_findInside_45 : decode YX4_findInside.2.1 45 = .ok (.getfield 63, 3) := by decide +kernel
theorem dX4_findInside_48 : decode YX4_findInside.2.1 48 = .ok (.iload_n 2, 1) := by decide +kernel
theorem dX4_findInside_49 : decode YX4_findInside.2.1 49 = .ok (.iaload, 1) := by decide +kernel
theorem dX4_findInside_50 : decode YX4_findInside.2.1 50 = .ok (.istore_n 3, 1) := by decide +kernel
theorem dX4_findInside_51 : decode YX4_findInside.2.1 51 = .ok (.aload_n 0, 1) := by decide +kernel
theorem dX4_findInside_52 : decode YX4_findInside.2.1 52 = .ok (.iload_n 2, 1) := by decide +kernel
theorem dX4_findInside_53 : decode YX4_findInside.2.1 53 = .ok (.iload_n 3, 1) := by decide +kernel
theorem dX4_findInside_54 : decode YX4_findInside.2.1 54 = .ok (.aload_n 0, 1) := by decide +kernel
theorem dX4_findInside_55 : decode YX4_findInside.2.1 55 = .ok (.getfield 27, 3) := by decide +kernel
theorem dX4_findInside_58 : decode YX4_findInside.2.1 58 = .ok (.iload 4, 2) := by decide +kernel
theorem dX4_findInside_60 : decode YX4_findInside.2.1 60 = .ok (.aaload, 1) := by decide +kernel
theorem dX4_findInside_61 : decode YX4_findInside.2.1 61 = .ok (.getfield 66, 3) := by decide +kernel
theorem dX4_findInside_64 : decode YX4_findInside.2.1 64 = .ok (.iload_n 2, 1) := by decide +kernel
theorem dX4_findInside_65 : decode YX4_findInside.2.1 65 = .ok (.iaload, 1) := by decide +kernel
theorem dX4_findInside_66 : decode YX4_findInside.2.1 66 = .ok (.iload 4, 2) := by decide +kernel
theorem dX4_findInside_68 : decode YX4_findInside.2.1 68 = .ok (.invokevirtual 47, 3) := by decide +kernel
theorem dX4_findInside_71 : decode YX4_findInside.2.1 71 = .ok (.iinc 4 1, 3) := by decide +kernel
theorem dX4_findInside_74 : decode YX4_findInside.2.1 74 = .ok (.goto (-67), 3) := by decide +kernel
theorem dX4_findInside_77 : decode YX4_findInside.2.1 77 = .ok (.return_, 1) := by decide +kernel
theorem dX4_findAcross_0 : decode YX4_findAcross.2.1 0 = .ok (.sipush 9999, 3) := by decide +kernel
theorem dX4_findAcross_3 : decode YX4_findAcross.2.1 3 = .ok (.istore 5, 2) := by decide +kernel
theorem dX4_findAcross_5 : decode YX4_findAcross.2.1 5 = .ok (.iconst 0, 1) := by decide +kernel
theorem dX4_findAcross_6 : decode YX4_findAcross.2.1 6 = .ok (.istore 6, 2) := by decide +kernel
theorem dX4_findAcross_8 : decode YX4_findAcross.2.1 8 = .ok (.iload 6, 2) := by decide +kernel
theorem dX4_findAcross_10 : decode YX4_findAcross.2.1 10 = .ok (.iconst 3, 1) := by decide +kernel
theorem dX4_findAcross_11 : decode YX4_findAcross.2.1 11 = .ok (.if_icmp .ge 112, 3) := by decide +kernel
theorem dX4_findAcross_14 : decode YX4_findAcross.2.1 14 = .ok (.iload_n 3, 1) := by decide +kernel
theorem dX4_findAcross_15 : decode YX4_findAcross.2.1 15 = .ok (.iload 6, 2) := by decide +kernel
theorem dX4_findAcross_17 : decode YX4_findAcross.2.1 17 = .ok (.ishr, 1) := by decide +kernel
theorem dX4_findAcross_18 : decode YX4_findAcross.2.1 18 = .ok (.iconst 1, 1) := by decide +kernel
theorem dX4_findAcross_19 : decode YX4_findAcross.2.1 19 = .ok (.iand, 1) := by decide +kernel
theorem dX4_findAcross_20 : decode YX4_findAcross.2.1 20 = .ok (.ifCond .eq 22, 3) := by decide +kernel
theorem dX4_findAcross_23 : decode YX4_findAcross.2.1 23 = .ok (.aload_n 1, 1) := by decide +kernel
theorem dX4_findAcross_24 : decode YX4_findAcross.2.1 24 = .ok (.aload_n 0, 1) := by decide +kernel
theorem dX4_findAcross_25 : decode YX4_findAcross.2.1 25 = .ok (.getfield 27, 3) := by decide +kernel
theorem dX4_findAcross_28 : decode YX4_findAcross.2.1 28 = .ok (.iload 6, 2) := by decide +kernel
theorem dX4_findAcross_30 : decode YX4_findAcross.2.1 30 = .ok (.aaload, 1) := by decide +kernel
theorem dX4_findAcross_31 : decode YX4_findAcross.2.1 31 = .ok (.iload_n 2, 1) := by decide +kernel
theorem dX4_findAcross_32 : decode YX4_findAcross.2.1 32 = .ok (.iload 6, 2) := by decide +kernel
theorem dX4_findAcross_34 : decode YX4_findAcross.2.1 34 = .ok (.iload 4, 2) := by decide +kernel
theorem dX4_findAcross_36 : decode YX4_findAcross.2.1 36 = .ok (.invokevirtual 67, 3) := by decide +kernel
theorem dX4_findAcross_39 : decode YX4_findAcross.2.1 39 = .ok (.goto 4, 3) := by decide +kernel
theorem dX4_findAcross_42 : decode YX4_findAcross.2.1 42 = .ok (.iconst (-1), 1) := by decide +kernel
theorem dX4_findAcross_43 : decode YX4_findAcross.2.1 43 = .ok (.istore 7, 2) := by decide +kernel
theorem dX4_findAcross_45 : decode YX4_findAcross.2.1 45 = .ok (.iload 7, 2) := by decide +kernel
theorem dX4_findAcross_47 : decode YX4_findAcross.2.1 47 = .ok (.iconst (-1), 1) := by decide +kernel
theorem dX4_findAcross_48 : decode YX4_findAcross.2.1 48 = .ok (.if_icmp .eq 69, 3) := by decide +kernel
theorem dX4_findAcross_51 : decode YX4_findAcross.2.1 51 = .ok (.aload_n 1, 1) := by decide +kernel
theorem dX4_findAcross_52 : decode YX4_findAcross.2.1 52 = .ok (.aload_n 0, 1) := by decide +kernel
theorem dX4_findAcross_53 : decode YX4_findAcross.2.1 53 = .ok (.getfield 27, 3) := by decide +kernel
theorem dX4_findAcross_56 : decode YX4_findAcross.2.1 56 = .ok (.iload 6, 2) := by decide +kernel
theorem dX4_findAcross_58 : decode YX4_findAcross.2.1 58 = .ok (.aaload, 1) := by decide +kernel
theorem dX4_findAcross_59 : decode YX4_findAcross.2.1 59 = .ok (.iload_n 2, 1) := by decide +kernel
theorem dX4_findAcross_60 : decode YX4_findAcross.2.1 60 = .ok (.iload 6, 2) := by decide +kernel
theorem dX4_findAcross_62 : decode YX4_findAcross.2.1 62 = .ok (.iload 7, 2) := by decide +kernel
theorem dX4_findAcross_64 : decode YX4_findAcross.2.1 64 = .ok (.invokestatic 71, 3) := by decide +kernel
theorem dX4_findAcross_67 : decode YX4_findAcross.2.1 67 = .ok (.iload 4, 2) := by decide +kernel
theorem dX4_findAcross_69 : decode YX4_findAcross.2.1 69 = .ok (.invokevirtual 75, 3) := by decide +kernel
theorem dX4_findAcross_72 : decode YX4_findAcross.2.1 72 = .ok (.istore 8, 2) := by decide +kernel
theorem dX4_findAcross_74 : decode YX4_findAcross.2.1 74 = .ok (.iload 8, 2) := by decide +kernel
theorem dX4_findAcross_76 : decode YX4_findAcross.2.1 76 = .ok (.iload 5, 2) := by decide +kernel
theorem dX4_findAcross_78 : decode YX4_findAcross.2.1 78 = .ok (.if_icmp .ge 39, 3) := by decide +kernel
theorem dX4_findAcross_81 : decode YX4_findAcross.2.1 81 = .ok (.iload 8, 2) := by decide +kernel
theorem dX4_findAcross_83 : decode YX4_findAcross.2.1 83 = .ok (.istore 5, 2) := by decide +kernel
theorem dX4_findAcross_85 : decode YX4_findAcross.2.1 85 = .ok (.aload_n 0, 1) := by decide +kernel
theorem dX4_findAcross_86 : decode YX4_findAcross.2.1 86 = .ok (.iload 4, 2) := by decide +kernel
theorem dX4_findAcross_88 : decode YX4_findAcross.2.1 88 = .ok (.iload 8, 2) := by decide +kernel
theorem dX4_findAcross_90 : decode YX4_findAcross.2.1 90 = .ok (.aload_n 0, 1) := by decide +kernel
theorem dX4_findAcross_91 : decode YX4_findAcross.2.1 91 = .ok (.getfield 27, 3) := by decide +kernel
theorem dX4_findAcross_94 : decode YX4_findAcross.2.1 94 = .ok (.iload 6, 2) := by decide +kernel
theorem dX4_findAcross_96 : decode YX4_findAcross.2.1 96 = .ok (.aaload, 1) := by decide +kernel
theorem dX4_findAcross_97 : decode YX4_findAcross.2.1 97 = .ok (.getfield 66, 3) := by decide +kernel
theorem dX4_findAcross_100 : decode YX4_findAcross.2.1 100 = .ok (.iload 7, 2) := by decide +kernel
theorem dX4_findAcross_102 : decode YX4_findAcross.2.1 102 = .ok (.iaload, 1) := by decide +kernel
theorem dX4_findAcross_103 : decode YX4_findAcross.2.1 103 = .ok (.iload 6, 2) := by decide +kernel
theorem dX4_findAcross_105 : decode YX4_findAcross.2.1 105 = .ok (.invokevirtual 47, 3) := by decide +kernel
theorem dX4_findAcross_108 : decode YX4_findAcross.2.1 108 = .ok (.aload_n 0, 1) := by decide +kernel
theorem dX4_findAcross_109 : decode YX4_findAcross.2.1 109 = .ok (.getfield 21, 3) := by decide +kernel
theorem dX4_findAcross_112 : decode YX4_findAcross.2.1 112 = .ok (.iload 4, 2) := by decide +kernel
theorem dX4_findAcross_114 : decode YX4_findAcross.2.1 114 = .ok (.iload 7, 2) := by decide +kernel
theorem dX4_findAcross_116 : decode YX4_findAcross.2.1 116 = .ok (.iastore, 1) := by decide +kernel
theorem dX4_findAcross_117 : decode YX4_findAcross.2.1 117 = .ok (.iinc 6 1, 3) := by decide +kernel
theorem dX4_findAcross_120 : decode YX4_findAcross.2.1 120 = .ok (.goto (-112), 3) := by decide +kernel
theorem dX4_findAcross_123 : decode YX4_findAcross.2.1 123 = .ok (.return_, 1) := by decide +kernel
theorem dX4_take_0 : decode YX4_take.2.1 0 = .ok (.aload_n 0, 1) := by decide +kernel
theorem dX4_take_1 : decode YX4_take.2.1 1 = .ok (.getfield 9, 3) := by decide +kernel
theorem dX4_take_4 : decode YX4_take.2.1 4 = .ok (.iload_n 1, 1) := by decide +kernel
theorem dX4_take_5 : decode YX4_take.2.1 5 = .ok (.iload_n 2, 1) := by decide +kernel
theorem dX4_take_6 : decode YX4_take.2.1 6 = .ok (.iastore, 1) := by decide +kernel
theorem dX4_take_7 : decode YX4_take.2.1 7 = .ok (.aload_n 0, 1) := by decide +kernel
theorem dX4_take_8 : decode YX4_take.2.1 8 = .ok (.getfield 15, 3) := by decide +kernel
theorem dX4_take_11 : decode YX4_take.2.1 11 = .ok (.iload_n 1, 1) := by decide +kernel
theorem dX4_take_12 : decode YX4_take.2.1 12 = .ok (.iload_n 3, 1) := by decide +kernel
theorem dX4_take_13 : decode YX4_take.2.1 13 = .ok (.iastore, 1) := by decide +kernel
theorem dX4_take_14 : decode YX4_take.2.1 14 = .ok (.aload_n 0, 1) := by decide +kernel
theorem dX4_take_15 : decode YX4_take.2.1 15 = .ok (.getfield 18, 3) := by decide +kernel
theorem dX4_take_18 : decode YX4_take.2.1 18 = .ok (.iload_n 1, 1) := by decide +kernel
theorem dX4_take_19 : decode YX4_take.2.1 19 = .ok (.iload 4, 2) := by decide +kernel
theorem dX4_take_21 : decode YX4_take.2.1 21 = .ok (.iastore, 1) := by decide +kernel
theorem dX4_take_22 : decode YX4_take.2.1 22 = .ok (.return_, 1) := by decide +kernel
theorem dX5_init_0 : decode YX5_init.2.1 0 = .ok (.aload_n 0, 1) := by decide +kernel
theorem dX5_init_1 : decode YX5_init.2.1 1 = .ok (.invokespecial 3, 3) := by decide +kernel
theorem dX5_init_4 : decode YX5_init.2.1 4 = .ok (.aload_n 0, 1) := by decide +kernel
theorem dX5_init_5 : decode YX5_init.2.1 5 = .ok (.iconst 4, 1) := by decide +kernel
theorem dX5_init_6 : decode YX5_init.2.1 6 = .ok (.newarray .int, 2) := by decide +kernel
theorem dX5_init_8 : decode YX5_init.2.1 8 = .ok (.dup, 1) := by decide +kernel
theorem dX5_init_9 : decode YX5_init.2.1 9 = .ok (.iconst 0, 1) := by decide +kernel
theorem dX5_init_10 : decode YX5_init.2.1 10 = .ok (.iconst (-1), 1) := by decide +kernel
theorem dX5_init_11 : decode YX5_init.2.1 11 = .ok (.iastore, 1) := by decide +kernel
theorem dX5_init_12 : decode YX5_init.2.1 12 = .ok (.dup, 1) := by decide +kernel
theorem dX5_init_13 : decode YX5_init.2.1 13 = .ok (.iconst 1, 1) := by decide +kernel
theorem dX5_init_14 : decode YX5_init.2.1 14 = .ok (.iconst (-1), 1) := by decide +kernel
theorem dX5_init_15 : decode YX5_init.2.1 15 = .ok (.iastore, 1) := by decide +kernel
theorem dX5_init_16 : decode YX5_init.2.1 16 = .ok (.dup, 1) := by decide +kernel
theorem dX5_init_17 : decode YX5_init.2.1 17 = .ok (.iconst 2, 1) := by decide +kernel
theorem dX5_init_18 : decode YX5_init.2.1 18 = .ok (.iconst (-1), 1) := by decide +kernel
theorem dX5_init_19 : decode YX5_init.2.1 19 = .ok (.iastore, 1) := by decide +kernel
theorem dX5_init_20 : decode YX5_init.2.1 20 = .ok (.dup, 1) := by decide +kernel
theorem dX5_init_21 : decode YX5_init.2.1 21 = .ok (.iconst 3, 1) := by decide +kernel
theorem dX5_init_22 : decode YX5_init.2.1 22 = .ok (.iconst (-1), 1) := by decide +kernel
theorem dX5_init_23 : decode YX5_init.2.1 23 = .ok (.iastore, 1) := by decide +kernel
theorem dX5_init_24 : decode YX5_init.2.1 24 = .ok (.putfield 9, 3) := by decide +kernel
theorem dX5_init_27 : decode YX5_init.2.1 27 = .ok (.aload_n 0, 1) := by decide +kernel
theorem dX5_init_28 : decode YX5_init.2.1 28 = .ok (.iconst 4, 1) := by decide +kernel
theorem dX5_init_29 : decode YX5_init.2.1 29 = .ok (.newarray .int, 2) := by decide +kernel
theorem dX5_init_31 : decode YX5_init.2.1 31 = .ok (.putfield 15, 3) := by decide +kernel
theorem dX5_init_34 : decode YX5_init.2.1 34 = .ok (.aload_n 0, 1) := by decide +kernel
theorem dX5_init_35 : decode YX5_init.2.1 35 = .ok (.iconst 4, 1) := by decide +kernel
theorem dX5_init_36 : decode YX5_init.2.1 36 = .ok (.bipush 40, 2) := by decide +kernel
theorem dX5_init_38 : decode YX5_init.2.1 38 = .ok (.multianewarray 18 2, 4) := by decide +kernel
theorem dX5_init_42 : decode YX5_init.2.1 42 = .ok (.putfield 20, 3) := by decide +kernel
theorem dX5_init_45 : decode YX5_init.2.1 45 = .ok (.return_, 1) := by decide +kernel
theorem dX5_has_0 : decode YX5_has.2.1 0 = .ok (.iload_n 1, 1) := by decide +kernel
theorem dX5_has_1 : decode YX5_has.2.1 1 = .ok (.ifCond .lt 12, 3) := by decide +kernel
theorem dX5_has_4 : decode YX5_has.2.1 4 = .ok (.iload_n 1, 1) := by decide +kernel
theorem dX5_has_5 : decode YX5_has.2.1 5 = .ok (.iconst 4, 1) := by decide +kernel
theorem dX5_has_6 : decode YX5_has.2.1 6 = .ok (.if_icmp .ge 7, 3) := by decide +kernel
theorem dX5_has_9 : decode YX5_has.2.1 9 = .ok (.iconst 1, 1) := by decide +kernel
theorem dX5_has_10 : decode YX5_has.2.1 10 = .ok (.goto 4, 3) := by decide +kernel
theorem dX5_has_13 : decode YX5_has.2.1 13 = .ok (.iconst 0, 1) := by decide +kernel
theorem dX5_has_14 : decode YX5_has.2.1 14 = .ok (.ireturn, 1) := by decide +kernel
theorem dX5_isMissing_0 : decode YX5_isMissing.2.1 0 = .ok (.aload_n 0, 1) := by decide +kernel
theorem dX5_isMissing_1 : decode YX5_isMissing.2.1 1 = .ok (.getfield 9, 3) := by decide +kernel
theorem dX5_isMissing_4 : decode YX5_isMissing.2.1 4 = .ok (.iload_n 1, 1) := by decide +kernel
theorem dX5_isMissing_5 : decode YX5_isMissing.2.1 5 = .ok (.iaload, 1) := by decide +kernel
theorem dX5_isMissing_6 : decode YX5_isMissing.2.1 6 = .ok (.iconst (-1), 1) := by decide +kernel
theorem dX5_isMissing_7 : decode YX5_isMissing.2.1 7 = .ok (.if_icmp .ne 7, 3) := by decide +kernel
theorem dX5_isMissing_10 : decode YX5_isMissing.2.1 10 = .ok (.iconst 1, 1) := by decide +kernel
theorem dX5_isMissing_11 : decode YX5_isMissing.2.1 11 = .ok (.goto 4, 3) := by decide +kernel
theorem dX5_isMissing_14 : decode YX5_isMissing.2.1 14 = .ok (.iconst 0, 1) := by decide +kernel
theorem dX5_isMissing_15 : decode YX5_isMissing.2.1 15 = .ok (.ireturn, 1) := by decide +kernel
theorem dX5_holds_0 : decode YX5_holds.2.1 0 = .ok (.iload_n 2, 1) := by decide +kernel
theorem dX5_holds_1 : decode YX5_holds.2.1 1 = .ok (.ifCond .lt 33, 3) := by decide +kernel
theorem dX5_holds_4 : decode YX5_holds.2.1 4 = .ok (.iload_n 3, 1) := by decide +kernel
theorem dX5_holds_5 : decode YX5_holds.2.1 5 = .ok (.ifCond .lt 29, 3) := by decide +kernel
theorem dX5_holds_8 : decode YX5_holds.2.1 8 = .ok (.iload_n 3, 1) := by decide +kernel
theorem dX5_holds_9 : decode YX5_holds.2.1 9 = .ok (.aload_n 0, 1) := by decide +kernel
theorem dX5_holds_10 : decode YX5_holds.2.1 10 = .ok (.getfield 15, 3) := by decide +kernel
theorem dX5_holds_13 : decode YX5_holds.2.1 13 = .ok (.iload_n 1, 1) := by decide +kernel
theorem dX5_holds_14 : decode YX5_holds.2.1 14 = .ok (.iaload, 1) := by decide +kernel
theorem dX5_holds_15 : decode YX5_holds.2.1 15 = .ok (.if_icmp .gt 19, 3) := by decide +kernel
theorem dX5_holds_18 : decode YX5_holds.2.1 18 = .ok (.iload_n 2, 1) := by decide +kernel
theorem dX5_holds_19 : decode YX5_holds.2.1 19 = .ok (.aload_n 0, 1) := by decide +kernel
theorem dX5_holds_20 : decode YX5_holds.2.1 20 = .ok (.getfield 15, 3) := by decide +kernel
theorem dX5_holds_23 : decode YX5_holds.2.1 23 = .ok (.iload_n 1, 1) := by decide +kernel
theorem dX5_holds_24 : decode YX5_holds.2.1 24 = .ok (.iaload, 1) := by decide +kernel
theorem dX5_holds_25 : decode YX5_holds.2.1 25 = .ok (.iload_n 3, 1) := by decide +kernel
theorem dX5_holds_26 : decode YX5_holds.2.1 26 = .ok (.isub, 1) := by decide +kernel
theorem dX5_holds_27 : decode YX5_holds.2.1 27 = .ok (.if_icmp .gt 7, 3) := by decide +kernel
theorem dX5_holds_30 : decode YX5_holds.2.1 30 = .ok (.iconst 1, 1) := by decide +kernel
theorem dX5_holds_31 : decode YX5_holds.2.1 31 = .ok (.goto 4, 3) := by decide +kernel
theorem dX5_holds_34 : decode YX5_holds.2.1 34 = .ok (.iconst 0, 1) := by decide +kernel
theorem dX5_holds_35 : decode YX5_holds.2.1 35 = .ok (.ireturn, 1) := by decide +kernel
theorem dX5_become_0 : decode YX5_become.2.1 0 = .ok (.aload_n 0, 1) := by decide +kernel
theorem dX5_become_1 : decode YX5_become.2.1 1 = .ok (.getfield 9, 3) := by decide +kernel
theorem dX5_become_4 : decode YX5_become.2.1 4 = .ok (.iload_n 1, 1) := by decide +kernel
theorem dX5_become_5 : decode YX5_become.2.1 5 = .ok (.iload_n 2, 1) := by decide +kernel
theorem dX5_become_6 : decode YX5_become.2.1 6 = .ok (.iastore, 1) := by decide +kernel
theorem dX5_become_7 : decode YX5_become.2.1 7 = .ok (.aload_n 0, 1) := by decide +kernel
theorem dX5_become_8 : decode YX5_become.2.1 8 = .ok (.getfield 15, 3) := by decide +kernel
theorem dX5_become_11 : decode YX5_become.2.1 11 = .ok (.iload_n 1, 1) := by decide +kernel
theorem dX5_become_12 : decode YX5_become.2.1 12 = .ok (.iload_n 3, 1) := by decide +kernel
theorem dX5_become_13 : decode YX5_become.2.1 13 = .ok (.iastore, 1) := by decide +kernel
theorem dX5_become_14 : decode YX5_become.2.1 14 = .ok (.aload_n 0, 1) := by decide +kernel
theorem dX5_become_15 : decode YX5_become.2.1 15 = .ok (.getfield 20, 3) := by decide +kernel
theorem dX5_become_18 : decode YX5_become.2.1 18 = .ok (.iload_n 1, 1) := by decide +kernel
theorem dX5_become_19 : decode YX5_become.2.1 19 = .ok (.aaload, 1) := by decide +kernel
theorem dX5_become_20 : decode YX5_become.2.1 20 = .ok (.iconst 0, 1) := by decide +kernel
theorem dX5_become_21 : decode YX5_become.2.1 21 = .ok (.invokestatic 23, 3) := by decide +kernel
theorem dX5_become_24 : decode YX5_become.2.1 24 = .ok (.return_, 1) := by decide +kernel
theorem dX5_put_0 : decode YX5_put.2.1 0 = .ok (.aload_n 0, 1) := by decide +kernel
theorem dX5_put_1 : decode YX5_put.2.1 1 = .ok (.getfield 20, 3) := by decide +kernel
theorem dX5_put_4 : decode YX5_put.2.1 4 = .ok (.iload_n 1, 1) := by decide +kernel
theorem dX5_put_5 : decode YX5_put.2.1 5 = .ok (.aaload, 1) := by decide +kernel
theorem dX5_put_6 : decode YX5_put.2.1 6 = .ok (.iload_n 2, 1) := by decide +kernel
theorem dX5_put_7 : decode YX5_put.2.1 7 = .ok (.aload_n 0, 1) := by decide +kernel
theorem dX5_put_8 : decode YX5_put.2.1 8 = .ok (.getfield 9, 3) := by decide +kernel
theorem dX5_put_11 : decode YX5_put.2.1 11 = .ok (.iload_n 1, 1) := by decide +kernel
theorem dX5_put_12 : decode YX5_put.2.1 12 = .ok (.iaload, 1) := by decide +kernel
theorem dX5_put_13 : decode YX5_put.2.1 13 = .ok (.ifCond .ne 8, 3) := by decide +kernel
theorem dX5_put_16 : decode YX5_put.2.1 16 = .ok (.iload_n 3, 1) := by decide +kernel
theorem dX5_put_17 : decode YX5_put.2.1 17 = .ok (.i2s, 1) := by decide +kernel
theorem dX5_put_18 : decode YX5_put.2.1 18 = .ok (.goto 4, 3) := by decide +kernel
theorem dX5_put_21 : decode YX5_put.2.1 21 = .ok (.iload_n 3, 1) := by decide +kernel
theorem dX5_put_22 : decode YX5_put.2.1 22 = .ok (.iastore, 1) := by decide +kernel
theorem dX5_put_23 : decode YX5_put.2.1 23 = .ok (.return_, 1) := by decide +kernel
theorem dX6_init_0 : decode YX6_init.2.1 0 = .ok (.aload_n 0, 1) := by decide +kernel
theorem dX6_init_1 : decode YX6_init.2.1 1 = .ok (.invokespecial 3, 3) := by decide +kernel
theorem dX6_init_4 : decode YX6_init.2.1 4 = .ok (.aload_n 0, 1) := by decide +kernel
theorem dX6_init_5 : decode YX6_init.2.1 5 = .ok (.bipush 9, 2) := by decide +kernel
theorem dX6_init_7 : decode YX6_init.2.1 7 = .ok (.newarray .int, 2) := by decide +kernel
theorem dX6_init_9 : decode YX6_init.2.1 9 = .ok (.putfield 9, 3) := by decide +kernel
theorem dX6_init_12 : decode YX6_init.2.1 12 = .ok (.return_, 1) := by decide +kernel
theorem dX6_go_0 : decode YX6_go.2.1 0 = .ok (.aload_n 0, 1) := by decide +kernel
theorem dX6_go_1 : decode YX6_go.2.1 1 = .ok (.iconst 0, 1) := by decide +kernel
theorem dX6_go_2 : decode YX6_go.2.1 2 = .ok (.putfield 15, 3) := by decide +kernel
theorem dX6_go_5 : decode YX6_go.2.1 5 = .ok (.aload_n 0, 1) := by decide +kernel
theorem dX6_go_6 : decode YX6_go.2.1 6 = .ok (.iconst 0, 1) := by decide +kernel
theorem dX6_go_7 : decode YX6_go.2.1 7 = .ok (.putfield 19, 3) := by decide +kernel
theorem dX6_go_10 : decode YX6_go.2.1 10 = .ok (.aload_n 0, 1) := by decide +kernel
theorem dX6_go_11 : decode YX6_go.2.1 11 = .ok (.iconst 0, 1) := by decide +kernel
theorem dX6_go_12 : decode YX6_go.2.1 12 = .ok (.putfield 22, 3) := by decide +kernel
theorem dX6_go_15 : decode YX6_go.2.1 15 = .ok (.aload_n 0, 1) := by decide +kernel
theorem dX6_go_16 : decode YX6_go.2.1 16 = .ok (.getfield 9, 3) := by decide +kernel
theorem dX6_go_19 : decode YX6_go.2.1 19 = .ok (.iconst (-1), 1) := by decide +kernel
theorem dX6_go_20 : decode YX6_go.2.1 20 = .ok (.invokestatic 25, 3) := by decide +kernel
theorem dX6_go_23 : decode YX6_go.2.1 23 = .ok (.iload_n 3, 1) := by decide +kernel
theorem dX6_go_24 : decode YX6_go.2.1 24 = .ok (.istore 5, 2) := by decide +kernel
theorem dX6_go_26 : decode YX6_go.2.1 26 = .ok (.iconst 0, 1) := by decide +kernel
theorem dX6_go_27 : decode YX6_go.2.1 27 = .ok (.istore 6, 2) := by decide +kernel
theorem dX6_go_29 : decode YX6_go.2.1 29 = .ok (.iload 6, 2) := by decide +kernel
theorem dX6_go_31 : decode YX6_go.2.1 31 = .ok (.bipush 9, 2) := by decide +kernel
theorem dX6_go_33 : decode YX6_go.2.1 33 = .ok (.if_icmp .ge 110, 3) := by decide +kernel
theorem dX6_go_36 : decode YX6_go.2.1 36 = .ok (.iload 5, 2) := by decide +kernel
theorem dX6_go_38 : decode YX6_go.2.1 38 = .ok (.iload 4, 2) := by decide +kernel
theorem dX6_go_40 : decode YX6_go.2.1 40 = .ok (.if_icmp .eq 103, 3) := by decide +kernel
theorem dX6_go_43 : decode YX6_go.2.1 43 = .ok (.aload_n 2, 1) := by decide +kernel
theorem dX6_go_44 : decode YX6_go.2.1 44 = .ok (.aload_n 1, 1) := by decide +kernel
theorem dX6_go_45 : decode YX6_go.2.1 45 = .ok (.iload 5, 2) := by decide +kernel
theorem dX6_go_47 : decode YX6_go.2.1 47 = .ok (.invokevirtual 31, 3) := by decide +kernel
theorem dX6_go_50 : decode YX6_go.2.1 50 = .ok (.aload_n 2, 1) := by decide +kernel
theorem dX6_go_51 : decode YX6_go.2.1 51 = .ok (.getfield 37, 3) := by decide +kernel
theorem dX6_go_54 : decode YX6_go.2.1 54 = .ok (.iload 4, 2) := by decide +kernel
theorem dX6_go_56 : decode YX6_go.2.1 56 = .ok (.iaload, 1) := by decide +kernel
theorem dX6_go_57 : decode YX6_go.2.1 57 = .ok (.istore 7, 2) := by decide +kernel
theorem dX6_go_59 : decode YX6_go.2.1 59 = .ok (.iload 7, 2) := by decide +kernel
theorem dX6_go_61 : decode YX6_go.2.1 61 = .ok (.iconst (-1), 1) := by decide +kernel
theorem dX6_go_62 : decode YX6_go.2.1 62 = .ok (.if_icmp .ne 7, 3) := by decide +kernel
theorem dX6_go_65 : decode YX6_go.2.1 65 = .ok (.iconst (-1), 1) := by decide +kernel
theorem dX6_go_66 : decode YX6_go.2.1 66 = .ok (.goto 21, 3) := by decide +kernel
theorem dX6_go_69 : decode YX6_go.2.1 69 = .ok (.aload_n 1, 1) := by decide +kernel
theorem dX6_go_70 : decode YX6_go.2.1 70 = .ok (.getfield 40, 3) := by decide +kernel
theorem dX6_go_73 : decode YX6_go.2.1 73 = .ok (.iload 5, 2) := by decide +kernel
theorem dX6_go_75 : decode YX6_go.2.1 75 = .ok (.iload 7, 2) := by decide +kernel
theorem dX6_go_77 : decode YX6_go.2.1 77 = .ok (.aload_n 2, 1) := by decide +kernel
theorem dX6_go_78 : decode YX6_go.2.1 78 = .ok (.getfield 46, 3) := by decide +kernel
theorem dX6_go_81 : decode YX6_go.2.1 81 = .ok (.iload 4, 2) := by decide +kernel
theorem dX6_go_83 : decode YX6_go.2.1 83 = .ok (.iaload, 1) := by decide +kernel
theorem dX6_go_84 : decode YX6_go.2.1 84 = .ok (.invokevirtual 49, 3) := by decide +kernel
theorem dX6_go_87 : decode YX6_go.2.1 87 = .ok (.istore 8, 2) := by decide +kernel
theorem dX6_go_89 : decode YX6_go.2.1 89 = .ok (.iload 8, 2) := by decide +kernel
theorem dX6_go_91 : decode YX6_go.2.1 91 = .ok (.iconst (-1), 1) := by decide +kernel
theorem dX6_go_92 : decode YX6_go.2.1 92 = .ok (.if_icmp .ne 4, 3) := by decide +kernel
theorem dX6_go_95 : decode YX6_go.2.1 95 = .ok (.return_, 1) := by decide +kernel
theorem dX6_go_96 : decode YX6_go.2.1 96 = .ok (.aload_n 0, 1) := by decide +kernel
theorem dX6_go_97 : decode YX6_go.2.1 97 = .ok (.dup, 1) := by decide +kernel
theorem dX6_go_98 : decode YX6_go.2.1 98 = .ok (.getfield 22, 3) := by decide +kernel
theorem dX6_go_101 : decode YX6_go.2.1 101 = .ok (.aload_n 1, 1) := by decide +kernel
theorem dX6_go_102 : decode YX6_go.2.1 102 = .ok (.getfield 40, 3) := by decide +kernel
theorem dX6_go_105 : decode YX6_go.2.1 105 = .ok (.iload 8, 2) := by decide +kernel
theorem dX6_go_107 : decode YX6_go.2.1 107 = .ok (.iload 5, 2) := by decide +kernel
theorem dX6_go_109 : decode YX6_go.2.1 109 = .ok (.invokevirtual 55, 3) := by decide +kernel
theorem dX6_go_112 : decode YX6_go.2.1 112 = .ok (.iadd, 1) := by decide +kernel
theorem dX6_go_113 : decode YX6_go.2.1 113 = .ok (.putfield 22, 3) := by decide +kernel
theorem dX6_go_116 : decode YX6_go.2.1 116 = .ok (.iload 7, 2) := by decide +kernel
theorem dX6_go_118 : decode YX6_go.2.1 118 = .ok (.istore 5, 2) := by decide +kernel
theorem dX6_go_120 : decode YX6_go.2.1 120 = .ok (.aload_n 0, 1) := by decide +kernel
theorem dX6_go_121 : decode YX6_go.2.1 121 = .ok (.getfield 9, 3) := by decide +kernel
theorem dX6_go_124 : decode YX6_go.2.1 124 = .ok (.iload 6, 2) := by decide +kernel
theorem dX6_go_126 : decode YX6_go.2.1 126 = .ok (.iload 5, 2) := by decide +kernel
theorem dX6_go_128 : decode YX6_go.2.1 128 = .ok (.iastore, 1) := by decide +kernel
theorem dX6_go_129 : decode YX6_go.2.1 129 = .ok (.aload_n 0, 1) := by decide +kernel
theorem dX6_go_130 : decode YX6_go.2.1 130 = .ok (.iload 6, 2) := by decide +kernel
theorem dX6_go_132 : decode YX6_go.2.1 132 = .ok (.iconst 1, 1) := by decide +kernel
theorem dX6_go_133 : decode YX6_go.2.1 133 = .ok (.iadd, 1) := by decide +kernel
theorem dX6_go_134 : decode YX6_go.2.1 134 = .ok (.putfield 19, 3) := by decide +kernel
theorem dX6_go_137 : decode YX6_go.2.1 137 = .ok (.iinc 6 1, 3) := by decide +kernel
theorem dX6_go_140 : decode YX6_go.2.1 140 = .ok (.goto (-111), 3) := by decide +kernel
theorem dX6_go_143 : decode YX6_go.2.1 143 = .ok (.aload_n 0, 1) := by decide +kernel
theorem dX6_go_144 : decode YX6_go.2.1 144 = .ok (.iload 5, 2) := by decide +kernel
theorem dX6_go_146 : decode YX6_go.2.1 146 = .ok (.iload 4, 2) := by decide +kernel
theorem dX6_go_148 : decode YX6_go.2.1 148 = .ok (.if_icmp .ne 7, 3) := by decide +kernel
theorem dX6_go_151 : decode YX6_go.2.1 151 = .ok (.iconst 1, 1) := by decide +kernel
theorem dX6_go_152 : decode YX6_go.2.1 152 = .ok (.goto 4, 3) := by decide +kernel
theorem dX6_go_155 : decode YX6_go.2.1 155 = .ok (.iconst 2, 1) := by decide +kernel
theorem dX6_go_156 : decode YX6_go.2.1 156 = .ok (.putfield 15, 3) := by decide +kernel
theorem dX6_go_159 : decode YX6_go.2.1 159 = .ok (.return_, 1) := by decide +kernel
theorem dX7_init_0 : decode YX7_init.2.1 0 = .ok (.aload_n 0, 1) := by decide +kernel
theorem dX7_init_1 : decode YX7_init.2.1 1 = .ok (.invokespecial 1, 3) := by decide +kernel
theorem dX7_init_4 : decode YX7_init.2.1 4 = .ok (.aload_n 0, 1) := by decide +kernel
theorem dX7_init_5 : decode YX7_init.2.1 5 = .ok (.new 7, 3) := by decide +kernel
theorem dX7_init_8 : decode YX7_init.2.1 8 = .ok (.dup, 1) := by decide +kernel
theorem dX7_init_9 : decode YX7_init.2.1 9 = .ok (.invokespecial 9, 3) := by decide +kernel
theorem dX7_init_12 : decode YX7_init.2.1 12 = .ok (.putfield 10, 3) := by decide +kernel
theorem dX7_init_15 : decode YX7_init.2.1 15 = .ok (.aload_n 0, 1) := by decide +kernel
theorem dX7_init_16 : decode YX7_init.2.1 16 = .ok (.new 7, 3) := by decide +kernel
theorem dX7_init_19 : decode YX7_init.2.1 19 = .ok (.dup, 1) := by decide +kernel
theorem dX7_init_20 : decode YX7_init.2.1 20 = .ok (.invokespecial 9, 3) := by decide +kernel
theorem dX7_init_23 : decode YX7_init.2.1 23 = .ok (.putfield 16, 3) := by decide +kernel
theorem dX7_init_26 : decode YX7_init.2.1 26 = .ok (.aload_n 0, 1) := by decide +kernel
theorem dX7_init_27 : decode YX7_init.2.1 27 = .ok (.new 7, 3) := by decide +kernel
theorem dX7_init_30 : decode YX7_init.2.1 30 = .ok (.dup, 1) := by decide +kernel
theorem dX7_init_31 : decode YX7_init.2.1 31 = .ok (.invokespecial 9, 3) := by decide +kernel
theorem dX7_init_34 : decode YX7_init.2.1 34 = .ok (.putfield 19, 3) := by decide +kernel
theorem dX7_init_37 : decode YX7_init.2.1 37 = .ok (.aload_n 0, 1) := by decide +kernel
theorem dX7_init_38 : decode YX7_init.2.1 38 = .ok (.new 22, 3) := by decide +kernel
theorem dX7_init_41 : decode YX7_init.2.1 41 = .ok (.dup, 1) := by decide +kernel
theorem dX7_init_42 : decode YX7_init.2.1 42 = .ok (.invokespecial 24, 3) := by decide +kernel
theorem dX7_init_45 : decode YX7_init.2.1 45 = .ok (.putfield 25, 3) := by decide +kernel
theorem dX7_init_48 : decode YX7_init.2.1 48 = .ok (.aload_n 0, 1) := by decide +kernel
theorem dX7_init_49 : decode YX7_init.2.1 49 = .ok (.new 29, 3) := by decide +kernel
theorem dX7_init_52 : decode YX7_init.2.1 52 = .ok (.dup, 1) := by decide +kernel
theorem dX7_init_53 : decode YX7_init.2.1 53 = .ok (.invokespecial 31, 3) := by decide +kernel
theorem dX7_init_56 : decode YX7_init.2.1 56 = .ok (.putfield 32, 3) := by decide +kernel
theorem dX7_init_59 : decode YX7_init.2.1 59 = .ok (.aload_n 0, 1) := by decide +kernel
theorem dX7_init_60 : decode YX7_init.2.1 60 = .ok (.new 36, 3) := by decide +kernel
theorem dX7_init_63 : decode YX7_init.2.1 63 = .ok (.dup, 1) := by decide +kernel
theorem dX7_init_64 : decode YX7_init.2.1 64 = .ok (.invokespecial 38, 3) := by decide +kernel
theorem dX7_init_67 : decode YX7_init.2.1 67 = .ok (.putfield 39, 3) := by decide +kernel
theorem dX7_init_70 : decode YX7_init.2.1 70 = .ok (.return_, 1) := by decide +kernel
theorem dX7_link_0 : decode YX7_link.2.1 0 = .ok (.iload_n 1, 1) := by decide +kernel
theorem dX7_link_1 : decode YX7_link.2.1 1 = .ok (.invokestatic 43, 3) := by decide +kernel
theorem dX7_link_4 : decode YX7_link.2.1 4 = .ok (.ifCond .eq 22, 3) := by decide +kernel
theorem dX7_link_7 : decode YX7_link.2.1 7 = .ok (.iload_n 2, 1) := by decide +kernel
theorem dX7_link_8 : decode YX7_link.2.1 8 = .ok (.invokestatic 43, 3) := by decide +kernel
theorem dX7_link_11 : decode YX7_link.2.1 11 = .ok (.ifCond .eq 15, 3) := by decide +kernel
theorem dX7_link_14 : decode YX7_link.2.1 14 = .ok (.iload_n 1, 1) := by decide +kernel
theorem dX7_link_15 : decode YX7_link.2.1 15 = .ok (.iload_n 2, 1) := by decide +kernel
theorem dX7_link_16 : decode YX7_link.2.1 16 = .ok (.if_icmp .eq 10, 3) := by decide +kernel
theorem dX7_link_19 : decode YX7_link.2.1 19 = .ok (.iload_n 3, 1) := by decide +kernel
theorem dX7_link_20 : decode YX7_link.2.1 20 = .ok (.invokestatic 47, 3) := by decide +kernel
theorem dX7_link_23 : decode YX7_link.2.1 23 = .ok (.ifCond .ne 6, 3) := by decide +kernel
theorem dX7_link_26 : decode YX7_link.2.1 26 = .ok (.bipush (-2), 2) := by decide +kernel
theorem dX7_link_28 : decode YX7_link.2.1 28 = .ok (.ireturn, 1) := by decide +kernel
theorem dX7_link_29 : decode YX7_link.2.1 29 = .ok (.iload 4, 2) := by decide +kernel
theorem dX7_link_31 : decode YX7_link.2.1 31 = .ok (.invokestatic 50, 3) := by decide +kernel
theorem dX7_link_34 : decode YX7_link.2.1 34 = .ok (.ifCond .eq 11, 3) := by decide +kernel
theorem dX7_link_37 : decode YX7_link.2.1 37 = .ok (.iload 5, 2) := by decide +kernel
theorem dX7_link_39 : decode YX7_link.2.1 39 = .ok (.invokestatic 50, 3) := by decide +kernel
theorem dX7_link_42 : decode YX7_link.2.1 42 = .ok (.ifCond .ne 6, 3) := by decide +kernel
theorem dX7_link_45 : decode YX7_link.2.1 45 = .ok (.bipush (-2), 2) := by decide +kernel
theorem dX7_link_47 : decode YX7_link.2.1 47 = .ok (.ireturn, 1) := by decide +kernel
theorem dX7_link_48 : decode YX7_link.2.1 48 = .ok (.aload_n 0, 1) := by decide +kernel
theorem dX7_link_49 : decode YX7_link.2.1 49 = .ok (.getfield 10, 3) := by decide +kernel
theorem dX7_link_52 : decode YX7_link.2.1 52 = .ok (.getfield 53, 3) := by decide +kernel
theorem dX7_link_55 : decode YX7_link.2.1 55 = .ok (.getfield 57, 3) := by decide +kernel
theorem dX7_link_58 : decode YX7_link.2.1 58 = .ok (.bipush 12, 2) := by decide +kernel
theorem dX7_link_60 : decode YX7_link.2.1 60 = .ok (.if_icmp .lt 6, 3) := by decide +kernel
theorem dX7_link_63 : decode YX7_link.2.1 63 = .ok (.bipush (-4), 2) := by decide +kernel
theorem dX7_link_65 : decode YX7_link.2.1 65 = .ok (.ireturn, 1) := by decide +kernel
theorem dX7_link_66 : decode YX7_link.2.1 66 = .ok (.aload_n 0, 1) := by decide +kernel
theorem dX7_link_67 : decode YX7_link.2.1 67 = .ok (.getfield 10, 3) := by decide +kernel
theorem dX7_link_70 : decode YX7_link.2.1 70 = .ok (.getfield 53, 3) := by decide +kernel
theorem dX7_link_73 : decode YX7_link.2.1 73 = .ok (.iload_n 1, 1) := by decide +kernel
theorem dX7_link_74 : decode YX7_link.2.1 74 = .ok (.iload_n 2, 1) := by decide +kernel
theorem dX7_link_75 : decode YX7_link.2.1 75 = .ok (.iload_n 3, 1) := by decide +kernel
theorem dX7_link_76 : decode YX7_link.2.1 76 = .ok (.iload 4, 2) := by decide +kernel
theorem dX7_link_78 : decode YX7_link.2.1 78 = .ok (.iload 5, 2) := by decide +kernel
theorem dX7_link_80 : decode YX7_link.2.1 80 = .ok (.invokevirtual 63, 3) := by decide +kernel
theorem dX7_link_83 : decode YX7_link.2.1 83 = .ok (.ireturn, 1) := by decide +kernel
theorem dX7_set_0 : decode YX7_set.2.1 0 = .ok (.aload_n 0, 1) := by decide +kernel
theorem dX7_set_1 : decode YX7_set.2.1 1 = .ok (.getfield 10, 3) := by decide +kernel
theorem dX7_set_4 : decode YX7_set.2.1 4 = .ok (.getfield 53, 3) := by decide +kernel
theorem dX7_set_7 : decode YX7_set.2.1 7 = .ok (.iload_n 1, 1) := by decide +kernel
theorem dX7_set_8 : decode YX7_set.2.1 8 = .ok (.invokevirtual 67, 3) := by decide +kernel
theorem dX7_set_11 : decode YX7_set.2.1 11 = .ok (.ifCond .eq 12, 3) := by decide +kernel
theorem dX7_set_14 : decode YX7_set.2.1 14 = .ok (.iload_n 2, 1) := by decide +kernel
theorem dX7_set_15 : decode YX7_set.2.1 15 = .ok (.ifCond .lt 8, 3) := by decide +kernel
theorem dX7_set_18 : decode YX7_set.2.1 18 = .ok (.iload_n 2, 1) := by decide +kernel
theorem dX7_set_19 : decode YX7_set.2.1 19 = .ok (.iconst 1, 1) := by decide +kernel
theorem dX7_set_20 : decode YX7_set.2.1 20 = .ok (.if_icmp .le 6, 3) := by decide +kernel
theorem dX7_set_23 : decode YX7_set.2.1 23 = .ok (.bipush (-2), 2) := by decide +kernel
theorem dX7_set_25 : decode YX7_set.2.1 25 = .ok (.ireturn, 1) := by decide +kernel
theorem dX7_set_26 : decode YX7_set.2.1 26 = .ok (.aload_n 0, 1) := by decide +kernel
theorem dX7_set_27 : decode YX7_set.2.1 27 = .ok (.getfield 10, 3) := by decide +kernel
theorem dX7_set_30 : decode YX7_set.2.1 30 = .ok (.getfield 53, 3) := by decide +kernel
theorem dX7_set_33 : decode YX7_set.2.1 33 = .ok (.getfield 70, 3) := by decide +kernel
theorem dX7_set_36 : decode YX7_set.2.1 36 = .ok (.iload_n 1, 1) := by decide +kernel
theorem dX7_set_37 : decode YX7_set.2.1 37 = .ok (.baload, 1) := by decide +kernel
theorem dX7_set_38 : decode YX7_set.2.1 38 = .ok (.ifCond .eq 7, 3) := by decide +kernel
theorem dX7_set_41 : decode YX7_set.2.1 41 = .ok (.iconst 1, 1) := by decide +kernel
theorem dX7_set_42 : decode YX7_set.2.1 42 = .ok (.goto 4, 3) := by decide +kernel
theorem dX7_set_45 : decode YX7_set.2.1 45 = .ok (.iconst 0, 1) := by decide +kernel
theorem dX7_set_46 : decode YX7_set.2.1 46 = .ok (.istore_n 3, 1) := by decide +kernel
theorem dX7_set_47 : decode YX7_set.2.1 47 = .ok (.aload_n 0, 1) := by decide +kernel
theorem dX7_set_48 : decode YX7_set.2.1 48 = .ok (.getfield 10, 3) := by decide +kernel
theorem dX7_set_51 : decode YX7_set.2.1 51 = .ok (.getfield 53, 3) := by decide +kernel
theorem dX7_set_54 : decode YX7_set.2.1 54 = .ok (.getfield 70, 3) := by decide +kernel
theorem dX7_set_57 : decode YX7_set.2.1 57 = .ok (.iload_n 1, 1) := by decide +kernel
theorem dX7_set_58 : decode YX7_set.2.1 58 = .ok (.iload_n 2, 1) := by decide +kernel
theorem dX7_set_59 : decode YX7_set.2.1 59 = .ok (.iconst 1, 1) := by decide +kernel
theorem dX7_set_60 : decode YX7_set.2.1 60 = .ok (.if_icmp .ne 7, 3) := by decide +kernel
theorem dX7_set_63 : decode YX7_set.2.1 63 = .ok (.iconst 1, 1) := by decide +kernel
theorem dX7_set_64 : decode YX7_set.2.1 64 = .ok (.goto 4, 3) := by decide +kernel
theorem dX7_set_67 : decode YX7_set.2.1 67 = .ok (.iconst 0, 1) := by decide +kernel
theorem dX7_set_68 : decode YX7_set.2.1 68 = .ok (.bastore, 1) := by decide +kernel
theorem dX7_set_69 : decode YX7_set.2.1 69 = .ok (.iload_n 3, 1) := by decide +kernel
theorem dX7_set_70 : decode YX7_set.2.1 70 = .ok (.ireturn, 1) := by decide +kernel
theorem dX7_cost_0 : decode YX7_cost.2.1 0 = .ok (.aload_n 0, 1) := by decide +kernel
theorem dX7_cost_1 : decode YX7_cost.2.1 1 = .ok (.getfield 10, 3) := by decide +kernel
theorem dX7_cost_4 : decode YX7_cost.2.1 4 = .ok (.getfield 53, 3) := by decide +kernel
theorem dX7_cost_7 : decode YX7_cost.2.1 7 = .ok (.iload_n 1, 1) := by decide +kernel
theorem dX7_cost_8 : decode YX7_cost.2.1 8 = .ok (.invokevirtual 67, 3) := by decide +kernel
theorem dX7_cost_11 : decode YX7_cost.2.1 11 = .ok (.ifCond .eq 19, 3) := by decide +kernel
theorem dX7_cost_14 : decode YX7_cost.2.1 14 = .ok (.iload_n 2, 1) := by decide +kernel
theorem dX7_cost_15 : decode YX7_cost.2.1 15 = .ok (.ifCond .lt 15, 3) := by decide +kernel
theorem dX7_cost_18 : decode YX7_cost.2.1 18 = .ok (.iload_n 2, 1) := by decide +kernel
theorem dX7_cost_19 : decode YX7_cost.2.1 19 = .ok (.iconst 1, 1) := by decide +kernel
theorem dX7_cost_20 : decode YX7_cost.2.1 20 = .ok (.if_icmp .gt 10, 3) := by decide +kernel
theorem dX7_cost_23 : decode YX7_cost.2.1 23 = .ok (.iload_n 3, 1) := by decide +kernel
theorem dX7_cost_24 : decode YX7_cost.2.1 24 = .ok (.invokestatic 50, 3) := by decide +kernel
theorem dX7_cost_27 : decode YX7_cost.2.1 27 = .ok (.ifCond .ne 6, 3) := by decide +kernel
theorem dX7_cost_30 : decode YX7_cost.2.1 30 = .ok (.bipush (-2), 2) := by decide +kernel
theorem dX7_cost_32 : decode YX7_cost.2.1 32 = .ok (.ireturn, 1) := by decide +kernel
theorem dX7_cost_33 : decode YX7_cost.2.1 33 = .ok (.iload_n 2, 1) := by decide +kernel
theorem dX7_cost_34 : decode YX7_cost.2.1 34 = .ok (.ifCond .ne 16, 3) := by decide +kernel
theorem dX7_cost_37 : decode YX7_cost.2.1 37 = .ok (.aload_n 0, 1) := by decide +kernel
theorem dX7_cost_38 : decode YX7_cost.2.1 38 = .ok (.getfield 10, 3) := by decide +kernel
theorem dX7_cost_41 : decode YX7_cost.2.1 41 = .ok (.getfield 53, 3) := by decide +kernel
theorem dX7_cost_44 : decode YX7_cost.2.1 44 = .ok (.getfield 74, 3) := by decide +kernel
theorem dX7_cost_47 : decode YX7_cost.2.1 47 = .ok (.goto 13, 3) := by decide +kernel
theorem dX7_cost_50 : decode YX7_cost.2.1 50 = .ok (.aload_n 0, 1) := by decide +kernel
theorem dX7_cost_51 : decode YX7_cost.2.1 51 = .ok (.getfield 10, 3) := by decide +kernel
theorem dX7_cost_54 : decode YX7_cost.2.1 54 = .ok (.getfield 53, 3) := by decide +kernel
theorem dX7_cost_57 : decode YX7_cost.2.1 57 = .ok (.getfield 78, 3) := by decide +kernel
theorem dX7_cost_60 : decode YX7_cost.2.1 60 = .ok (.astore 4, 2) := by decide +kernel
theorem dX7_cost_62 : decode YX7_cost.2.1 62 = .ok (.aload 4, 2) := by decide +kernel
theorem dX7_cost_64 : decode YX7_cost.2.1 64 = .ok (.iload_n 1, 1) := by decide +kernel
theorem dX7_cost_65 : decode YX7_cost.2.1 65 = .ok (.iaload, 1) := by decide +kernel
theorem dX7_cost_66 : decode YX7_cost.2.1 66 = .ok (.istore 5, 2) := by decide +kernel
theorem dX7_cost_68 : decode YX7_cost.2.1 68 = .ok (.aload 4, 2) := by decide +kernel
theorem dX7_cost_70 : decode YX7_cost.2.1 70 = .ok (.iload_n 1, 1) := by decide +kernel
theorem dX7_cost_71 : decode YX7_cost.2.1 71 = .ok (.iload_n 3, 1) := by decide +kernel
theorem dX7_cost_72 : decode YX7_cost.2.1 72 = .ok (.iastore, 1) := by decide +kernel
theorem dX7_cost_73 : decode YX7_cost.2.1 73 = .ok (.iload 5, 2) := by decide +kernel
theorem dX7_cost_75 : decode YX7_cost.2.1 75 = .ok (.ireturn, 1) := by decide +kernel
theorem dX7_told_0 : decode YX7_told.2.1 0 = .ok (.aload_n 0, 1) := by decide +kernel
theorem dX7_told_1 : decode YX7_told.2.1 1 = .ok (.getfield 10, 3) := by decide +kernel
theorem dX7_told_4 : decode YX7_told.2.1 4 = .ok (.getfield 53, 3) := by decide +kernel
theorem dX7_told_7 : decode YX7_told.2.1 7 = .ok (.astore_n 3, 1) := by decide +kernel
theorem dX7_told_8 : decode YX7_told.2.1 8 = .ok (.aload_n 3, 1) := by decide +kernel
theorem dX7_told_9 : decode YX7_told.2.1 9 = .ok (.iload_n 1, 1) := by decide +kernel
theorem dX7_told_10 : decode YX7_told.2.1 10 = .ok (.invokevirtual 67, 3) := by decide +kernel
theorem dX7_told_13 : decode YX7_told.2.1 13 = .ok (.ifCond .ne 6, 3) := by decide +kernel
theorem dX7_told_16 : decode YX7_told.2.1 16 = .ok (.bipush (-2), 2) := by decide +kernel
theorem dX7_told_18 : decode YX7_told.2.1 18 = .ok (.ireturn, 1) := by decide +kernel
theorem dX7_told_19 : decode YX7_told.2.1 19 = .ok (.iload_n 2, 1) := by decide +kernel
theorem dX7_told_20 : decode YX7_told.2.1 20 = .ok (.tableswitch 90 0 5 #[40, 47, 54, 61, 68, 75], 40) := by decide +kernel
theorem dX7_told_60 : decode YX7_told.2.1 60 = .ok (.aload_n 3, 1) := by decide +kernel
theorem dX7_told_61 : decode YX7_told.2.1 61 = .ok (.getfield 81, 3) := by decide +kernel
theorem dX7_told_64 : decode YX7_told.2.1 64 = .ok (.iload_n 1, 1) := by decide +kernel
theorem dX7_told_65 : decode YX7_told.2.1 65 = .ok (.iaload, 1) := by decide +kernel
theorem dX7_told_66 : decode YX7_told.2.1 66 = .ok (.ireturn, 1) := by decide +kernel
theorem dX7_told_67 : decode YX7_told.2.1 67 = .ok (.aload_n 3, 1) := by decide +kernel
theorem dX7_told_68 : decode YX7_told.2.1 68 = .ok (.getfield 84, 3) := by decide +kernel
theorem dX7_told_71 : decode YX7_told.2.1 71 = .ok (.iload_n 1, 1) := by decide +kernel
theorem dX7_told_72 : decode YX7_told.2.1 72 = .ok (.iaload, 1) := by decide +kernel
theorem dX7_told_73 : decode YX7_told.2.1 73 = .ok (.ireturn, 1) := by decide +kernel
theorem dX7_told_74 : decode YX7_told.2.1 74 = .ok (.aload_n 3, 1) := by decide +kernel
theorem dX7_told_75 : decode YX7_told.2.1 75 = .ok (.getfield 87, 3) := by decide +kernel
theorem dX7_told_78 : decode YX7_told.2.1 78 = .ok (.iload_n 1, 1) := by decide +kernel
theorem dX7_told_79 : decode YX7_told.2.1 79 = .ok (.iaload, 1) := by decide +kernel
theorem dX7_told_80 : decode YX7_told.2.1 80 = .ok (.ireturn, 1) := by decide +kernel
theorem dX7_told_81 : decode YX7_told.2.1 81 = .ok (.aload_n 3, 1) := by decide +kernel
theorem dX7_told_82 : decode YX7_told.2.1 82 = .ok (.getfield 74, 3) := by decide +kernel
theorem dX7_told_85 : decode YX7_told.2.1 85 = .ok (.iload_n 1, 1) := by decide +kernel
theorem dX7_told_86 : decode YX7_told.2.1 86 = .ok (.iaload, 1) := by decide +kernel
theorem dX7_told_87 : decode YX7_told.2.1 87 = .ok (.ireturn, 1) := by decide +kernel
theorem dX7_told_88 : decode YX7_told.2.1 88 = .ok (.aload_n 3, 1) := by decide +kernel
theorem dX7_told_89 : decode YX7_told.2.1 89 = .ok (.getfield 78, 3) := by decide +kernel
theorem dX7_told_92 : decode YX7_told.2.1 92 = .ok (.iload_n 1, 1) := by decide +kernel
theorem dX7_told_93 : decode YX7_told.2.1 93 = .ok (.iaload, 1) := by decide +kernel
theorem dX7_told_94 : decode YX7_told.2.1 94 = .ok (.ireturn, 1) := by decide +kernel
theorem dX7_told_95 : decode YX7_told.2.1 95 = .ok (.aload_n 3, 1) := by decide +kernel
theorem dX7_told_96 : decode YX7_told.2.1 96 = .ok (.getfield 70, 3) := by decide +kernel
theorem dX7_told_99 : decode YX7_told.2.1 99 = .ok (.iload_n 1, 1) := by decide +kernel
theorem dX7_told_100 : decode YX7_told.2.1 100 = .ok (.baload, 1) := by decide +kernel
theorem dX7_told_101 : decode YX7_told.2.1 101 = .ok (.ifCond .eq 7, 3) := by decide +kernel
theorem dX7_told_104 : decode YX7_told.2.1 104 = .ok (.iconst 1, 1) := by decide +kernel
theorem dX7_told_105 : decode YX7_told.2.1 105 = .ok (.goto 4, 3) := by decide +kernel
theorem dX7_told_108 : decode YX7_told.2.1 108 = .ok (.iconst 0, 1) := by decide +kernel
theorem dX7_told_109 : decode YX7_told.2.1 109 = .ok (.ireturn, 1) := by decide +kernel
theorem dX7_told_110 : decode YX7_told.2.1 110 = .ok (.bipush (-2), 2) := by decide +kernel
theorem dX7_told_112 : decode YX7_told.2.1 112 = .ok (.ireturn, 1) := by decide +kernel
theorem dX7_router_0 : decode YX7_router.2.1 0 = .ok (.iload_n 1, 1) := by decide +kernel
theorem dX7_router_1 : decode YX7_router.2.1 1 = .ok (.invokestatic 43, 3) := by decide +kernel
theorem dX7_router_4 : decode YX7_router.2.1 4 = .ok (.ifCond .ne 6, 3) := by decide +kernel
theorem dX7_router_7 : decode YX7_router.2.1 7 = .ok (.bipush (-2), 2) := by decide +kernel
theorem dX7_router_9 : decode YX7_router.2.1 9 = .ok (.ireturn, 1) := by decide +kernel
theorem dX7_router_10 : decode YX7_router.2.1 10 = .ok (.iload_n 2, 1) := by decide +kernel
theorem dX7_router_11 : decode YX7_router.2.1 11 = .ok (.tableswitch 82 0 3 #[29, 41, 64, 73], 29) := by decide +kernel
theorem dX7_router_40 : decode YX7_router.2.1 40 = .ok (.aload_n 0, 1) := by decide +kernel
theorem dX7_router_41 : decode YX7_router.2.1 41 = .ok (.getfield 10, 3) := by decide +kernel
theorem dX7_router_44 : decode YX7_router.2.1 44 = .ok (.getfield 53, 3) := by decide +kernel
theorem dX7_router_47 : decode YX7_router.2.1 47 = .ok (.iload_n 1, 1) := by decide +kernel
theorem dX7_router_48 : decode YX7_router.2.1 48 = .ok (.invokevirtual 90, 3) := by decide +kernel
theorem dX7_router_51 : decode YX7_router.2.1 51 = .ok (.ireturn, 1) := by decide +kernel
theorem dX7_router_52 : decode YX7_router.2.1 52 = .ok (.aload_n 0, 1) := by decide +kernel
theorem dX7_router_53 : decode YX7_router.2.1 53 = .ok (.getfield 10, 3) := by decide +kernel
theorem dX7_router_56 : decode YX7_router.2.1 56 = .ok (.getfield 53, 3) := by decide +kernel
theorem dX7_router_59 : decode YX7_router.2.1 59 = .ok (.iload_n 1, 1) := by decide +kernel
theorem dX7_router_60 : decode YX7_router.2.1 60 = .ok (.invokevirtual 90, 3) := by decide +kernel
theorem dX7_router_63 : decode YX7_router.2.1 63 = .ok (.invokestatic 94, 3) := by decide +kernel
theorem dX7_router_66 : decode YX7_router.2.1 66 = .ok (.ifCond .eq 7, 3) := by decide +kernel
theorem dX7_router_69 : decode YX7_router.2.1 69 = .ok (.iconst 1, 1) := by decide +kernel
theorem dX7_router_70 : decode YX7_router.2.1 70 = .ok (.goto 4, 3) := by decide +kernel
theorem dX7_router_73 : decode YX7_router.2.1 73 = .ok (.iconst 0, 1) := by decide +kernel
theorem dX7_router_74 : decode YX7_router.2.1 74 = .ok (.ireturn, 1) := by decide +kernel
theorem dX7_router_75 : decode YX7_router.2.1 75 = .ok (.aload_n 0, 1) := by decide +kernel
theorem dX7_router_76 : decode YX7_router.2.1 76 = .ok (.getfield 10, 3) := by decide +kernel
theorem dX7_router_79 : decode YX7_router.2.1 79 = .ok (.iload_n 1, 1) := by decide +kernel
theorem dX7_router_80 : decode YX7_router.2.1 80 = .ok (.invokevirtual 97, 3) := by decide +kernel
theorem dX7_router_83 : decode YX7_router.2.1 83 = .ok (.ireturn, 1) := by decide +kernel
theorem dX7_router_84 : decode YX7_router.2.1 84 = .ok (.aload_n 0, 1) := by decide +kernel
theorem dX7_router_85 : decode YX7_router.2.1 85 = .ok (.getfield 10, 3) := by decide +kernel
theorem dX7_router_88 : decode YX7_router.2.1 88 = .ok (.iload_n 1, 1) := by decide +kernel
theorem dX7_router_89 : decode YX7_router.2.1 89 = .ok (.invokevirtual 100, 3) := by decide +kernel
theorem dX7_router_92 : decode YX7_router.2.1 92 = .ok (.ireturn, 1) := by decide +kernel
theorem dX7_router_93 : decode YX7_router.2.1 93 = .ok (.bipush (-2), 2) := by decide +kernel
theorem dX7_router_95 : decode YX7_router.2.1 95 = .ok (.ireturn, 1) := by decide +kernel
theorem dX7_taken_0 : decode YX7_taken.2.1 0 = .ok (.iload_n 1, 1) := by decide +kernel
theorem dX7_taken_1 : decode YX7_taken.2.1 1 = .ok (.invokestatic 43, 3) := by decide +kernel
theorem dX7_taken_4 : decode YX7_taken.2.1 4 = .ok (.ifCond .eq 12, 3) := by decide +kernel
theorem dX7_taken_7 : decode YX7_taken.2.1 7 = .ok (.iload_n 2, 1) := by decide +kernel
theorem dX7_taken_8 : decode YX7_taken.2.1 8 = .ok (.ifCond .lt 8, 3) := by decide +kernel
theorem dX7_taken_11 : decode YX7_taken.2.1 11 = .ok (.iload_n 2, 1) := by decide +kernel
theorem dX7_taken_12 : decode YX7_taken.2.1 12 = .ok (.iconst 2, 1) := by decide +kernel
theorem dX7_taken_13 : decode YX7_taken.2.1 13 = .ok (.if_icmp .le 6, 3) := by decide +kernel
theorem dX7_taken_16 : decode YX7_taken.2.1 16 = .ok (.bipush (-2), 2) := by decide +kernel
theorem dX7_taken_18 : decode YX7_taken.2.1 18 = .ok (.ireturn, 1) := by decide +kernel
theorem dX7_taken_19 : decode YX7_taken.2.1 19 = .ok (.aload_n 0, 1) := by decide +kernel
theorem dX7_taken_20 : decode YX7_taken.2.1 20 = .ok (.getfield 10, 3) := by decide +kernel
theorem dX7_taken_23 : decode YX7_taken.2.1 23 = .ok (.getfield 53, 3) := by decide +kernel
theorem dX7_taken_26 : decode YX7_taken.2.1 26 = .ok (.iload_n 1, 1) := by decide +kernel
theorem dX7_taken_27 : decode YX7_taken.2.1 27 = .ok (.invokevirtual 90, 3) := by decide +kernel
theorem dX7_taken_30 : decode YX7_taken.2.1 30 = .ok (.istore_n 3, 1) := by decide +kernel
theorem dX7_taken_31 : decode YX7_taken.2.1 31 = .ok (.iload_n 2, 1) := by decide +kernel
theorem dX7_taken_32 : decode YX7_taken.2.1 32 = .ok (.ifCond .ne 15, 3) := by decide +kernel
theorem dX7_taken_35 : decode YX7_taken.2.1 35 = .ok (.iload_n 3, 1) := by decide +kernel
theorem dX7_taken_36 : decode YX7_taken.2.1 36 = .ok (.ifCond .eq 7, 3) := by decide +kernel
theorem dX7_taken_39 : decode YX7_taken.2.1 39 = .ok (.iconst 1, 1) := by decide +kernel
theorem dX7_taken_40 : decode YX7_taken.2.1 40 = .ok (.goto 29, 3) := by decide +kernel
theorem dX7_taken_43 : decode YX7_taken.2.1 43 = .ok (.iconst 0, 1) := by decide +kernel
theorem dX7_taken_44 : decode YX7_taken.2.1 44 = .ok (.goto 25, 3) := by decide +kernel
theorem dX7_taken_47 : decode YX7_taken.2.1 47 = .ok (.iload_n 2, 1) := by decide +kernel
theorem dX7_taken_48 : decode YX7_taken.2.1 48 = .ok (.iconst 1, 1) := by decide +kernel
theorem dX7_taken_49 : decode YX7_taken.2.1 49 = .ok (.if_icmp .ne 10, 3) := by decide +kernel
theorem dX7_taken_52 : decode YX7_taken.2.1 52 = .ok (.iload_n 3, 1) := by decide +kernel
theorem dX7_taken_53 : decode YX7_taken.2.1 53 = .ok (.invokestatic 94, 3) := by decide +kernel
theorem dX7_taken_56 : decode YX7_taken.2.1 56 = .ok (.goto 13, 3) := by decide +kernel
theorem dX7_taken_59 : decode YX7_taken.2.1 59 = .ok (.iload_n 3, 1) := by decide +kernel
theorem dX7_taken_60 : decode YX7_taken.2.1 60 = .ok (.iconst 1, 1) := by decide +kernel
theorem dX7_taken_61 : decode YX7_taken.2.1 61 = .ok (.if_icmp .ne 7, 3) := by decide +kernel
theorem dX7_taken_64 : decode YX7_taken.2.1 64 = .ok (.iconst 1, 1) := by decide +kernel
theorem dX7_taken_65 : decode YX7_taken.2.1 65 = .ok (.goto 4, 3) := by decide +kernel
theorem dX7_taken_68 : decode YX7_taken.2.1 68 = .ok (.iconst 0, 1) := by decide +kernel
theorem dX7_taken_69 : decode YX7_taken.2.1 69 = .ok (.istore 4, 2) := by decide +kernel
theorem dX7_taken_71 : decode YX7_taken.2.1 71 = .ok (.iload 4, 2) := by decide +kernel
theorem dX7_taken_73 : decode YX7_taken.2.1 73 = .ok (.ifCond .eq 17, 3) := by decide +kernel
theorem dX7_taken_76 : decode YX7_taken.2.1 76 = .ok (.aload_n 0, 1) := by decide +kernel
theorem dX7_taken_77 : decode YX7_taken.2.1 77 = .ok (.getfield 10, 3) := by decide +kernel
theorem dX7_taken_80 : decode YX7_taken.2.1 80 = .ok (.getfield 53, 3) := by decide +kernel
theorem dX7_taken_83 : decode YX7_taken.2.1 83 = .ok (.iload_n 1, 1) := by decide +kernel
theorem dX7_taken_84 : decode YX7_taken.2.1 84 = .ok (.invokevirtual 103, 3) := by decide +kernel
theorem dX7_taken_87 : decode YX7_taken.2.1 87 = .ok (.goto 5, 3) := by decide +kernel
theorem dX7_taken_90 : decode YX7_taken.2.1 90 = .ok (.bipush (-13), 2) := by decide +kernel
theorem dX7_taken_92 : decode YX7_taken.2.1 92 = .ok (.ireturn, 1) := by decide +kernel
theorem dX7_tick_0 : decode YX7_tick.2.1 0 = .ok (.aload_n 0, 1) := by decide +kernel
theorem dX7_tick_1 : decode YX7_tick.2.1 1 = .ok (.getfield 10, 3) := by decide +kernel
theorem dX7_tick_4 : decode YX7_tick.2.1 4 = .ok (.iconst 1, 1) := by decide +kernel
theorem dX7_tick_5 : decode YX7_tick.2.1 5 = .ok (.invokevirtual 106, 3) := by decide +kernel
theorem dX7_tick_8 : decode YX7_tick.2.1 8 = .ok (.ireturn, 1) := by decide +kernel
theorem dX7_ticks_0 : decode YX7_ticks.2.1 0 = .ok (.iload_n 1, 1) := by decide +kernel
theorem dX7_ticks_1 : decode YX7_ticks.2.1 1 = .ok (.ifCond .lt 9, 3) := by decide +kernel
theorem dX7_ticks_4 : decode YX7_ticks.2.1 4 = .ok (.iload_n 1, 1) := by decide +kernel
theorem dX7_ticks_5 : decode YX7_ticks.2.1 5 = .ok (.bipush 80, 2) := by decide +kernel
theorem dX7_ticks_7 : decode YX7_ticks.2.1 7 = .ok (.if_icmp .le 8, 3) := by decide +kernel
theorem dX7_ticks_10 : decode YX7_ticks.2.1 10 = .ok (.bipush (-2), 2) := by decide +kernel
theorem dX7_ticks_12 : decode YX7_ticks.2.1 12 = .ok (.goto 11, 3) := by decide +kernel
theorem dX7_ticks_15 : decode YX7_ticks.2.1 15 = .ok (.aload_n 0, 1) := by decide +kernel
theorem dX7_ticks_16 : decode YX7_ticks.2.1 16 = .ok (.getfield 10, 3) := by decide +kernel
theorem dX7_ticks_19 : decode YX7_ticks.2.1 19 = .ok (.iload_n 1, 1) := by decide +kernel
theorem dX7_ticks_20 : decode YX7_ticks.2.1 20 = .ok (.invokevirtual 106, 3) := by decide +kernel
theorem dX7_ticks_23 : decode YX7_ticks.2.1 23 = .ok (.ireturn, 1) := by decide +kernel
theorem dX7_advert_0 : decode YX7_advert.2.1 0 = .ok (.iload_n 1, 1) := by decide +kernel
theorem dX7_advert_1 : decode YX7_advert.2.1 1 = .ok (.invokestatic 43, 3) := by decide +kernel
theorem dX7_advert_4 : decode YX7_advert.2.1 4 = .ok (.ifCond .eq 25, 3) := by decide +kernel
theorem dX7_advert_7 : decode YX7_advert.2.1 7 = .ok (.iload_n 2, 1) := by decide +kernel
theorem dX7_advert_8 : decode YX7_advert.2.1 8 = .ok (.invokestatic 43, 3) := by decide +kernel
theorem dX7_advert_11 : decode YX7_advert.2.1 11 = .ok (.ifCond .eq 18, 3) := by decide +kernel
theorem dX7_advert_14 : decode YX7_advert.2.1 14 = .ok (.iload_n 3, 1) := by decide +kernel
theorem dX7_advert_15 : decode YX7_advert.2.1 15 = .ok (.invokestatic 47, 3) := by decide +kernel
theorem dX7_advert_18 : decode YX7_advert.2.1 18 = .ok (.ifCond .eq 11, 3) := by decide +kernel
theorem dX7_advert_21 : decode YX7_advert.2.1 21 = .ok (.iload 4, 2) := by decide +kernel
theorem dX7_advert_23 : decode YX7_advert.2.1 23 = .ok (.invokestatic 109, 3) := by decide +kernel
theorem dX7_advert_26 : decode YX7_advert.2.1 26 = .ok (.ifCond .ne 6, 3) := by decide +kernel
theorem dX7_advert_29 : decode YX7_advert.2.1 29 = .ok (.bipush (-2), 2) := by decide +kernel
theorem dX7_advert_31 : decode YX7_advert.2.1 31 = .ok (.ireturn, 1) := by decide +kernel
theorem dX7_advert_32 : decode YX7_advert.2.1 32 = .ok (.aload_n 0, 1) := by decide +kernel
theorem dX7_advert_33 : decode YX7_advert.2.1 33 = .ok (.getfield 10, 3) := by decide +kernel
theorem dX7_advert_36 : decode YX7_advert.2.1 36 = .ok (.getfield 112, 3) := by decide +kernel
theorem dX7_advert_39 : decode YX7_advert.2.1 39 = .ok (.astore 5, 2) := by decide +kernel
theorem dX7_advert_41 : decode YX7_advert.2.1 41 = .ok (.iload_n 1, 1) := by decide +kernel
theorem dX7_advert_42 : decode YX7_advert.2.1 42 = .ok (.iload_n 3, 1) := by decide +kernel
theorem dX7_advert_43 : decode YX7_advert.2.1 43 = .ok (.iload_n 2, 1) := by decide +kernel
theorem dX7_advert_44 : decode YX7_advert.2.1 44 = .ok (.invokestatic 116, 3) := by decide +kernel
theorem dX7_advert_47 : decode YX7_advert.2.1 47 = .ok (.istore 6, 2) := by decide +kernel
theorem dX7_advert_49 : decode YX7_advert.2.1 49 = .ok (.aload 5, 2) := by decide +kernel
theorem dX7_advert_51 : decode YX7_advert.2.1 51 = .ok (.getfield 120, 3) := by decide +kernel
theorem dX7_advert_54 : decode YX7_advert.2.1 54 = .ok (.iload 6, 2) := by decide +kernel
theorem dX7_advert_56 : decode YX7_advert.2.1 56 = .ok (.iaload, 1) := by decide +kernel
theorem dX7_advert_57 : decode YX7_advert.2.1 57 = .ok (.ifCond .ne 6, 3) := by decide +kernel
theorem dX7_advert_60 : decode YX7_advert.2.1 60 = .ok (.bipush (-3), 2) := by decide +kernel
theorem dX7_advert_62 : decode YX7_advert.2.1 62 = .ok (.ireturn, 1) := by decide +kernel
theorem dX7_advert_63 : decode YX7_advert.2.1 63 = .ok (.iload 4, 2) := by decide +kernel
theorem dX7_advert_65 : decode YX7_advert.2.1 65 = .ok (.tableswitch 54 0 2 #[27, 36, 45], 27) := by decide +kernel
theorem dX7_advert_92 : decode YX7_advert.2.1 92 = .ok (.aload 5, 2) := by decide +kernel
theorem dX7_advert_94 : decode YX7_advert.2.1 94 = .ok (.getfield 120, 3) := by decide +kernel
theorem dX7_advert_97 : decode YX7_advert.2.1 97 = .ok (.iload 6, 2) := by decide +kernel
theorem dX7_advert_99 : decode YX7_advert.2.1 99 = .ok (.iaload, 1) := by decide +kernel
theorem dX7_advert_100 : decode YX7_advert.2.1 100 = .ok (.ireturn, 1) := by decide +kernel
theorem dX7_advert_101 : decode YX7_advert.2.1 101 = .ok (.aload 5, 2) := by decide +kernel
theorem dX7_advert_103 : decode YX7_advert.2.1 103 = .ok (.getfield 125, 3) := by decide +kernel
theorem dX7_advert_106 : decode YX7_advert.2.1 106 = .ok (.iload 6, 2) := by decide +kernel
theorem dX7_advert_108 : decode YX7_advert.2.1 108 = .ok (.iaload, 1) := by decide +kernel
theorem dX7_advert_109 : decode YX7_advert.2.1 109 = .ok (.ireturn, 1) := by decide +kernel
theorem dX7_advert_110 : decode YX7_advert.2.1 110 = .ok (.aload 5, 2) := by decide +kernel
theorem dX7_advert_112 : decode YX7_advert.2.1 112 = .ok (.getfield 128, 3) := by decide +kernel
theorem dX7_advert_115 : decode YX7_advert.2.1 115 = .ok (.iload 6, 2) := by decide +kernel
theorem dX7_advert_117 : decode YX7_advert.2.1 117 = .ok (.iaload, 1) := by decide +kernel
theorem dX7_advert_118 : decode YX7_advert.2.1 118 = .ok (.ireturn, 1) := by decide +kernel
theorem dX7_advert_119 : decode YX7_advert.2.1 119 = .ok (.iload 4, 2) := by decide +kernel
theorem dX7_advert_121 : decode YX7_advert.2.1 121 = .ok (.bipush 30, 2) := by decide +kernel
theorem dX7_advert_123 : decode YX7_advert.2.1 123 = .ok (.if_icmp .ge 23, 3) := by decide +kernel
theorem dX7_advert_126 : decode YX7_advert.2.1 126 = .ok (.aload 5, 2) := by decide +kernel
theorem dX7_advert_128 : decode YX7_advert.2.1 128 = .ok (.getfield 130, 3) := by decide +kernel
theorem dX7_advert_131 : decode YX7_advert.2.1 131 = .ok (.iload 6, 2) := by decide +kernel
theorem dX7_advert_133 : decode YX7_advert.2.1 133 = .ok (.bipush 12, 2) := by decide +kernel
theorem dX7_advert_135 : decode YX7_advert.2.1 135 = .ok (.imul, 1) := by decide +kernel
theorem dX7_advert_136 : decode YX7_advert.2.1 136 = .ok (.iload 4, 2) := by decide +kernel
theorem dX7_advert_138 : decode YX7_advert.2.1 138 = .ok (.iadd, 1) := by decide +kernel
theorem dX7_advert_139 : decode YX7_advert.2.1 139 = .ok (.bipush 10, 2) := by decide +kernel
theorem dX7_advert_141 : decode YX7_advert.2.1 141 = .ok (.isub, 1) := by decide +kernel
theorem dX7_advert_142 : decode YX7_advert.2.1 142 = .ok (.iaload, 1) := by decide +kernel
theorem dX7_advert_143 : decode YX7_advert.2.1 143 = .ok (.goto 20, 3) := by decide +kernel
theorem dX7_advert_146 : decode YX7_advert.2.1 146 = .ok (.aload 5, 2) := by decide +kernel
theorem dX7_advert_148 : decode YX7_advert.2.1 148 = .ok (.getfield 133, 3) := by decide +kernel
theorem dX7_advert_151 : decode YX7_advert.2.1 151 = .ok (.iload 6, 2) := by decide +kernel
theorem dX7_advert_153 : decode YX7_advert.2.1 153 = .ok (.bipush 8, 2) := by decide +kernel
theorem dX7_advert_155 : decode YX7_advert.2.1 155 = .ok (.imul, 1) := by decide +kernel
theorem dX7_advert_156 : decode YX7_advert.2.1 156 = .ok (.iload 4, 2) := by decide +kernel
theorem dX7_advert_158 : decode YX7_advert.2.1 158 = .ok (.iadd, 1) := by decide +kernel
theorem dX7_advert_159 : decode YX7_advert.2.1 159 = .ok (.bipush 30, 2) := by decide +kernel
theorem dX7_advert_161 : decode YX7_advert.2.1 161 = .ok (.isub, 1) := by decide +kernel
theorem dX7_advert_162 : decode YX7_advert.2.1 162 = .ok (.iaload, 1) := by decide +kernel
theorem dX7_advert_163 : decode YX7_advert.2.1 163 = .ok (.ireturn, 1) := by decide +kernel
theorem dX7_message_0 : decode YX7_message.2.1 0 = .ok (.iload_n 2, 1) := by decide +kernel
theorem dX7_message_1 : decode YX7_message.2.1 1 = .ok (.ifCond .lt 8, 3) := by decide +kernel
theorem dX7_message_4 : decode YX7_message.2.1 4 = .ok (.iload_n 2, 1) := by decide +kernel
theorem dX7_message_5 : decode YX7_message.2.1 5 = .ok (.iconst 4, 1) := by decide +kernel
theorem dX7_message_6 : decode YX7_message.2.1 6 = .ok (.if_icmp .le 6, 3) := by decide +kernel
theorem dX7_message_9 : decode YX7_message.2.1 9 = .ok (.bipush (-2), 2) := by decide +kernel
theorem dX7_message_11 : decode YX7_message.2.1 11 = .ok (.ireturn, 1) := by decide +kernel
theorem dX7_message_12 : decode YX7_message.2.1 12 = .ok (.iload_n 1, 1) := by decide +kernel
theorem dX7_message_13 : decode YX7_message.2.1 13 = .ok (.ifCond .lt 14, 3) := by decide +kernel
theorem dX7_message_16 : decode YX7_message.2.1 16 = .ok (.iload_n 1, 1) := by decide +kernel
theorem dX7_message_17 : decode YX7_message.2.1 17 = .ok (.aload_n 0, 1) := by decide +kernel
theorem dX7_message_18 : decode YX7_message.2.1 18 = .ok (.getfield 10, 3) := by decide +kernel
theorem dX7_message_21 : decode YX7_message.2.1 21 = .ok (.getfield 136, 3) := by decide +kernel
theorem dX7_message_24 : decode YX7_message.2.1 24 = .ok (.if_icmp .lt 6, 3) := by decide +kernel
theorem dX7_message_27 : decode YX7_message.2.1 27 = .ok (.bipush (-12), 2) := by decide +kernel
theorem dX7_message_29 : decode YX7_message.2.1 29 = .ok (.ireturn, 1) := by decide +kernel
theorem dX7_message_30 : decode YX7_message.2.1 30 = .ok (.iload_n 2, 1) := by decide +kernel
theorem dX7_message_31 : decode YX7_message.2.1 31 = .ok (.tableswitch 80 0 3 #[29, 39, 49, 59], 29) := by decide +kernel
theorem dX7_message_60 : decode YX7_message.2.1 60 = .ok (.aload_n 0, 1) := by decide +kernel
theorem dX7_message_61 : decode YX7_message.2.1 61 = .ok (.getfield 10, 3) := by decide +kernel
theorem dX7_message_64 : decode YX7_message.2.1 64 = .ok (.getfield 139, 3) := by decide +kernel
theorem dX7_message_67 : decode YX7_message.2.1 67 = .ok (.iload_n 1, 1) := by decide +kernel
theorem dX7_message_68 : decode YX7_message.2.1 68 = .ok (.iaload, 1) := by decide +kernel
theorem dX7_message_69 : decode YX7_message.2.1 69 = .ok (.ireturn, 1) := by decide +kernel
theorem dX7_message_70 : decode YX7_message.2.1 70 = .ok (.aload_n 0, 1) := by decide +kernel
theorem dX7_message_71 : decode YX7_message.2.1 71 = .ok (.getfield 10, 3) := by decide +kernel
theorem dX7_message_74 : decode YX7_message.2.1 74 = .ok (.getfield 142, 3) := by decide +kernel
theorem dX7_message_77 : decode YX7_message.2.1 77 = .ok (.iload_n 1, 1) := by decide +kernel
theorem dX7_message_78 : decode YX7_message.2.1 78 = .ok (.iaload, 1) := by decide +kernel
theorem dX7_message_79 : decode YX7_message.2.1 79 = .ok (.ireturn, 1) := by decide +kernel
theorem dX7_message_80 : decode YX7_message.2.1 80 = .ok (.aload_n 0, 1) := by decide +kernel
theorem dX7_message_81 : decode YX7_message.2.1 81 = .ok (.getfield 10, 3) := by decide +kernel
theorem dX7_message_84 : decode YX7_message.2.1 84 = .ok (.getfield 145, 3) := by decide +kernel
theorem dX7_message_87 : decode YX7_message.2.1 87 = .ok (.iload_n 1, 1) := by decide +kernel
theorem dX7_message_88 : decode YX7_message.2.1 88 = .ok (.iaload, 1) := by decide +kernel
theorem dX7_message_89 : decode YX7_message.2.1 89 = .ok (.ireturn, 1) := by decide +kernel
theorem dX7_message_90 : decode YX7_message.2.1 90 = .ok (.aload_n 0, 1) := by decide +kernel
theorem dX7_message_91 : decode YX7_message.2.1 91 = .ok (.getfield 10, 3) := by decide +kernel
theorem dX7_message_94 : decode YX7_message.2.1 94 = .ok (.getfield 53, 3) := by decide +kernel
theorem dX7_message_97 : decode YX7_message.2.1 97 = .ok (.getfield 87, 3) := by decide +kernel
theorem dX7_message_100 : decode YX7_message.2.1 100 = .ok (.aload_n 0, 1) := by decide +kernel
theorem dX7_message_101 : decode YX7_message.2.1 101 = .ok (.getfield 10, 3) := by decide +kernel
theorem dX7_message_104 : decode YX7_message.2.1 104 = .ok (.getfield 139, 3) := by decide +kernel
theorem dX7_message_107 : decode YX7_message.2.1 107 = .ok (.iload_n 1, 1) := by decide +kernel
theorem dX7_message_108 : decode YX7_message.2.1 108 = .ok (.iaload, 1) := by decide +kernel
theorem dX7_message_109 : decode YX7_message.2.1 109 = .ok (.iaload, 1) := by decide +kernel
theorem dX7_message_110 : decode YX7_message.2.1 110 = .ok (.ireturn, 1) := by decide +kernel
theorem dX7_message_111 : decode YX7_message.2.1 111 = .ok (.aload_n 0, 1) := by decide +kernel
theorem dX7_message_112 : decode YX7_message.2.1 112 = .ok (.getfield 10, 3) := by decide +kernel
theorem dX7_message_115 : decode YX7_message.2.1 115 = .ok (.getfield 148, 3) := by decide +kernel
theorem dX7_message_118 : decode YX7_message.2.1 118 = .ok (.getfield 120, 3) := by decide +kernel
theorem dX7_message_121 : decode YX7_message.2.1 121 = .ok (.iload_n 1, 1) := by decide +kernel
theorem dX7_message_122 : decode YX7_message.2.1 122 = .ok (.iaload, 1) := by decide +kernel
theorem dX7_message_123 : decode YX7_message.2.1 123 = .ok (.ireturn, 1) := by decide +kernel
theorem dX7_within_0 : decode YX7_within.2.1 0 = .ok (.iload_n 1, 1) := by decide +kernel
theorem dX7_within_1 : decode YX7_within.2.1 1 = .ok (.invokestatic 43, 3) := by decide +kernel
theorem dX7_within_4 : decode YX7_within.2.1 4 = .ok (.ifCond .eq 28, 3) := by decide +kernel
theorem dX7_within_7 : decode YX7_within.2.1 7 = .ok (.iload_n 2, 1) := by decide +kernel
theorem dX7_within_8 : decode YX7_within.2.1 8 = .ok (.invokestatic 43, 3) := by decide +kernel
theorem dX7_within_11 : decode YX7_within.2.1 11 = .ok (.ifCond .eq 21, 3) := by decide +kernel
theorem dX7_within_14 : decode YX7_within.2.1 14 = .ok (.iload_n 3, 1) := by decide +kernel
theorem dX7_within_15 : decode YX7_within.2.1 15 = .ok (.invokestatic 47, 3) := by decide +kernel
theorem dX7_within_18 : decode YX7_within.2.1 18 = .ok (.ifCond .eq 14, 3) := by decide +kernel
theorem dX7_within_21 : decode YX7_within.2.1 21 = .ok (.iload 4, 2) := by decide +kernel
theorem dX7_within_23 : decode YX7_within.2.1 23 = .ok (.ifCond .lt 9, 3) := by decide +kernel
theorem dX7_within_26 : decode YX7_within.2.1 26 = .ok (.iload 4, 2) := by decide +kernel
theorem dX7_within_28 : decode YX7_within.2.1 28 = .ok (.iconst 1, 1) := by decide +kernel
theorem dX7_within_29 : decode YX7_within.2.1 29 = .ok (.if_icmp .le 6, 3) := by decide +kernel
theorem dX7_within_32 : decode YX7_within.2.1 32 = .ok (.bipush (-2), 2) := by decide +kernel
theorem dX7_within_34 : decode YX7_within.2.1 34 = .ok (.ireturn, 1) := by decide +kernel
theorem dX7_within_35 : decode YX7_within.2.1 35 = .ok (.aload_n 0, 1) := by decide +kernel
theorem dX7_within_36 : decode YX7_within.2.1 36 = .ok (.getfield 25, 3) := by decide +kernel
theorem dX7_within_39 : decode YX7_within.2.1 39 = .ok (.getfield 151, 3) := by decide +kernel
theorem dX7_within_42 : decode YX7_within.2.1 42 = .ok (.iload_n 3, 1) := by decide +kernel
theorem dX7_within_43 : decode YX7_within.2.1 43 = .ok (.aaload, 1) := by decide +kernel
theorem dX7_within_44 : decode YX7_within.2.1 44 = .ok (.astore 5, 2) := by decide +kernel
theorem dX7_within_46 : decode YX7_within.2.1 46 = .ok (.aload 5, 2) := by decide +kernel
theorem dX7_within_48 : decode YX7_within.2.1 48 = .ok (.aload_n 0, 1) := by decide +kernel
theorem dX7_within_49 : decode YX7_within.2.1 49 = .ok (.getfield 10, 3) := by decide +kernel
theorem dX7_within_52 : decode YX7_within.2.1 52 = .ok (.iload_n 1, 1) := by decide +kernel
theorem dX7_within_53 : decode YX7_within.2.1 53 = .ok (.iload_n 3, 1) := by decide +kernel
theorem dX7_within_54 : decode YX7_within.2.1 54 = .ok (.invokevirtual 155, 3) := by decide +kernel
theorem dX7_within_57 : decode YX7_within.2.1 57 = .ok (.iload 4, 2) := by decide +kernel
theorem dX7_within_59 : decode YX7_within.2.1 59 = .ok (.ifCond .ne 13, 3) := by decide +kernel
theorem dX7_within_62 : decode YX7_within.2.1 62 = .ok (.aload 5, 2) := by decide +kernel
theorem dX7_within_64 : decode YX7_within.2.1 64 = .ok (.getfield 161, 3) := by decide +kernel
theorem dX7_within_67 : decode YX7_within.2.1 67 = .ok (.iload_n 2, 1) := by decide +kernel
theorem dX7_within_68 : decode YX7_within.2.1 68 = .ok (.iaload, 1) := by decide +kernel
theorem dX7_within_69 : decode YX7_within.2.1 69 = .ok (.goto 10, 3) := by decide +kernel
theorem dX7_within_72 : decode YX7_within.2.1 72 = .ok (.aload 5, 2) := by decide +kernel
theorem dX7_within_74 : decode YX7_within.2.1 74 = .ok (.getfield 164, 3) := by decide +kernel
theorem dX7_within_77 : decode YX7_within.2.1 77 = .ok (.iload_n 2, 1) := by decide +kernel
theorem dX7_within_78 : decode YX7_within.2.1 78 = .ok (.iaload, 1) := by decide +kernel
theorem dX7_within_79 : decode YX7_within.2.1 79 = .ok (.ireturn, 1) := by decide +kernel
theorem dX7_route_0 : decode YX7_route.2.1 0 = .ok (.iload_n 1, 1) := by decide +kernel
theorem dX7_route_1 : decode YX7_route.2.1 1 = .ok (.invokestatic 43, 3) := by decide +kernel
theorem dX7_route_4 : decode YX7_route.2.1 4 = .ok (.ifCond .eq 19, 3) := by decide +kernel
theorem dX7_route_7 : decode YX7_route.2.1 7 = .ok (.iload_n 2, 1) := by decide +kernel
theorem dX7_route_8 : decode YX7_route.2.1 8 = .ok (.invokestatic 43, 3) := by decide +kernel
theorem dX7_route_11 : decode YX7_route.2.1 11 = .ok (.ifCond .eq 12, 3) := by decide +kernel
theorem dX7_route_14 : decode YX7_route.2.1 14 = .ok (.iload_n 3, 1) := by decide +kernel
theorem dX7_route_15 : decode YX7_route.2.1 15 = .ok (.ifCond .lt 8, 3) := by decide +kernel
theorem dX7_route_18 : decode YX7_route.2.1 18 = .ok (.iload_n 3, 1) := by decide +kernel
theorem dX7_route_19 : decode YX7_route.2.1 19 = .ok (.iconst 3, 1) := by decide +kernel
theorem dX7_route_20 : decode YX7_route.2.1 20 = .ok (.if_icmp .le 6, 3) := by decide +kernel
theorem dX7_route_23 : decode YX7_route.2.1 23 = .ok (.bipush (-2), 2) := by decide +kernel
theorem dX7_route_25 : decode YX7_route.2.1 25 = .ok (.ireturn, 1) := by decide +kernel
theorem dX7_route_26 : decode YX7_route.2.1 26 = .ok (.aload_n 0, 1) := by decide +kernel
theorem dX7_route_27 : decode YX7_route.2.1 27 = .ok (.getfield 25, 3) := by decide +kernel
theorem dX7_route_30 : decode YX7_route.2.1 30 = .ok (.aload_n 0, 1) := by decide +kernel
theorem dX7_route_31 : decode YX7_route.2.1 31 = .ok (.getfield 10, 3) := by decide +kernel
theorem dX7_route_34 : decode YX7_route.2.1 34 = .ok (.iload_n 1, 1) := by decide +kernel
theorem dX7_route_35 : decode YX7_route.2.1 35 = .ok (.invokevirtual 167, 3) := by decide +kernel
theorem dX7_route_38 : decode YX7_route.2.1 38 = .ok (.iload_n 3, 1) := by decide +kernel
theorem dX7_route_39 : decode YX7_route.2.1 39 = .ok (.tableswitch 55 0 2 #[25, 35, 45], 25) := by decide +kernel
theorem dX7_route_64 : decode YX7_route.2.1 64 = .ok (.aload_n 0, 1) := by decide +kernel
theorem dX7_route_65 : decode YX7_route.2.1 65 = .ok (.getfield 25, 3) := by decide +kernel
theorem dX7_route_68 : decode YX7_route.2.1 68 = .ok (.getfield 171, 3) := by decide +kernel
theorem dX7_route_71 : decode YX7_route.2.1 71 = .ok (.iload_n 2, 1) := by decide +kernel
theorem dX7_route_72 : decode YX7_route.2.1 72 = .ok (.iaload, 1) := by decide +kernel
theorem dX7_route_73 : decode YX7_route.2.1 73 = .ok (.ireturn, 1) := by decide +kernel
theorem dX7_route_74 : decode YX7_route.2.1 74 = .ok (.aload_n 0, 1) := by decide +kernel
theorem dX7_route_75 : decode YX7_route.2.1 75 = .ok (.getfield 25, 3) := by decide +kernel
theorem dX7_route_78 : decode YX7_route.2.1 78 = .ok (.getfield 174, 3) := by decide +kernel
theorem dX7_route_81 : decode YX7_route.2.1 81 = .ok (.iload_n 2, 1) := by decide +kernel
theorem dX7_route_82 : decode YX7_route.2.1 82 = .ok (.iaload, 1) := by decide +kernel
theorem dX7_route_83 : decode YX7_route.2.1 83 = .ok (.ireturn, 1) := by decide +kernel
theorem dX7_route_84 : decode YX7_route.2.1 84 = .ok (.aload_n 0, 1) := by decide +kernel
theorem dX7_route_85 : decode YX7_route.2.1 85 = .ok (.getfield 25, 3) := by decide +kernel
theorem dX7_route_88 : decode YX7_route.2.1 88 = .ok (.getfield 175, 3) := by decide +kernel
theorem dX7_route_91 : decode YX7_route.2.1 91 = .ok (.iload_n 2, 1) := by decide +kernel
theorem dX7_route_92 : decode YX7_route.2.1 92 = .ok (.iaload, 1) := by decide +kernel
theorem dX7_route_93 : decode YX7_route.2.1 93 = .ok (.ireturn, 1) := by decide +kernel
theorem dX7_route_94 : decode YX7_route.2.1 94 = .ok (.aload_n 0, 1) := by decide +kernel
theorem dX7_route_95 : decode YX7_route.2.1 95 = .ok (.getfield 25, 3) := by decide +kernel
theorem dX7_route_98 : decode YX7_route.2.1 98 = .ok (.getfield 176, 3) := by decide +kernel
theorem dX7_route_101 : decode YX7_route.2.1 101 = .ok (.iload_n 2, 1) := by decide +kernel
theorem dX7_route_102 : decode YX7_route.2.1 102 = .ok (.iaload, 1) := by decide +kernel
theorem dX7_route_103 : decode YX7_route.2.1 103 = .ok (.ireturn, 1) := by decide +kernel
theorem dX7_packet_0 : decode YX7_packet.2.1 0 = .ok (.iload_n 3, 1) := by decide +kernel
theorem dX7_packet_1 : decode YX7_packet.2.1 1 = .ok (.bipush 10, 2) := by decide +kernel
theorem dX7_packet_3 : decode YX7_packet.2.1 3 = .ok (.if_icmp .lt 13, 3) := by decide +kernel
theorem dX7_packet_6 : decode YX7_packet.2.1 6 = .ok (.iload_n 3, 1) := by decide +kernel
theorem dX7_packet_7 : decode YX7_packet.2.1 7 = .ok (.bipush 19, 2) := by decide +kernel
theorem dX7_packet_9 : decode YX7_packet.2.1 9 = .ok (.if_icmp .ge 7, 3) := by decide +kernel
theorem dX7_packet_12 : decode YX7_packet.2.1 12 = .ok (.iconst 1, 1) := by decide +kernel
theorem dX7_packet_13 : decode YX7_packet.2.1 13 = .ok (.goto 4, 3) := by decide +kernel
theorem dX7_packet_16 : decode YX7_packet.2.1 16 = .ok (.iconst 0, 1) := by decide +kernel
theorem dX7_packet_17 : decode YX7_packet.2.1 17 = .ok (.istore 4, 2) := by decide +kernel
theorem dX7_packet_19 : decode YX7_packet.2.1 19 = .ok (.iload_n 1, 1) := by decide +kernel
theorem dX7_packet_20 : decode YX7_packet.2.1 20 = .ok (.invokestatic 43, 3) := by decide +kernel
theorem dX7_packet_23 : decode YX7_packet.2.1 23 = .ok (.ifCond .eq 24, 3) := by decide +kernel
theorem dX7_packet_26 : decode YX7_packet.2.1 26 = .ok (.iload_n 2, 1) := by decide +kernel
theorem dX7_packet_27 : decode YX7_packet.2.1 27 = .ok (.invokestatic 43, 3) := by decide +kernel
theorem dX7_packet_30 : decode YX7_packet.2.1 30 = .ok (.ifCond .eq 17, 3) := by decide +kernel
theorem dX7_packet_33 : decode YX7_packet.2.1 33 = .ok (.iload_n 3, 1) := by decide +kernel
theorem dX7_packet_34 : decode YX7_packet.2.1 34 = .ok (.ifCond .lt 13, 3) := by decide +kernel
theorem dX7_packet_37 : decode YX7_packet.2.1 37 = .ok (.iload_n 3, 1) := by decide +kernel
theorem dX7_packet_38 : decode YX7_packet.2.1 38 = .ok (.iconst 2, 1) := by decide +kernel
theorem dX7_packet_39 : decode YX7_packet.2.1 39 = .ok (.if_icmp .le 11, 3) := by decide +kernel
theorem dX7_packet_42 : decode YX7_packet.2.1 42 = .ok (.iload 4, 2) := by decide +kernel
theorem dX7_packet_44 : decode YX7_packet.2.1 44 = .ok (.ifCond .ne 6, 3) := by decide +kernel
theorem dX7_packet_47 : decode YX7_packet.2.1 47 = .ok (.bipush (-2), 2) := by decide +kernel
theorem dX7_packet_49 : decode YX7_packet.2.1 49 = .ok (.ireturn, 1) := by decide +kernel
theorem dX7_packet_50 : decode YX7_packet.2.1 50 = .ok (.aload_n 0, 1) := by decide +kernel
theorem dX7_packet_51 : decode YX7_packet.2.1 51 = .ok (.getfield 32, 3) := by decide +kernel
theorem dX7_packet_54 : decode YX7_packet.2.1 54 = .ok (.aload_n 0, 1) := by decide +kernel
theorem dX7_packet_55 : decode YX7_packet.2.1 55 = .ok (.getfield 10, 3) := by decide +kernel
theorem dX7_packet_58 : decode YX7_packet.2.1 58 = .ok (.aload_n 0, 1) := by decide +kernel
theorem dX7_packet_59 : decode YX7_packet.2.1 59 = .ok (.getfield 25, 3) := by decide +kernel
theorem dX7_packet_62 : decode YX7_packet.2.1 62 = .ok (.iload_n 1, 1) := by decide +kernel
theorem dX7_packet_63 : decode YX7_packet.2.1 63 = .ok (.iload_n 2, 1) := by decide +kernel
theorem dX7_packet_64 : decode YX7_packet.2.1 64 = .ok (.invokevirtual 179, 3) := by decide +kernel
theorem dX7_packet_67 : decode YX7_packet.2.1 67 = .ok (.iload_n 3, 1) := by decide +kernel
theorem dX7_packet_68 : decode YX7_packet.2.1 68 = .ok (.tableswitch 52 0 2 #[28, 36, 44], 28) := by decide +kernel
theorem dX7_packet_96 : decode YX7_packet.2.1 96 = .ok (.aload_n 0, 1) := by decide +kernel
theorem dX7_packet_97 : decode YX7_packet.2.1 97 = .ok (.getfield 32, 3) := by decide +kernel
theorem dX7_packet_100 : decode YX7_packet.2.1 100 = .ok (.getfield 183, 3) := by decide +kernel
theorem dX7_packet_103 : decode YX7_packet.2.1 103 = .ok (.ireturn, 1) := by decide +kernel
theorem dX7_packet_104 : decode YX7_packet.2.1 104 = .ok (.aload_n 0, 1) := by decide +kernel
theorem dX7_packet_105 : decode YX7_packet.2.1 105 = .ok (.getfield 32, 3) := by decide +kernel
theorem dX7_packet_108 : decode YX7_packet.2.1 108 = .ok (.getfield 186, 3) := by decide +kernel
theorem dX7_packet_111 : decode YX7_packet.2.1 111 = .ok (.ireturn, 1) := by decide +kernel
theorem dX7_packet_112 : decode YX7_packet.2.1 112 = .ok (.aload_n 0, 1) := by decide +kernel
theorem dX7_packet_113 : decode YX7_packet.2.1 113 = .ok (.getfield 32, 3) := by decide +kernel
theorem dX7_packet_116 : decode YX7_packet.2.1 116 = .ok (.getfield 189, 3) := by decide +kernel
theorem dX7_packet_119 : decode YX7_packet.2.1 119 = .ok (.ireturn, 1) := by decide +kernel
theorem dX7_packet_120 : decode YX7_packet.2.1 120 = .ok (.aload_n 0, 1) := by decide +kernel
theorem dX7_packet_121 : decode YX7_packet.2.1 121 = .ok (.getfield 32, 3) := by decide +kernel
theorem dX7_packet_124 : decode YX7_packet.2.1 124 = .ok (.getfield 191, 3) := by decide +kernel
theorem dX7_packet_127 : decode YX7_packet.2.1 127 = .ok (.iload_n 3, 1) := by decide +kernel
theorem dX7_packet_128 : decode YX7_packet.2.1 128 = .ok (.bipush 10, 2) := by decide +kernel
theorem dX7_packet_130 : decode YX7_packet.2.1 130 = .ok (.isub, 1) := by decide +kernel
theorem dX7_packet_131 : decode YX7_packet.2.1 131 = .ok (.iaload, 1) := by decide +kernel
theorem dX7_packet_132 : decode YX7_packet.2.1 132 = .ok (.ireturn, 1) := by decide +kernel
theorem dX7_truly_0 : decode YX7_truly.2.1 0 = .ok (.iload_n 1, 1) := by decide +kernel
theorem dX7_truly_1 : decode YX7_truly.2.1 1 = .ok (.invokestatic 43, 3) := by decide +kernel
theorem dX7_truly_4 : decode YX7_truly.2.1 4 = .ok (.ifCond .eq 10, 3) := by decide +kernel
theorem dX7_truly_7 : decode YX7_truly.2.1 7 = .ok (.iload_n 2, 1) := by decide +kernel
theorem dX7_truly_8 : decode YX7_truly.2.1 8 = .ok (.invokestatic 43, 3) := by decide +kernel
theorem dX7_truly_11 : decode YX7_truly.2.1 11 = .ok (.ifCond .ne 6, 3) := by decide +kernel
theorem dX7_truly_14 : decode YX7_truly.2.1 14 = .ok (.bipush (-2), 2) := by decide +kernel
theorem dX7_truly_16 : decode YX7_truly.2.1 16 = .ok (.ireturn, 1) := by decide +kernel
theorem dX7_truly_17 : decode YX7_truly.2.1 17 = .ok (.aload_n 0, 1) := by decide +kernel
theorem dX7_truly_18 : decode YX7_truly.2.1 18 = .ok (.getfield 10, 3) := by decide +kernel
theorem dX7_truly_21 : decode YX7_truly.2.1 21 = .ok (.getfield 53, 3) := by decide +kernel
theorem dX7_truly_24 : decode YX7_truly.2.1 24 = .ok (.iload_n 1, 1) := by decide +kernel
theorem dX7_truly_25 : decode YX7_truly.2.1 25 = .ok (.iload_n 2, 1) := by decide +kernel
theorem dX7_truly_26 : decode YX7_truly.2.1 26 = .ok (.iconst (-1), 1) := by decide +kernel
theorem dX7_truly_27 : decode YX7_truly.2.1 27 = .ok (.invokevirtual 194, 3) := by decide +kernel
theorem dX7_truly_30 : decode YX7_truly.2.1 30 = .ok (.ireturn, 1) := by decide +kernel
theorem dX7_cuts_0 : decode YX7_cuts.2.1 0 = .ok (.iload_n 1, 1) := by decide +kernel
theorem dX7_cuts_1 : decode YX7_cuts.2.1 1 = .ok (.invokestatic 43, 3) := by decide +kernel
theorem dX7_cuts_4 : decode YX7_cuts.2.1 4 = .ok (.ifCond .eq 10, 3) := by decide +kernel
theorem dX7_cuts_7 : decode YX7_cuts.2.1 7 = .ok (.iload_n 2, 1) := by decide +kernel
theorem dX7_cuts_8 : decode YX7_cuts.2.1 8 = .ok (.invokestatic 43, 3) := by decide +kernel
theorem dX7_cuts_11 : decode YX7_cuts.2.1 11 = .ok (.ifCond .ne 6, 3) := by decide +kernel
theorem dX7_cuts_14 : decode YX7_cuts.2.1 14 = .ok (.bipush (-2), 2) := by decide +kernel
theorem dX7_cuts_16 : decode YX7_cuts.2.1 16 = .ok (.ireturn, 1) := by decide +kernel
theorem dX7_cuts_17 : decode YX7_cuts.2.1 17 = .ok (.aload_n 0, 1) := by decide +kernel
theorem dX7_cuts_18 : decode YX7_cuts.2.1 18 = .ok (.getfield 10, 3) := by decide +kernel
theorem dX7_cuts_21 : decode YX7_cuts.2.1 21 = .ok (.getfield 53, 3) := by decide +kernel
theorem dX7_cuts_24 : decode YX7_cuts.2.1 24 = .ok (.astore_n 3, 1) := by decide +kernel
theorem dX7_cuts_25 : decode YX7_cuts.2.1 25 = .ok (.iconst 0, 1) := by decide +kernel
theorem dX7_cuts_26 : decode YX7_cuts.2.1 26 = .ok (.istore 4, 2) := by decide +kernel
theorem dX7_cuts_28 : decode YX7_cuts.2.1 28 = .ok (.aload_n 3, 1) := by decide +kernel
theorem dX7_cuts_29 : decode YX7_cuts.2.1 29 = .ok (.iload_n 1, 1) := by decide +kernel
theorem dX7_cuts_30 : decode YX7_cuts.2.1 30 = .ok (.iload_n 2, 1) := by decide +kernel
theorem dX7_cuts_31 : decode YX7_cuts.2.1 31 = .ok (.iconst (-1), 1) := by decide +kernel
theorem dX7_cuts_32 : decode YX7_cuts.2.1 32 = .ok (.invokevirtual 194, 3) := by decide +kernel
theorem dX7_cuts_35 : decode YX7_cuts.2.1 35 = .ok (.sipush 9999, 3) := by decide +kernel
theorem dX7_cuts_38 : decode YX7_cuts.2.1 38 = .ok (.if_icmp .ge 54, 3) := by decide +kernel
theorem dX7_cuts_41 : decode YX7_cuts.2.1 41 = .ok (.iconst 0, 1) := by decide +kernel
theorem dX7_cuts_42 : decode YX7_cuts.2.1 42 = .ok (.istore 5, 2) := by decide +kernel
theorem dX7_cuts_44 : decode YX7_cuts.2.1 44 = .ok (.iload 5, 2) := by decide +kernel
theorem dX7_cuts_46 : decode YX7_cuts.2.1 46 = .ok (.aload_n 3, 1) := by decide +kernel
theorem dX7_cuts_47 : decode YX7_cuts.2.1 47 = .ok (.getfield 57, 3) := by decide +kernel
theorem dX7_cuts_50 : decode YX7_cuts.2.1 50 = .ok (.if_icmp .ge 42, 3) := by decide +kernel
theorem dX7_cuts_53 : decode YX7_cuts.2.1 53 = .ok (.aload_n 3, 1) := by decide +kernel
theorem dX7_cuts_54 : decode YX7_cuts.2.1 54 = .ok (.getfield 70, 3) := by decide +kernel
theorem dX7_cuts_57 : decode YX7_cuts.2.1 57 = .ok (.iload 5, 2) := by decide +kernel
theorem dX7_cuts_59 : decode YX7_cuts.2.1 59 = .ok (.baload, 1) := by decide +kernel
theorem dX7_cuts_60 : decode YX7_cuts.2.1 60 = .ok (.ifCond .eq 26, 3) := by decide +kernel
theorem dX7_cuts_63 : decode YX7_cuts.2.1 63 = .ok (.aload_n 3, 1) := by decide +kernel
theorem dX7_cuts_64 : decode YX7_cuts.2.1 64 = .ok (.iload_n 1, 1) := by decide +kernel
theorem dX7_cuts_65 : decode YX7_cuts.2.1 65 = .ok (.iload_n 2, 1) := by decide +kernel
theorem dX7_cuts_66 : decode YX7_cuts.2.1 66 = .ok (.iload 5, 2) := by decide +kernel
theorem dX7_cuts_68 : decode YX7_cuts.2.1 68 = .ok (.invokevirtual 194, 3) := by decide +kernel
theorem dX7_cuts_71 : decode YX7_cuts.2.1 71 = .ok (.sipush 9999, 3) := by decide +kernel
theorem dX7_cuts_74 : decode YX7_cuts.2.1 74 = .ok (.if_icmp .lt 12, 3) := by decide +kernel
theorem dX7_cuts_77 : decode YX7_cuts.2.1 77 = .ok (.iload 4, 2) := by decide +kernel
theorem dX7_cuts_79 : decode YX7_cuts.2.1 79 = .ok (.iconst 1, 1) := by decide +kernel
theorem dX7_cuts_80 : decode YX7_cuts.2.1 80 = .ok (.iload 5, 2) := by decide +kernel
theorem dX7_cuts_82 : decode YX7_cuts.2.1 82 = .ok (.ishl, 1) := by decide +kernel
theorem dX7_cuts_83 : decode YX7_cuts.2.1 83 = .ok (.ior, 1) := by decide +kernel
theorem dX7_cuts_84 : decode YX7_cuts.2.1 84 = .ok (.istore 4, 2) := by decide +kernel
theorem dX7_cuts_86 : decode YX7_cuts.2.1 86 = .ok (.iinc 5 1, 3) := by decide +kernel
theorem dX7_cuts_89 : decode YX7_cuts.2.1 89 = .ok (.goto (-45), 3) := by decide +kernel
theorem dX7_cuts_92 : decode YX7_cuts.2.1 92 = .ok (.iload 4, 2) := by decide +kernel
theorem dX7_cuts_94 : decode YX7_cuts.2.1 94 = .ok (.ireturn, 1) := by decide +kernel
theorem dX7_settled_0 : decode YX7_settled.2.1 0 = .ok (.iload_n 1, 1) := by decide +kernel
theorem dX7_settled_1 : decode YX7_settled.2.1 1 = .ok (.ifCond .lt 8, 3) := by decide +kernel
theorem dX7_settled_4 : decode YX7_settled.2.1 4 = .ok (.iload_n 1, 1) := by decide +kernel
theorem dX7_settled_5 : decode YX7_settled.2.1 5 = .ok (.iconst 2, 1) := by decide +kernel
theorem dX7_settled_6 : decode YX7_settled.2.1 6 = .ok (.if_icmp .le 6, 3) := by decide +kernel
theorem dX7_settled_9 : decode YX7_settled.2.1 9 = .ok (.bipush (-2), 2) := by decide +kernel
theorem dX7_settled_11 : decode YX7_settled.2.1 11 = .ok (.ireturn, 1) := by decide +kernel
theorem dX7_settled_12 : decode YX7_settled.2.1 12 = .ok (.aload_n 0, 1) := by decide +kernel
theorem dX7_settled_13 : decode YX7_settled.2.1 13 = .ok (.getfield 16, 3) := by decide +kernel
theorem dX7_settled_16 : decode YX7_settled.2.1 16 = .ok (.aload_n 0, 1) := by decide +kernel
theorem dX7_settled_17 : decode YX7_settled.2.1 17 = .ok (.getfield 10, 3) := by decide +kernel
theorem dX7_settled_20 : decode YX7_settled.2.1 20 = .ok (.invokevirtual 197, 3) := by decide +kernel
theorem dX7_settled_23 : decode YX7_settled.2.1 23 = .ok (.aload_n 0, 1) := by decide +kernel
theorem dX7_settled_24 : decode YX7_settled.2.1 24 = .ok (.getfield 16, 3) := by decide +kernel
theorem dX7_settled_27 : decode YX7_settled.2.1 27 = .ok (.invokevirtual 201, 3) := by decide +kernel
theorem dX7_settled_30 : decode YX7_settled.2.1 30 = .ok (.istore_n 2, 1) := by decide +kernel
theorem dX7_settled_31 : decode YX7_settled.2.1 31 = .ok (.iload_n 1, 1) := by decide +kernel
theorem dX7_settled_32 : decode YX7_settled.2.1 32 = .ok (.lookupswitch 46 #[(0, 28), (1, 30)], 28) := by decide +kernel
theorem dX7_settled_60 : decode YX7_settled.2.1 60 = .ok (.iload_n 2, 1) := by decide +kernel
theorem dX7_settled_61 : decode YX7_settled.2.1 61 = .ok (.ireturn, 1) := by decide +kernel
theorem dX7_settled_62 : decode YX7_settled.2.1 62 = .ok (.aload_n 0, 1) := by decide +kernel
theorem dX7_settled_63 : decode YX7_settled.2.1 63 = .ok (.getfield 16, 3) := by decide +kernel
theorem dX7_settled_66 : decode YX7_settled.2.1 66 = .ok (.getfield 205, 3) := by decide +kernel
theorem dX7_settled_69 : decode YX7_settled.2.1 69 = .ok (.aload_n 0, 1) := by decide +kernel
theorem dX7_settled_70 : decode YX7_settled.2.1 70 = .ok (.getfield 10, 3) := by decide +kernel
theorem dX7_settled_73 : decode YX7_settled.2.1 73 = .ok (.getfield 205, 3) := by decide +kernel
theorem dX7_settled_76 : decode YX7_settled.2.1 76 = .ok (.isub, 1) := by decide +kernel
theorem dX7_settled_77 : decode YX7_settled.2.1 77 = .ok (.ireturn, 1) := by decide +kernel
theorem dX7_settled_78 : decode YX7_settled.2.1 78 = .ok (.aload_n 0, 1) := by decide +kernel
theorem dX7_settled_79 : decode YX7_settled.2.1 79 = .ok (.getfield 16, 3) := by decide +kernel
theorem dX7_settled_82 : decode YX7_settled.2.1 82 = .ok (.invokevirtual 208, 3) := by decide +kernel
theorem dX7_settled_85 : decode YX7_settled.2.1 85 = .ok (.ireturn, 1) := by decide +kernel
theorem dX7_broken_0 : decode YX7_broken.2.1 0 = .ok (.aload_n 0, 1) := by decide +kernel
theorem dX7_broken_1 : decode YX7_broken.2.1 1 = .ok (.getfield 10, 3) := by decide +kernel
theorem dX7_broken_4 : decode YX7_broken.2.1 4 = .ok (.getfield 53, 3) := by decide +kernel
theorem dX7_broken_7 : decode YX7_broken.2.1 7 = .ok (.iload_n 1, 1) := by decide +kernel
theorem dX7_broken_8 : decode YX7_broken.2.1 8 = .ok (.invokevirtual 67, 3) := by decide +kernel
theorem dX7_broken_11 : decode YX7_broken.2.1 11 = .ok (.ifCond .eq 17, 3) := by decide +kernel
theorem dX7_broken_14 : decode YX7_broken.2.1 14 = .ok (.iload_n 2, 1) := by decide +kernel
theorem dX7_broken_15 : decode YX7_broken.2.1 15 = .ok (.invokestatic 43, 3) := by decide +kernel
theorem dX7_broken_18 : decode YX7_broken.2.1 18 = .ok (.ifCond .eq 10, 3) := by decide +kernel
theorem dX7_broken_21 : decode YX7_broken.2.1 21 = .ok (.iload_n 3, 1) := by decide +kernel
theorem dX7_broken_22 : decode YX7_broken.2.1 22 = .ok (.invokestatic 43, 3) := by decide +kernel
theorem dX7_broken_25 : decode YX7_broken.2.1 25 = .ok (.ifCond .ne 6, 3) := by decide +kernel
theorem dX7_broken_28 : decode YX7_broken.2.1 28 = .ok (.bipush (-2), 2) := by decide +kernel
theorem dX7_broken_30 : decode YX7_broken.2.1 30 = .ok (.ireturn, 1) := by decide +kernel
theorem dX7_broken_31 : decode YX7_broken.2.1 31 = .ok (.aload_n 0, 1) := by decide +kernel
theorem dX7_broken_32 : decode YX7_broken.2.1 32 = .ok (.getfield 10, 3) := by decide +kernel
theorem dX7_broken_35 : decode YX7_broken.2.1 35 = .ok (.getfield 53, 3) := by decide +kernel
theorem dX7_broken_38 : decode YX7_broken.2.1 38 = .ok (.getfield 70, 3) := by decide +kernel
theorem dX7_broken_41 : decode YX7_broken.2.1 41 = .ok (.iload_n 1, 1) := by decide +kernel
theorem dX7_broken_42 : decode YX7_broken.2.1 42 = .ok (.baload, 1) := by decide +kernel
theorem dX7_broken_43 : decode YX7_broken.2.1 43 = .ok (.ifCond .ne 6, 3) := by decide +kernel
theorem dX7_broken_46 : decode YX7_broken.2.1 46 = .ok (.bipush (-3), 2) := by decide +kernel
theorem dX7_broken_48 : decode YX7_broken.2.1 48 = .ok (.ireturn, 1) := by decide +kernel
theorem dX7_broken_49 : decode YX7_broken.2.1 49 = .ok (.aload_n 0, 1) := by decide +kernel
theorem dX7_broken_50 : decode YX7_broken.2.1 50 = .ok (.iload_n 1, 1) := by decide +kernel
theorem dX7_broken_51 : decode YX7_broken.2.1 51 = .ok (.invokevirtual 211, 3) := by decide +kernel
theorem dX7_broken_54 : decode YX7_broken.2.1 54 = .ok (.aload_n 0, 1) := by decide +kernel
theorem dX7_broken_55 : decode YX7_broken.2.1 55 = .ok (.getfield 16, 3) := by decide +kernel
theorem dX7_broken_58 : decode YX7_broken.2.1 58 = .ok (.bipush 40, 2) := by decide +kernel
theorem dX7_broken_60 : decode YX7_broken.2.1 60 = .ok (.invokevirtual 106, 3) := by decide +kernel
theorem dX7_broken_63 : decode YX7_broken.2.1 63 = .ok (.pop, 1) := by decide +kernel
theorem dX7_broken_64 : decode YX7_broken.2.1 64 = .ok (.aload_n 0, 1) := by decide +kernel
theorem dX7_broken_65 : decode YX7_broken.2.1 65 = .ok (.getfield 25, 3) := by decide +kernel
theorem dX7_broken_68 : decode YX7_broken.2.1 68 = .ok (.aload_n 0, 1) := by decide +kernel
theorem dX7_broken_69 : decode YX7_broken.2.1 69 = .ok (.getfield 16, 3) := by decide +kernel
theorem dX7_broken_72 : decode YX7_broken.2.1 72 = .ok (.iload_n 2, 1) := by decide +kernel
theorem dX7_broken_73 : decode YX7_broken.2.1 73 = .ok (.invokevirtual 167, 3) := by decide +kernel
theorem dX7_broken_76 : decode YX7_broken.2.1 76 = .ok (.aload_n 0, 1) := by decide +kernel
theorem dX7_broken_77 : decode YX7_broken.2.1 77 = .ok (.getfield 25, 3) := by decide +kernel
theorem dX7_broken_80 : decode YX7_broken.2.1 80 = .ok (.getfield 171, 3) := by decide +kernel
theorem dX7_broken_83 : decode YX7_broken.2.1 83 = .ok (.iload_n 3, 1) := by decide +kernel
theorem dX7_broken_84 : decode YX7_broken.2.1 84 = .ok (.iaload, 1) := by decide +kernel
theorem dX7_broken_85 : decode YX7_broken.2.1 85 = .ok (.ireturn, 1) := by decide +kernel
theorem dX7_drawn_0 : decode YX7_drawn.2.1 0 = .ok (.iload_n 1, 1) := by decide +kernel
theorem dX7_drawn_1 : decode YX7_drawn.2.1 1 = .ok (.invokestatic 43, 3) := by decide +kernel
theorem dX7_drawn_4 : decode YX7_drawn.2.1 4 = .ok (.ifCond .ne 6, 3) := by decide +kernel
theorem dX7_drawn_7 : decode YX7_drawn.2.1 7 = .ok (.bipush (-2), 2) := by decide +kernel
theorem dX7_drawn_9 : decode YX7_drawn.2.1 9 = .ok (.ireturn, 1) := by decide +kernel
theorem dX7_drawn_10 : decode YX7_drawn.2.1 10 = .ok (.aload_n 0, 1) := by decide +kernel
theorem dX7_drawn_11 : decode YX7_drawn.2.1 11 = .ok (.iload_n 2, 1) := by decide +kernel
theorem dX7_drawn_12 : decode YX7_drawn.2.1 12 = .ok (.invokevirtual 215, 3) := by decide +kernel
theorem dX7_drawn_15 : decode YX7_drawn.2.1 15 = .ok (.aload_n 0, 1) := by decide +kernel
theorem dX7_drawn_16 : decode YX7_drawn.2.1 16 = .ok (.getfield 16, 3) := by decide +kernel
theorem dX7_drawn_19 : decode YX7_drawn.2.1 19 = .ok (.bipush 40, 2) := by decide +kernel
theorem dX7_drawn_21 : decode YX7_drawn.2.1 21 = .ok (.invokevirtual 106, 3) := by decide +kernel
theorem dX7_drawn_24 : decode YX7_drawn.2.1 24 = .ok (.pop, 1) := by decide +kernel
theorem dX7_drawn_25 : decode YX7_drawn.2.1 25 = .ok (.aload_n 0, 1) := by decide +kernel
theorem dX7_drawn_26 : decode YX7_drawn.2.1 26 = .ok (.iload_n 1, 1) := by decide +kernel
theorem dX7_drawn_27 : decode YX7_drawn.2.1 27 = .ok (.invokevirtual 218, 3) := by decide +kernel
theorem dX7_drawn_30 : decode YX7_drawn.2.1 30 = .ok (.invokestatic 221, 3) := by decide +kernel
theorem dX7_drawn_33 : decode YX7_drawn.2.1 33 = .ok (.ireturn, 1) := by decide +kernel
theorem dX7_chance_0 : decode YX7_chance.2.1 0 = .ok (.iload_n 1, 1) := by decide +kernel
theorem dX7_chance_1 : decode YX7_chance.2.1 1 = .ok (.invokestatic 43, 3) := by decide +kernel
theorem dX7_chance_4 : decode YX7_chance.2.1 4 = .ok (.ifCond .eq 25, 3) := by decide +kernel
theorem dX7_chance_7 : decode YX7_chance.2.1 7 = .ok (.iload_n 3, 1) := by decide +kernel
theorem dX7_chance_8 : decode YX7_chance.2.1 8 = .ok (.iconst 1, 1) := by decide +kernel
theorem dX7_chance_9 : decode YX7_chance.2.1 9 = .ok (.if_icmp .lt 20, 3) := by decide +kernel
theorem dX7_chance_12 : decode YX7_chance.2.1 12 = .ok (.iload_n 3, 1) := by decide +kernel
theorem dX7_chance_13 : decode YX7_chance.2.1 13 = .ok (.bipush 6, 2) := by decide +kernel
theorem dX7_chance_15 : decode YX7_chance.2.1 15 = .ok (.if_icmp .gt 14, 3) := by decide +kernel
theorem dX7_chance_18 : decode YX7_chance.2.1 18 = .ok (.iload 4, 2) := by decide +kernel
theorem dX7_chance_20 : decode YX7_chance.2.1 20 = .ok (.ifCond .lt 9, 3) := by decide +kernel
theorem dX7_chance_23 : decode YX7_chance.2.1 23 = .ok (.iload 4, 2) := by decide +kernel
theorem dX7_chance_25 : decode YX7_chance.2.1 25 = .ok (.iconst 1, 1) := by decide +kernel
theorem dX7_chance_26 : decode YX7_chance.2.1 26 = .ok (.if_icmp .le 6, 3) := by decide +kernel
theorem dX7_chance_29 : decode YX7_chance.2.1 29 = .ok (.bipush (-2), 2) := by decide +kernel
theorem dX7_chance_31 : decode YX7_chance.2.1 31 = .ok (.ireturn, 1) := by decide +kernel
theorem dX7_chance_32 : decode YX7_chance.2.1 32 = .ok (.iconst 0, 1) := by decide +kernel
theorem dX7_chance_33 : decode YX7_chance.2.1 33 = .ok (.istore 5, 2) := by decide +kernel
theorem dX7_chance_35 : decode YX7_chance.2.1 35 = .ok (.iconst 0, 1) := by decide +kernel
theorem dX7_chance_36 : decode YX7_chance.2.1 36 = .ok (.istore 6, 2) := by decide +kernel
theorem dX7_chance_38 : decode YX7_chance.2.1 38 = .ok (.iload 6, 2) := by decide +kernel
theorem dX7_chance_40 : decode YX7_chance.2.1 40 = .ok (.iload_n 3, 1) := by decide +kernel
theorem dX7_chance_41 : decode YX7_chance.2.1 41 = .ok (.if_icmp .ge 49, 3) := by decide +kernel
theorem dX7_chance_44 : decode YX7_chance.2.1 44 = .ok (.aload_n 0, 1) := by decide +kernel
theorem dX7_chance_45 : decode YX7_chance.2.1 45 = .ok (.iload_n 2, 1) := by decide +kernel
theorem dX7_chance_46 : decode YX7_chance.2.1 46 = .ok (.iload 6, 2) := by decide +kernel
theorem dX7_chance_48 : decode YX7_chance.2.1 48 = .ok (.iadd, 1) := by decide +kernel
theorem dX7_chance_49 : decode YX7_chance.2.1 49 = .ok (.invokevirtual 215, 3) := by decide +kernel
theorem dX7_chance_52 : decode YX7_chance.2.1 52 = .ok (.aload_n 0, 1) := by decide +kernel
theorem dX7_chance_53 : decode YX7_chance.2.1 53 = .ok (.getfield 16, 3) := by decide +kernel
theorem dX7_chance_56 : decode YX7_chance.2.1 56 = .ok (.bipush 40, 2) := by decide +kernel
theorem dX7_chance_58 : decode YX7_chance.2.1 58 = .ok (.invokevirtual 106, 3) := by decide +kernel
theorem dX7_chance_61 : decode YX7_chance.2.1 61 = .ok (.pop, 1) := by decide +kernel
theorem dX7_chance_62 : decode YX7_chance.2.1 62 = .ok (.aload_n 0, 1) := by decide +kernel
theorem dX7_chance_63 : decode YX7_chance.2.1 63 = .ok (.iload_n 1, 1) := by decide +kernel
theorem dX7_chance_64 : decode YX7_chance.2.1 64 = .ok (.invokevirtual 218, 3) := by decide +kernel
theorem dX7_chance_67 : decode YX7_chance.2.1 67 = .ok (.aload_n 0, 1) := by decide +kernel
theorem dX7_chance_68 : decode YX7_chance.2.1 68 = .ok (.getfield 16, 3) := by decide +kernel
theorem dX7_chance_71 : decode YX7_chance.2.1 71 = .ok (.getfield 53, 3) := by decide +kernel
theorem dX7_chance_74 : decode YX7_chance.2.1 74 = .ok (.iload_n 1, 1) := by decide +kernel
theorem dX7_chance_75 : decode YX7_chance.2.1 75 = .ok (.invokevirtual 226, 3) := by decide +kernel
theorem dX7_chance_78 : decode YX7_chance.2.1 78 = .ok (.if_icmp .ne 6, 3) := by decide +kernel
theorem dX7_chance_81 : decode YX7_chance.2.1 81 = .ok (.iinc 5 1, 3) := by decide +kernel
theorem dX7_chance_84 : decode YX7_chance.2.1 84 = .ok (.iinc 6 1, 3) := by decide +kernel
theorem dX7_chance_87 : decode YX7_chance.2.1 87 = .ok (.goto (-49), 3) := by decide +kernel
theorem dX7_chance_90 : decode YX7_chance.2.1 90 = .ok (.iload 5, 2) := by decide +kernel
theorem dX7_chance_92 : decode YX7_chance.2.1 92 = .ok (.iload_n 3, 1) := by decide +kernel
theorem dX7_chance_93 : decode YX7_chance.2.1 93 = .ok (.invokestatic 229, 3) := by decide +kernel
theorem dX7_chance_96 : decode YX7_chance.2.1 96 = .ok (.istore 6, 2) := by decide +kernel
theorem dX7_chance_98 : decode YX7_chance.2.1 98 = .ok (.iload 4, 2) := by decide +kernel
theorem dX7_chance_100 : decode YX7_chance.2.1 100 = .ok (.ifCond .ne 11, 3) := by decide +kernel
theorem dX7_chance_103 : decode YX7_chance.2.1 103 = .ok (.iload 5, 2) := by decide +kernel
theorem dX7_chance_105 : decode YX7_chance.2.1 105 = .ok (.iload 6, 2) := by decide +kernel
theorem dX7_chance_107 : decode YX7_chance.2.1 107 = .ok (.idiv, 1) := by decide +kernel
theorem dX7_chance_108 : decode YX7_chance.2.1 108 = .ok (.goto 7, 3) := by decide +kernel
theorem dX7_chance_111 : decode YX7_chance.2.1 111 = .ok (.iload_n 3, 1) := by decide +kernel
theorem dX7_chance_112 : decode YX7_chance.2.1 112 = .ok (.iload 6, 2) := by decide +kernel
theorem dX7_chance_114 : decode YX7_chance.2.1 114 = .ok (.idiv, 1) := by decide +kernel
theorem dX7_chance_115 : decode YX7_chance.2.1 115 = .ok (.ireturn, 1) := by decide +kernel
theorem dX7_tells_0 : decode YX7_tells.2.1 0 = .ok (.aload_n 0, 1) := by decide +kernel
theorem dX7_tells_1 : decode YX7_tells.2.1 1 = .ok (.getfield 39, 3) := by decide +kernel
theorem dX7_tells_4 : decode YX7_tells.2.1 4 = .ok (.iload_n 1, 1) := by decide +kernel
theorem dX7_tells_5 : decode YX7_tells.2.1 5 = .ok (.invokevirtual 233, 3) := by decide +kernel
theorem dX7_tells_8 : decode YX7_tells.2.1 8 = .ok (.ifCond .eq 17, 3) := by decide +kernel
theorem dX7_tells_11 : decode YX7_tells.2.1 11 = .ok (.iload_n 2, 1) := by decide +kernel
theorem dX7_tells_12 : decode YX7_tells.2.1 12 = .ok (.invokestatic 43, 3) := by decide +kernel
theorem dX7_tells_15 : decode YX7_tells.2.1 15 = .ok (.ifCond .eq 10, 3) := by decide +kernel
theorem dX7_tells_18 : decode YX7_tells.2.1 18 = .ok (.iload_n 3, 1) := by decide +kernel
theorem dX7_tells_19 : decode YX7_tells.2.1 19 = .ok (.invokestatic 234, 3) := by decide +kernel
theorem dX7_tells_22 : decode YX7_tells.2.1 22 = .ok (.ifCond .ne 6, 3) := by decide +kernel
theorem dX7_tells_25 : decode YX7_tells.2.1 25 = .ok (.bipush (-2), 2) := by decide +kernel
theorem dX7_tells_27 : decode YX7_tells.2.1 27 = .ok (.ireturn, 1) := by decide +kernel
theorem dX7_tells_28 : decode YX7_tells.2.1 28 = .ok (.iload_n 3, 1) := by decide +kernel
theorem dX7_tells_29 : decode YX7_tells.2.1 29 = .ok (.iconst 4, 1) := by decide +kernel
theorem dX7_tells_30 : decode YX7_tells.2.1 30 = .ok (.idiv, 1) := by decide +kernel
theorem dX7_tells_31 : decode YX7_tells.2.1 31 = .ok (.iconst 1, 1) := by decide +kernel
theorem dX7_tells_32 : decode YX7_tells.2.1 32 = .ok (.isub, 1) := by decide +kernel
theorem dX7_tells_33 : decode YX7_tells.2.1 33 = .ok (.istore 4, 2) := by decide +kernel
theorem dX7_tells_35 : decode YX7_tells.2.1 35 = .ok (.iload_n 3, 1) := by decide +kernel
theorem dX7_tells_36 : decode YX7_tells.2.1 36 = .ok (.iconst 4, 1) := by decide +kernel
theorem dX7_tells_37 : decode YX7_tells.2.1 37 = .ok (.if_icmp .lt 21, 3) := by decide +kernel
theorem dX7_tells_40 : decode YX7_tells.2.1 40 = .ok (.aload_n 0, 1) := by decide +kernel
theorem dX7_tells_41 : decode YX7_tells.2.1 41 = .ok (.getfield 10, 3) := by decide +kernel
theorem dX7_tells_44 : decode YX7_tells.2.1 44 = .ok (.getfield 53, 3) := by decide +kernel
theorem dX7_tells_47 : decode YX7_tells.2.1 47 = .ok (.iload 4, 2) := by decide +kernel
theorem dX7_tells_49 : decode YX7_tells.2.1 49 = .ok (.invokevirtual 67, 3) := by decide +kernel
theorem dX7_tells_52 : decode YX7_tells.2.1 52 = .ok (.ifCond .ne 6, 3) := by decide +kernel
theorem dX7_tells_55 : decode YX7_tells.2.1 55 = .ok (.bipush (-12), 2) := by decide +kernel
theorem dX7_tells_57 : decode YX7_tells.2.1 57 = .ok (.ireturn, 1) := by decide +kernel
theorem dX7_tells_58 : decode YX7_tells.2.1 58 = .ok (.aload_n 0, 1) := by decide +kernel
theorem dX7_tells_59 : decode YX7_tells.2.1 59 = .ok (.getfield 39, 3) := by decide +kernel
theorem dX7_tells_62 : decode YX7_tells.2.1 62 = .ok (.iload_n 1, 1) := by decide +kernel
theorem dX7_tells_63 : decode YX7_tells.2.1 63 = .ok (.invokevirtual 237, 3) := by decide +kernel
theorem dX7_tells_66 : decode YX7_tells.2.1 66 = .ok (.ifCond .eq 6, 3) := by decide +kernel
theorem dX7_tells_69 : decode YX7_tells.2.1 69 = .ok (.bipush (-11), 2) := by decide +kernel
theorem dX7_tells_71 : decode YX7_tells.2.1 71 = .ok (.ireturn, 1) := by decide +kernel
theorem dX7_tells_72 : decode YX7_tells.2.1 72 = .ok (.aload_n 0, 1) := by decide +kernel
theorem dX7_tells_73 : decode YX7_tells.2.1 73 = .ok (.getfield 39, 3) := by decide +kernel
theorem dX7_tells_76 : decode YX7_tells.2.1 76 = .ok (.getfield 240, 3) := by decide +kernel
theorem dX7_tells_79 : decode YX7_tells.2.1 79 = .ok (.iload_n 1, 1) := by decide +kernel
theorem dX7_tells_80 : decode YX7_tells.2.1 80 = .ok (.iaload, 1) := by decide +kernel
theorem dX7_tells_81 : decode YX7_tells.2.1 81 = .ok (.bipush 8, 2) := by decide +kernel
theorem dX7_tells_83 : decode YX7_tells.2.1 83 = .ok (.if_icmp .le 6, 3) := by decide +kernel
theorem dX7_tells_86 : decode YX7_tells.2.1 86 = .ok (.bipush (-2), 2) := by decide +kernel
theorem dX7_tells_88 : decode YX7_tells.2.1 88 = .ok (.ireturn, 1) := by decide +kernel
theorem dX7_tells_89 : decode YX7_tells.2.1 89 = .ok (.iload_n 3, 1) := by decide +kernel
theorem dX7_tells_90 : decode YX7_tells.2.1 90 = .ok (.tableswitch 50 0 2 #[26, 37, 43], 26) := by decide +kernel
theorem dX7_tells_116 : decode YX7_tells.2.1 116 = .ok (.aload_n 0, 1) := by decide +kernel
theorem dX7_tells_117 : decode YX7_tells.2.1 117 = .ok (.aload_n 0, 1) := by decide +kernel
theorem dX7_tells_118 : decode YX7_tells.2.1 118 = .ok (.getfield 10, 3) := by decide +kernel
theorem dX7_tells_121 : decode YX7_tells.2.1 121 = .ok (.iload_n 1, 1) := by decide +kernel
theorem dX7_tells_122 : decode YX7_tells.2.1 122 = .ok (.iload_n 2, 1) := by decide +kernel
theorem dX7_tells_123 : decode YX7_tells.2.1 123 = .ok (.invokevirtual 242, 3) := by decide +kernel
theorem dX7_tells_126 : decode YX7_tells.2.1 126 = .ok (.ireturn, 1) := by decide +kernel
theorem dX7_tells_127 : decode YX7_tells.2.1 127 = .ok (.aload_n 0, 1) := by decide +kernel
theorem dX7_tells_128 : decode YX7_tells.2.1 128 = .ok (.iload_n 1, 1) := by decide +kernel
theorem dX7_tells_129 : decode YX7_tells.2.1 129 = .ok (.invokevirtual 246, 3) := by decide +kernel
theorem dX7_tells_132 : decode YX7_tells.2.1 132 = .ok (.ireturn, 1) := by decide +kernel
theorem dX7_tells_133 : decode YX7_tells.2.1 133 = .ok (.aload_n 0, 1) := by decide +kernel
theorem dX7_tells_134 : decode YX7_tells.2.1 134 = .ok (.iload_n 1, 1) := by decide +kernel
theorem dX7_tells_135 : decode YX7_tells.2.1 135 = .ok (.iload_n 2, 1) := by decide +kernel
theorem dX7_tells_136 : decode YX7_tells.2.1 136 = .ok (.invokevirtual 249, 3) := by decide +kernel
theorem dX7_tells_139 : decode YX7_tells.2.1 139 = .ok (.ireturn, 1) := by decide +kernel
theorem dX7_tells_140 : decode YX7_tells.2.1 140 = .ok (.aload_n 0, 1) := by decide +kernel
theorem dX7_tells_141 : decode YX7_tells.2.1 141 = .ok (.iload_n 1, 1) := by decide +kernel
theorem dX7_tells_142 : decode YX7_tells.2.1 142 = .ok (.iload_n 2, 1) := by decide +kernel
theorem dX7_tells_143 : decode YX7_tells.2.1 143 = .ok (.iload 4, 2) := by decide +kernel
theorem dX7_tells_145 : decode YX7_tells.2.1 145 = .ok (.invokevirtual 252, 3) := by decide +kernel
theorem dX7_tells_148 : decode YX7_tells.2.1 148 = .ok (.istore 5, 2) := by decide +kernel
theorem dX7_tells_150 : decode YX7_tells.2.1 150 = .ok (.iload_n 3, 1) := by decide +kernel
theorem dX7_tells_151 : decode YX7_tells.2.1 151 = .ok (.iconst 4, 1) := by decide +kernel
theorem dX7_tells_152 : decode YX7_tells.2.1 152 = .ok (.irem, 1) := by decide +kernel
theorem dX7_tells_153 : decode YX7_tells.2.1 153 = .ok (.ifCond .ne 9, 3) := by decide +kernel
theorem dX7_tells_156 : decode YX7_tells.2.1 156 = .ok (.iload 5, 2) := by decide +kernel
theorem dX7_tells_158 : decode YX7_tells.2.1 158 = .ok (.invokestatic 221, 3) := by decide +kernel
theorem dX7_tells_161 : decode YX7_tells.2.1 161 = .ok (.ireturn, 1) := by decide +kernel
theorem dX7_tells_162 : decode YX7_tells.2.1 162 = .ok (.iload 5, 2) := by decide +kernel
theorem dX7_tells_164 : decode YX7_tells.2.1 164 = .ok (.invokestatic 255, 3) := by decide +kernel
theorem dX7_tells_167 : decode YX7_tells.2.1 167 = .ok (.ireturn, 1) := by decide +kernel
theorem dX7_film_0 : decode YX7_film.2.1 0 = .ok (.aload_n 0, 1) := by decide +kernel
theorem dX7_film_1 : decode YX7_film.2.1 1 = .ok (.getfield 39, 3) := by decide +kernel
theorem dX7_film_4 : decode YX7_film.2.1 4 = .ok (.iload_n 1, 1) := by decide +kernel
theorem dX7_film_5 : decode YX7_film.2.1 5 = .ok (.invokevirtual 233, 3) := by decide +kernel
theorem dX7_film_8 : decode YX7_film.2.1 8 = .ok (.ifCond .eq 10, 3) := by decide +kernel
theorem dX7_film_11 : decode YX7_film.2.1 11 = .ok (.iload_n 2, 1) := by decide +kernel
theorem dX7_film_12 : decode YX7_film.2.1 12 = .ok (.invokestatic 43, 3) := by decide +kernel
theorem dX7_film_15 : decode YX7_film.2.1 15 = .ok (.ifCond .ne 6, 3) := by decide +kernel
theorem dX7_film_18 : decode YX7_film.2.1 18 = .ok (.bipush (-2), 2) := by decide +kernel
theorem dX7_film_20 : decode YX7_film.2.1 20 = .ok (.ireturn, 1) := by decide +kernel
theorem dX7_film_21 : decode YX7_film.2.1 21 = .ok (.aload_n 0, 1) := by decide +kernel
theorem dX7_film_22 : decode YX7_film.2.1 22 = .ok (.getfield 25, 3) := by decide +kernel
theorem dX7_film_25 : decode YX7_film.2.1 25 = .ok (.aload_n 0, 1) := by decide +kernel
theorem dX7_film_26 : decode YX7_film.2.1 26 = .ok (.getfield 10, 3) := by decide +kernel
theorem dX7_film_29 : decode YX7_film.2.1 29 = .ok (.iload_n 2, 1) := by decide +kernel
theorem dX7_film_30 : decode YX7_film.2.1 30 = .ok (.invokevirtual 167, 3) := by decide +kernel
theorem dX7_film_33 : decode YX7_film.2.1 33 = .ok (.aload_n 0, 1) := by decide +kernel
theorem dX7_film_34 : decode YX7_film.2.1 34 = .ok (.getfield 39, 3) := by decide +kernel
theorem dX7_film_37 : decode YX7_film.2.1 37 = .ok (.iload_n 1, 1) := by decide +kernel
theorem dX7_film_38 : decode YX7_film.2.1 38 = .ok (.iconst 1, 1) := by decide +kernel
theorem dX7_film_39 : decode YX7_film.2.1 39 = .ok (.bipush 8, 2) := by decide +kernel
theorem dX7_film_41 : decode YX7_film.2.1 41 = .ok (.invokevirtual 258, 3) := by decide +kernel
theorem dX7_film_44 : decode YX7_film.2.1 44 = .ok (.iconst 0, 1) := by decide +kernel
theorem dX7_film_45 : decode YX7_film.2.1 45 = .ok (.istore_n 3, 1) := by decide +kernel
theorem dX7_film_46 : decode YX7_film.2.1 46 = .ok (.iload_n 3, 1) := by decide +kernel
theorem dX7_film_47 : decode YX7_film.2.1 47 = .ok (.bipush 8, 2) := by decide +kernel
theorem dX7_film_49 : decode YX7_film.2.1 49 = .ok (.if_icmp .ge 27, 3) := by decide +kernel
theorem dX7_film_52 : decode YX7_film.2.1 52 = .ok (.aload_n 0, 1) := by decide +kernel
theorem dX7_film_53 : decode YX7_film.2.1 53 = .ok (.getfield 39, 3) := by decide +kernel
theorem dX7_film_56 : decode YX7_film.2.1 56 = .ok (.iload_n 1, 1) := by decide +kernel
theorem dX7_film_57 : decode YX7_film.2.1 57 = .ok (.iload_n 3, 1) := by decide +kernel
theorem dX7_film_58 : decode YX7_film.2.1 58 = .ok (.aload_n 0, 1) := by decide +kernel
theorem dX7_film_59 : decode YX7_film.2.1 59 = .ok (.getfield 25, 3) := by decide +kernel
theorem dX7_film_62 : decode YX7_film.2.1 62 = .ok (.getfield 171, 3) := by decide +kernel
theorem dX7_film_65 : decode YX7_film.2.1 65 = .ok (.iload_n 3, 1) := by decide +kernel
theorem dX7_film_66 : decode YX7_film.2.1 66 = .ok (.iaload, 1) := by decide +kernel
theorem dX7_film_67 : decode YX7_film.2.1 67 = .ok (.invokevirtual 262, 3) := by decide +kernel
theorem dX7_film_70 : decode YX7_film.2.1 70 = .ok (.iinc 3 1, 3) := by decide +kernel
theorem dX7_film_73 : decode YX7_film.2.1 73 = .ok (.goto (-27), 3) := by decide +kernel
theorem dX7_film_76 : decode YX7_film.2.1 76 = .ok (.bipush 8, 2) := by decide +kernel
theorem dX7_film_78 : decode YX7_film.2.1 78 = .ok (.ireturn, 1) := by decide +kernel
theorem dX7_image_0 : decode YX7_image.2.1 0 = .ok (.aload_n 0, 1) := by decide +kernel
theorem dX7_image_1 : decode YX7_image.2.1 1 = .ok (.getfield 19, 3) := by decide +kernel
theorem dX7_image_4 : decode YX7_image.2.1 4 = .ok (.aload_n 0, 1) := by decide +kernel
theorem dX7_image_5 : decode YX7_image.2.1 5 = .ok (.getfield 10, 3) := by decide +kernel
theorem dX7_image_8 : decode YX7_image.2.1 8 = .ok (.invokevirtual 197, 3) := by decide +kernel
theorem dX7_image_11 : decode YX7_image.2.1 11 = .ok (.aload_n 0, 1) := by decide +kernel
theorem dX7_image_12 : decode YX7_image.2.1 12 = .ok (.iconst 1, 1) := by decide +kernel
theorem dX7_image_13 : decode YX7_image.2.1 13 = .ok (.putfield 265, 3) := by decide +kernel
theorem dX7_image_16 : decode YX7_image.2.1 16 = .ok (.aload_n 0, 1) := by decide +kernel
theorem dX7_image_17 : decode YX7_image.2.1 17 = .ok (.getfield 10, 3) := by decide +kernel
theorem dX7_image_20 : decode YX7_image.2.1 20 = .ok (.getfield 53, 3) := by decide +kernel
theorem dX7_image_23 : decode YX7_image.2.1 23 = .ok (.getfield 57, 3) := by decide +kernel
theorem dX7_image_26 : decode YX7_image.2.1 26 = .ok (.ireturn, 1) := by decide +kernel
theorem dX7_back_0 : decode YX7_back.2.1 0 = .ok (.aload_n 0, 1) := by decide +kernel
theorem dX7_back_1 : decode YX7_back.2.1 1 = .ok (.getfield 265, 3) := by decide +kernel
theorem dX7_back_4 : decode YX7_back.2.1 4 = .ok (.ifCond .ne 6, 3) := by decide +kernel
theorem dX7_back_7 : decode YX7_back.2.1 7 = .ok (.bipush (-3), 2) := by decide +kernel
theorem dX7_back_9 : decode YX7_back.2.1 9 = .ok (.ireturn, 1) := by decide +kernel
theorem dX7_back_10 : decode YX7_back.2.1 10 = .ok (.aload_n 0, 1) := by decide +kernel
theorem dX7_back_11 : decode YX7_back.2.1 11 = .ok (.getfield 10, 3) := by decide +kernel
theorem dX7_back_14 : decode YX7_back.2.1 14 = .ok (.aload_n 0, 1) := by decide +kernel
theorem dX7_back_15 : decode YX7_back.2.1 15 = .ok (.getfield 19, 3) := by decide +kernel
theorem dX7_back_18 : decode YX7_back.2.1 18 = .ok (.invokevirtual 197, 3) := by decide +kernel
theorem dX7_back_21 : decode YX7_back.2.1 21 = .ok (.aload_n 0, 1) := by decide +kernel
theorem dX7_back_22 : decode YX7_back.2.1 22 = .ok (.getfield 10, 3) := by decide +kernel
theorem dX7_back_25 : decode YX7_back.2.1 25 = .ok (.getfield 53, 3) := by decide +kernel
theorem dX7_back_28 : decode YX7_back.2.1 28 = .ok (.getfield 57, 3) := by decide +kernel
theorem dX7_back_31 : decode YX7_back.2.1 31 = .ok (.ireturn, 1) := by decide +kernel
theorem dX7_count_0 : decode YX7_count.2.1 0 = .ok (.iload_n 1, 1) := by decide +kernel
theorem dX7_count_1 : decode YX7_count.2.1 1 = .ok (.tableswitch 93 0 5 #[39, 50, 61, 69, 77, 85], 39) := by decide +kernel
theorem dX7_count_40 : decode YX7_count.2.1 40 = .ok (.aload_n 0, 1) := by decide +kernel
theorem dX7_count_41 : decode YX7_count.2.1 41 = .ok (.getfield 10, 3) := by decide +kernel
theorem dX7_count_44 : decode YX7_count.2.1 44 = .ok (.getfield 53, 3) := by decide +kernel
theorem dX7_count_47 : decode YX7_count.2.1 47 = .ok (.getfield 57, 3) := by decide +kernel
theorem dX7_count_50 : decode YX7_count.2.1 50 = .ok (.ireturn, 1) := by decide +kernel
theorem dX7_count_51 : decode YX7_count.2.1 51 = .ok (.aload_n 0, 1) := by decide +kernel
theorem dX7_count_52 : decode YX7_count.2.1 52 = .ok (.getfield 10, 3) := by decide +kernel
theorem dX7_count_55 : decode YX7_count.2.1 55 = .ok (.getfield 53, 3) := by decide +kernel
theorem dX7_count_58 : decode YX7_count.2.1 58 = .ok (.invokevirtual 269, 3) := by decide +kernel
theorem dX7_count_61 : decode YX7_count.2.1 61 = .ok (.ireturn, 1) := by decide +kernel
theorem dX7_count_62 : decode YX7_count.2.1 62 = .ok (.aload_n 0, 1) := by decide +kernel
theorem dX7_count_63 : decode YX7_count.2.1 63 = .ok (.getfield 10, 3) := by decide +kernel
theorem dX7_count_66 : decode YX7_count.2.1 66 = .ok (.getfield 272, 3) := by decide +kernel
theorem dX7_count_69 : decode YX7_count.2.1 69 = .ok (.ireturn, 1) := by decide +kernel
theorem dX7_count_70 : decode YX7_count.2.1 70 = .ok (.aload_n 0, 1) := by decide +kernel
theorem dX7_count_71 : decode YX7_count.2.1 71 = .ok (.getfield 10, 3) := by decide +kernel
theorem dX7_count_74 : decode YX7_count.2.1 74 = .ok (.getfield 205, 3) := by decide +kernel
theorem dX7_count_77 : decode YX7_count.2.1 77 = .ok (.ireturn, 1) := by decide +kernel
theorem dX7_count_78 : decode YX7_count.2.1 78 = .ok (.aload_n 0, 1) := by decide +kernel
theorem dX7_count_79 : decode YX7_count.2.1 79 = .ok (.getfield 10, 3) := by decide +kernel
theorem dX7_count_82 : decode YX7_count.2.1 82 = .ok (.getfield 136, 3) := by decide +kernel
theorem dX7_count_85 : decode YX7_count.2.1 85 = .ok (.ireturn, 1) := by decide +kernel
theorem dX7_count_86 : decode YX7_count.2.1 86 = .ok (.aload_n 0, 1) := by decide +kernel
theorem dX7_count_87 : decode YX7_count.2.1 87 = .ok (.getfield 10, 3) := by decide +kernel
theorem dX7_count_90 : decode YX7_count.2.1 90 = .ok (.invokevirtual 275, 3) := by decide +kernel
theorem dX7_count_93 : decode YX7_count.2.1 93 = .ok (.ireturn, 1) := by decide +kernel
theorem dX7_count_94 : decode YX7_count.2.1 94 = .ok (.bipush (-2), 2) := by decide +kernel
theorem dX7_count_96 : decode YX7_count.2.1 96 = .ok (.ireturn, 1) := by decide +kernel
theorem dX7_sheet_0 : decode YX7_sheet.2.1 0 = .ok (.aload_n 0, 1) := by decide +kernel
theorem dX7_sheet_1 : decode YX7_sheet.2.1 1 = .ok (.getfield 39, 3) := by decide +kernel
theorem dX7_sheet_4 : decode YX7_sheet.2.1 4 = .ok (.iload_n 1, 1) := by decide +kernel
theorem dX7_sheet_5 : decode YX7_sheet.2.1 5 = .ok (.invokevirtual 233, 3) := by decide +kernel
theorem dX7_sheet_8 : decode YX7_sheet.2.1 8 = .ok (.ifCond .eq 13, 3) := by decide +kernel
theorem dX7_sheet_11 : decode YX7_sheet.2.1 11 = .ok (.iload_n 2, 1) := by decide +kernel
theorem dX7_sheet_12 : decode YX7_sheet.2.1 12 = .ok (.iconst (-1), 1) := by decide +kernel
theorem dX7_sheet_13 : decode YX7_sheet.2.1 13 = .ok (.if_icmp .lt 8, 3) := by decide +kernel
theorem dX7_sheet_16 : decode YX7_sheet.2.1 16 = .ok (.iload_n 2, 1) := by decide +kernel
theorem dX7_sheet_17 : decode YX7_sheet.2.1 17 = .ok (.iconst 1, 1) := by decide +kernel
theorem dX7_sheet_18 : decode YX7_sheet.2.1 18 = .ok (.if_icmp .le 6, 3) := by decide +kernel
theorem dX7_sheet_21 : decode YX7_sheet.2.1 21 = .ok (.bipush (-2), 2) := by decide +kernel
theorem dX7_sheet_23 : decode YX7_sheet.2.1 23 = .ok (.ireturn, 1) := by decide +kernel
theorem dX7_sheet_24 : decode YX7_sheet.2.1 24 = .ok (.iload_n 2, 1) := by decide +kernel
theorem dX7_sheet_25 : decode YX7_sheet.2.1 25 = .ok (.iconst (-1), 1) := by decide +kernel
theorem dX7_sheet_26 : decode YX7_sheet.2.1 26 = .ok (.if_icmp .ne 15, 3) := by decide +kernel
theorem dX7_sheet_29 : decode YX7_sheet.2.1 29 = .ok (.aload_n 0, 1) := by decide +kernel
theorem dX7_sheet_30 : decode YX7_sheet.2.1 30 = .ok (.getfield 39, 3) := by decide +kernel
theorem dX7_sheet_33 : decode YX7_sheet.2.1 33 = .ok (.iload_n 1, 1) := by decide +kernel
theorem dX7_sheet_34 : decode YX7_sheet.2.1 34 = .ok (.iconst (-1), 1) := by decide +kernel
theorem dX7_sheet_35 : decode YX7_sheet.2.1 35 = .ok (.iconst 0, 1) := by decide +kernel
theorem dX7_sheet_36 : decode YX7_sheet.2.1 36 = .ok (.invokevirtual 258, 3) := by decide +kernel
theorem dX7_sheet_39 : decode YX7_sheet.2.1 39 = .ok (.iconst 1, 1) := by decide +kernel
theorem dX7_sheet_40 : decode YX7_sheet.2.1 40 = .ok (.ireturn, 1) := by decide +kernel
theorem dX7_sheet_41 : decode YX7_sheet.2.1 41 = .ok (.iload_n 3, 1) := by decide +kernel
theorem dX7_sheet_42 : decode YX7_sheet.2.1 42 = .ok (.bipush 40, 2) := by decide +kernel
theorem dX7_sheet_44 : decode YX7_sheet.2.1 44 = .ok (.if_icmp .le 6, 3) := by decide +kernel
theorem dX7_sheet_47 : decode YX7_sheet.2.1 47 = .ok (.bipush (-2), 2) := by decide +kernel
theorem dX7_sheet_49 : decode YX7_sheet.2.1 49 = .ok (.ireturn, 1) := by decide +kernel
theorem dX7_sheet_50 : decode YX7_sheet.2.1 50 = .ok (.iload_n 3, 1) := by decide +kernel
theorem dX7_sheet_51 : decode YX7_sheet.2.1 51 = .ok (.ifCond .ge 6, 3) := by decide +kernel
theorem dX7_sheet_54 : decode YX7_sheet.2.1 54 = .ok (.bipush (-14), 2) := by decide +kernel
theorem dX7_sheet_56 : decode YX7_sheet.2.1 56 = .ok (.ireturn, 1) := by decide +kernel
theorem dX7_sheet_57 : decode YX7_sheet.2.1 57 = .ok (.aload_n 0, 1) := by decide +kernel
theorem dX7_sheet_58 : decode YX7_sheet.2.1 58 = .ok (.getfield 39, 3) := by decide +kernel
theorem dX7_sheet_61 : decode YX7_sheet.2.1 61 = .ok (.iload_n 1, 1) := by decide +kernel
theorem dX7_sheet_62 : decode YX7_sheet.2.1 62 = .ok (.iload_n 2, 1) := by decide +kernel
theorem dX7_sheet_63 : decode YX7_sheet.2.1 63 = .ok (.iload_n 3, 1) := by decide +kernel
theorem dX7_sheet_64 : decode YX7_sheet.2.1 64 = .ok (.invokevirtual 258, 3) := by decide +kernel
theorem dX7_sheet_67 : decode YX7_sheet.2.1 67 = .ok (.iconst 1, 1) := by decide +kernel
theorem dX7_sheet_68 : decode YX7_sheet.2.1 68 = .ok (.ireturn, 1) := by decide +kernel
theorem dX7_cell_0 : decode YX7_cell.2.1 0 = .ok (.aload_n 0, 1) := by decide +kernel
theorem dX7_cell_1 : decode YX7_cell.2.1 1 = .ok (.getfield 39, 3) := by decide +kernel
theorem dX7_cell_4 : decode YX7_cell.2.1 4 = .ok (.iload_n 1, 1) := by decide +kernel
theorem dX7_cell_5 : decode YX7_cell.2.1 5 = .ok (.invokevirtual 233, 3) := by decide +kernel
theorem dX7_cell_8 : decode YX7_cell.2.1 8 = .ok (.ifCond .ne 6, 3) := by decide +kernel
theorem dX7_cell_11 : decode YX7_cell.2.1 11 = .ok (.bipush (-2), 2) := by decide +kernel
theorem dX7_cell_13 : decode YX7_cell.2.1 13 = .ok (.ireturn, 1) := by decide +kernel
theorem dX7_cell_14 : decode YX7_cell.2.1 14 = .ok (.aload_n 0, 1) := by decide +kernel
theorem dX7_cell_15 : decode YX7_cell.2.1 15 = .ok (.getfield 39, 3) := by decide +kernel
theorem dX7_cell_18 : decode YX7_cell.2.1 18 = .ok (.iload_n 1, 1) := by decide +kernel
theorem dX7_cell_19 : decode YX7_cell.2.1 19 = .ok (.invokevirtual 237, 3) := by decide +kernel
theorem dX7_cell_22 : decode YX7_cell.2.1 22 = .ok (.ifCond .eq 6, 3) := by decide +kernel
theorem dX7_cell_25 : decode YX7_cell.2.1 25 = .ok (.bipush (-11), 2) := by decide +kernel
theorem dX7_cell_27 : decode YX7_cell.2.1 27 = .ok (.ireturn, 1) := by decide +kernel
theorem dX7_cell_28 : decode YX7_cell.2.1 28 = .ok (.iload_n 2, 1) := by decide +kernel
theorem dX7_cell_29 : decode YX7_cell.2.1 29 = .ok (.ifCond .lt 16, 3) := by decide +kernel
theorem dX7_cell_32 : decode YX7_cell.2.1 32 = .ok (.iload_n 2, 1) := by decide +kernel
theorem dX7_cell_33 : decode YX7_cell.2.1 33 = .ok (.aload_n 0, 1) := by decide +kernel
theorem dX7_cell_34 : decode YX7_cell.2.1 34 = .ok (.getfield 39, 3) := by decide +kernel
theorem dX7_cell_37 : decode YX7_cell.2.1 37 = .ok (.getfield 240, 3) := by decide +kernel
theorem dX7_cell_40 : decode YX7_cell.2.1 40 = .ok (.iload_n 1, 1) := by decide +kernel
theorem dX7_cell_41 : decode YX7_cell.2.1 41 = .ok (.iaload, 1) := by decide +kernel
theorem dX7_cell_42 : decode YX7_cell.2.1 42 = .ok (.if_icmp .lt 6, 3) := by decide +kernel
theorem dX7_cell_45 : decode YX7_cell.2.1 45 = .ok (.bipush (-12), 2) := by decide +kernel
theorem dX7_cell_47 : decode YX7_cell.2.1 47 = .ok (.ireturn, 1) := by decide +kernel
theorem dX7_cell_48 : decode YX7_cell.2.1 48 = .ok (.aload_n 0, 1) := by decide +kernel
theorem dX7_cell_49 : decode YX7_cell.2.1 49 = .ok (.getfield 39, 3) := by decide +kernel
theorem dX7_cell_52 : decode YX7_cell.2.1 52 = .ok (.iload_n 1, 1) := by decide +kernel
theorem dX7_cell_53 : decode YX7_cell.2.1 53 = .ok (.iload_n 2, 1) := by decide +kernel
theorem dX7_cell_54 : decode YX7_cell.2.1 54 = .ok (.iload_n 3, 1) := by decide +kernel
theorem dX7_cell_55 : decode YX7_cell.2.1 55 = .ok (.invokevirtual 262, 3) := by decide +kernel
theorem dX7_cell_58 : decode YX7_cell.2.1 58 = .ok (.iconst 1, 1) := by decide +kernel
theorem dX7_cell_59 : decode YX7_cell.2.1 59 = .ok (.ireturn, 1) := by decide +kernel
theorem dX7_copy_0 : decode YX7_copy.2.1 0 = .ok (.aload_n 0, 1) := by decide +kernel
theorem dX7_copy_1 : decode YX7_copy.2.1 1 = .ok (.getfield 39, 3) := by decide +kernel
theorem dX7_copy_4 : decode YX7_copy.2.1 4 = .ok (.iload_n 1, 1) := by decide +kernel
theorem dX7_copy_5 : decode YX7_copy.2.1 5 = .ok (.invokevirtual 233, 3) := by decide +kernel
theorem dX7_copy_8 : decode YX7_copy.2.1 8 = .ok (.ifCond .eq 14, 3) := by decide +kernel
theorem dX7_copy_11 : decode YX7_copy.2.1 11 = .ok (.aload_n 0, 1) := by decide +kernel
theorem dX7_copy_12 : decode YX7_copy.2.1 12 = .ok (.getfield 39, 3) := by decide +kernel
theorem dX7_copy_15 : decode YX7_copy.2.1 15 = .ok (.iload_n 3, 1) := by decide +kernel
theorem dX7_copy_16 : decode YX7_copy.2.1 16 = .ok (.invokevirtual 233, 3) := by decide +kernel
theorem dX7_copy_19 : decode YX7_copy.2.1 19 = .ok (.ifCond .ne 6, 3) := by decide +kernel
theorem dX7_copy_22 : decode YX7_copy.2.1 22 = .ok (.bipush (-2), 2) := by decide +kernel
theorem dX7_copy_24 : decode YX7_copy.2.1 24 = .ok (.ireturn, 1) := by decide +kernel
theorem dX7_copy_25 : decode YX7_copy.2.1 25 = .ok (.aload_n 0, 1) := by decide +kernel
theorem dX7_copy_26 : decode YX7_copy.2.1 26 = .ok (.getfield 39, 3) := by decide +kernel
theorem dX7_copy_29 : decode YX7_copy.2.1 29 = .ok (.iload_n 1, 1) := by decide +kernel
theorem dX7_copy_30 : decode YX7_copy.2.1 30 = .ok (.invokevirtual 237, 3) := by decide +kernel
theorem dX7_copy_33 : decode YX7_copy.2.1 33 = .ok (.ifCond .ne 14, 3) := by decide +kernel
theorem dX7_copy_36 : decode YX7_copy.2.1 36 = .ok (.aload_n 0, 1) := by decide +kernel
theorem dX7_copy_37 : decode YX7_copy.2.1 37 = .ok (.getfield 39, 3) := by decide +kernel
theorem dX7_copy_40 : decode YX7_copy.2.1 40 = .ok (.iload_n 3, 1) := by decide +kernel
theorem dX7_copy_41 : decode YX7_copy.2.1 41 = .ok (.invokevirtual 237, 3) := by decide +kernel
theorem dX7_copy_44 : decode YX7_copy.2.1 44 = .ok (.ifCond .eq 6, 3) := by decide +kernel
theorem dX7_copy_47 : decode YX7_copy.2.1 47 = .ok (.bipush (-11), 2) := by decide +kernel
theorem dX7_copy_49 : decode YX7_copy.2.1 49 = .ok (.ireturn, 1) := by decide +kernel
theorem dX7_copy_50 : decode YX7_copy.2.1 50 = .ok (.aload_n 0, 1) := by decide +kernel
theorem dX7_copy_51 : decode YX7_copy.2.1 51 = .ok (.getfield 39, 3) := by decide +kernel
theorem dX7_copy_54 : decode YX7_copy.2.1 54 = .ok (.getfield 278, 3) := by decide +kernel
theorem dX7_copy_57 : decode YX7_copy.2.1 57 = .ok (.iload_n 1, 1) := by decide +kernel
theorem dX7_copy_58 : decode YX7_copy.2.1 58 = .ok (.iaload, 1) := by decide +kernel
theorem dX7_copy_59 : decode YX7_copy.2.1 59 = .ok (.aload_n 0, 1) := by decide +kernel
theorem dX7_copy_60 : decode YX7_copy.2.1 60 = .ok (.getfield 39, 3) := by decide +kernel
theorem dX7_copy_63 : decode YX7_copy.2.1 63 = .ok (.getfield 278, 3) := by decide +kernel
theorem dX7_copy_66 : decode YX7_copy.2.1 66 = .ok (.iload_n 3, 1) := by decide +kernel
theorem dX7_copy_67 : decode YX7_copy.2.1 67 = .ok (.iaload, 1) := by decide +kernel
theorem dX7_copy_68 : decode YX7_copy.2.1 68 = .ok (.if_icmp .eq 6, 3) := by decide +kernel
theorem dX7_copy_71 : decode YX7_copy.2.1 71 = .ok (.bipush (-13), 2) := by decide +kernel
theorem dX7_copy_73 : decode YX7_copy.2.1 73 = .ok (.ireturn, 1) := by decide +kernel
theorem dX7_copy_74 : decode YX7_copy.2.1 74 = .ok (.aload_n 0, 1) := by decide +kernel
theorem dX7_copy_75 : decode YX7_copy.2.1 75 = .ok (.getfield 39, 3) := by decide +kernel
theorem dX7_copy_78 : decode YX7_copy.2.1 78 = .ok (.iload_n 1, 1) := by decide +kernel
theorem dX7_copy_79 : decode YX7_copy.2.1 79 = .ok (.iload_n 2, 1) := by decide +kernel
theorem dX7_copy_80 : decode YX7_copy.2.1 80 = .ok (.iload 5, 2) := by decide +kernel
theorem dX7_copy_82 : decode YX7_copy.2.1 82 = .ok (.invokevirtual 281, 3) := by decide +kernel
theorem dX7_copy_85 : decode YX7_copy.2.1 85 = .ok (.ifCond .eq 18, 3) := by decide +kernel
theorem dX7_copy_88 : decode YX7_copy.2.1 88 = .ok (.aload_n 0, 1) := by decide +kernel
theorem dX7_copy_89 : decode YX7_copy.2.1 89 = .ok (.getfield 39, 3) := by decide +kernel
theorem dX7_copy_92 : decode YX7_copy.2.1 92 = .ok (.iload_n 3, 1) := by decide +kernel
theorem dX7_copy_93 : decode YX7_copy.2.1 93 = .ok (.iload 4, 2) := by decide +kernel
theorem dX7_copy_95 : decode YX7_copy.2.1 95 = .ok (.iload 5, 2) := by decide +kernel
theorem dX7_copy_97 : decode YX7_copy.2.1 97 = .ok (.invokevirtual 281, 3) := by decide +kernel
theorem dX7_copy_100 : decode YX7_copy.2.1 100 = .ok (.ifCond .ne 6, 3) := by decide +kernel
theorem dX7_copy_103 : decode YX7_copy.2.1 103 = .ok (.bipush (-12), 2) := by decide +kernel
theorem dX7_copy_105 : decode YX7_copy.2.1 105 = .ok (.ireturn, 1) := by decide +kernel
theorem dX7_copy_106 : decode YX7_copy.2.1 106 = .ok (.aload_n 0, 1) := by decide +kernel
theorem dX7_copy_107 : decode YX7_copy.2.1 107 = .ok (.getfield 39, 3) := by decide +kernel
theorem dX7_copy_110 : decode YX7_copy.2.1 110 = .ok (.getfield 285, 3) := by decide +kernel
theorem dX7_copy_113 : decode YX7_copy.2.1 113 = .ok (.iload_n 1, 1) := by decide +kernel
theorem dX7_copy_114 : decode YX7_copy.2.1 114 = .ok (.aaload, 1) := by decide +kernel
theorem dX7_copy_115 : decode YX7_copy.2.1 115 = .ok (.iload_n 2, 1) := by decide +kernel
theorem dX7_copy_116 : decode YX7_copy.2.1 116 = .ok (.aload_n 0, 1) := by decide +kernel
theorem dX7_copy_117 : decode YX7_copy.2.1 117 = .ok (.getfield 39, 3) := by decide +kernel
theorem dX7_copy_120 : decode YX7_copy.2.1 120 = .ok (.getfield 285, 3) := by decide +kernel
theorem dX7_copy_123 : decode YX7_copy.2.1 123 = .ok (.iload_n 3, 1) := by decide +kernel
theorem dX7_copy_124 : decode YX7_copy.2.1 124 = .ok (.aaload, 1) := by decide +kernel
theorem dX7_copy_125 : decode YX7_copy.2.1 125 = .ok (.iload 4, 2) := by decide +kernel
theorem dX7_copy_127 : decode YX7_copy.2.1 127 = .ok (.iload 5, 2) := by decide +kernel
theorem dX7_copy_129 : decode YX7_copy.2.1 129 = .ok (.invokestatic 289, 3) := by decide +kernel
theorem dX7_copy_132 : decode YX7_copy.2.1 132 = .ok (.iload 5, 2) := by decide +kernel
theorem dX7_copy_134 : decode YX7_copy.2.1 134 = .ok (.ireturn, 1) := by decide +kernel
theorem dX7_breakInThought_0 : decode YX7_breakInThought.2.1 0 = .ok (.aload_n 0, 1) := by decide +kernel
theorem dX7_breakInThought_1 : decode YX7_breakInThought.2.1 1 = .ok (.getfield 16, 3) := by decide +kernel
theorem dX7_breakInThought_4 : decode YX7_breakInThought.2.1 4 = .ok (.aload_n 0, 1) := by decide +kernel
theorem dX7_breakInThought_5 : decode YX7_breakInThought.2.1 5 = .ok (.getfield 10, 3) := by decide +kernel
theorem dX7_breakInThought_8 : decode YX7_breakInThought.2.1 8 = .ok (.invokevirtual 197, 3) := by decide +kernel
theorem dX7_breakInThought_11 : decode YX7_breakInThought.2.1 11 = .ok (.aload_n 0, 1) := by decide +kernel
theorem dX7_breakInThought_12 : decode YX7_breakInThought.2.1 12 = .ok (.getfield 16, 3) := by decide +kernel
theorem dX7_breakInThought_15 : decode YX7_breakInThought.2.1 15 = .ok (.getfield 53, 3) := by decide +kernel
theorem dX7_breakInThought_18 : decode YX7_breakInThought.2.1 18 = .ok (.getfield 70, 3) := by decide +kernel
theorem dX7_breakInThought_21 : decode YX7_breakInThought.2.1 21 = .ok (.iload_n 1, 1) := by decide +kernel
theorem dX7_breakInThought_22 : decode YX7_breakInThought.2.1 22 = .ok (.iconst 0, 1) := by decide +kernel
theorem dX7_breakInThought_23 : decode YX7_breakInThought.2.1 23 = .ok (.bastore, 1) := by decide +kernel
theorem dX7_breakInThought_24 : decode YX7_breakInThought.2.1 24 = .ok (.return_, 1) := by decide +kernel
theorem dX7_drawInThought_0 : decode YX7_drawInThought.2.1 0 = .ok (.aload_n 0, 1) := by decide +kernel
theorem dX7_drawInThought_1 : decode YX7_drawInThought.2.1 1 = .ok (.getfield 16, 3) := by decide +kernel
theorem dX7_drawInThought_4 : decode YX7_drawInThought.2.1 4 = .ok (.aload_n 0, 1) := by decide +kernel
theorem dX7_drawInThought_5 : decode YX7_drawInThought.2.1 5 = .ok (.getfield 10, 3) := by decide +kernel
theorem dX7_drawInThought_8 : decode YX7_drawInThought.2.1 8 = .ok (.invokevirtual 197, 3) := by decide +kernel
theorem dX7_drawInThought_11 : decode YX7_drawInThought.2.1 11 = .ok (.iload_n 1, 1) := by decide +kernel
theorem dX7_drawInThought_12 : decode YX7_drawInThought.2.1 12 = .ok (.istore_n 2, 1) := by decide +kernel
theorem dX7_drawInThought_13 : decode YX7_drawInThought.2.1 13 = .ok (.iconst 0, 1) := by decide +kernel
theorem dX7_drawInThought_14 : decode YX7_drawInThought.2.1 14 = .ok (.istore_n 3, 1) := by decide +kernel
theorem dX7_drawInThought_15 : decode YX7_drawInThought.2.1 15 = .ok (.iload_n 3, 1) := by decide +kernel
theorem dX7_drawInThought_16 : decode YX7_drawInThought.2.1 16 = .ok (.aload_n 0, 1) := by decide +kernel
theorem dX7_drawInThought_17 : decode YX7_drawInThought.2.1 17 = .ok (.getfield 16, 3) := by decide +kernel
theorem dX7_drawInThought_20 : decode YX7_drawInThought.2.1 20 = .ok (.getfield 53, 3) := by decide +kernel
theorem dX7_drawInThought_23 : decode YX7_drawInThought.2.1 23 = .ok (.getfield 57, 3) := by decide +kernel
theorem dX7_drawInThought_26 : decode YX7_drawInThought.2.1 26 = .ok (.if_icmp .ge 41, 3) := by decide +kernel
theorem dX7_drawInThought_29 : decode YX7_drawInThought.2.1 29 = .ok (.iload_n 2, 1) := by decide +kernel
theorem dX7_drawInThought_30 : decode YX7_drawInThought.2.1 30 = .ok (.ldc_w 295, 3) := by decide +kernel
theorem dX7_drawInThought_33 : decode YX7_drawInThought.2.1 33 = .ok (.imul, 1) := by decide +kernel
theorem dX7_drawInThought_34 : decode YX7_drawInThought.2.1 34 = .ok (.sipush 12345, 3) := by decide +kernel
theorem dX7_drawInThought_37 : decode YX7_drawInThought.2.1 37 = .ok (.iadd, 1) := by decide +kernel
theorem dX7_drawInThought_38 : decode YX7_drawInThought.2.1 38 = .ok (.istore_n 2, 1) := by decide +kernel
theorem dX7_drawInThought_39 : decode YX7_drawInThought.2.1 39 = .ok (.iload_n 2, 1) := by decide +kernel
theorem dX7_drawInThought_40 : decode YX7_drawInThought.2.1 40 = .ok (.bipush 9, 2) := by decide +kernel
theorem dX7_drawInThought_42 : decode YX7_drawInThought.2.1 42 = .ok (.iushr, 1) := by decide +kernel
theorem dX7_drawInThought_43 : decode YX7_drawInThought.2.1 43 = .ok (.iconst 4, 1) := by decide +kernel
theorem dX7_drawInThought_44 : decode YX7_drawInThought.2.1 44 = .ok (.irem, 1) := by decide +kernel
theorem dX7_drawInThought_45 : decode YX7_drawInThought.2.1 45 = .ok (.ifCond .ne 16, 3) := by decide +kernel
theorem dX7_drawInThought_48 : decode YX7_drawInThought.2.1 48 = .ok (.aload_n 0, 1) := by decide +kernel
theorem dX7_drawInThought_49 : decode YX7_drawInThought.2.1 49 = .ok (.getfield 16, 3) := by decide +kernel
theorem dX7_drawInThought_52 : decode YX7_drawInThought.2.1 52 = .ok (.getfield 53, 3) := by decide +kernel
theorem dX7_drawInThought_55 : decode YX7_drawInThought.2.1 55 = .ok (.getfield 70, 3) := by decide +kernel
theorem dX7_drawInThought_58 : decode YX7_drawInThought.2.1 58 = .ok (.iload_n 3, 1) := by decide +kernel
theorem dX7_drawInThought_59 : decode YX7_drawInThought.2.1 59 = .ok (.iconst 0, 1) := by decide +kernel
theorem dX7_drawInThought_60 : decode YX7_drawInThought.2.1 60 = .ok (.bastore, 1) := by decide +kernel
theorem dX7_drawInThought_61 : decode YX7_drawInThought.2.1 61 = .ok (.iinc 3 1, 3) := by decide +kernel
theorem dX7_drawInThought_64 : decode YX7_drawInThought.2.1 64 = .ok (.goto (-49), 3) := by decide +kernel
theorem dX7_drawInThought_67 : decode YX7_drawInThought.2.1 67 = .ok (.return_, 1) := by decide +kernel
theorem dX7_costInThought_0 : decode YX7_costInThought.2.1 0 = .ok (.aload_n 0, 1) := by decide +kernel
theorem dX7_costInThought_1 : decode YX7_costInThought.2.1 1 = .ok (.getfield 16, 3) := by decide +kernel
theorem dX7_costInThought_4 : decode YX7_costInThought.2.1 4 = .ok (.aload_n 0, 1) := by decide +kernel
theorem dX7_costInThought_5 : decode YX7_costInThought.2.1 5 = .ok (.getfield 10, 3) := by decide +kernel
theorem dX7_costInThought_8 : decode YX7_costInThought.2.1 8 = .ok (.invokevirtual 197, 3) := by decide +kernel
theorem dX7_costInThought_11 : decode YX7_costInThought.2.1 11 = .ok (.aload_n 0, 1) := by decide +kernel
theorem dX7_costInThought_12 : decode YX7_costInThought.2.1 12 = .ok (.getfield 16, 3) := by decide +kernel
theorem dX7_costInThought_15 : decode YX7_costInThought.2.1 15 = .ok (.getfield 53, 3) := by decide +kernel
theorem dX7_costInThought_18 : decode YX7_costInThought.2.1 18 = .ok (.getfield 74, 3) := by decide +kernel
theorem dX7_costInThought_21 : decode YX7_costInThought.2.1 21 = .ok (.iload_n 1, 1) := by decide +kernel
theorem dX7_costInThought_22 : decode YX7_costInThought.2.1 22 = .ok (.iload_n 2, 1) := by decide +kernel
theorem dX7_costInThought_23 : decode YX7_costInThought.2.1 23 = .ok (.iastore, 1) := by decide +kernel
theorem dX7_costInThought_24 : decode YX7_costInThought.2.1 24 = .ok (.return_, 1) := by decide +kernel
theorem dX7_reached_0 : decode YX7_reached.2.1 0 = .ok (.aload_n 0, 1) := by decide +kernel
theorem dX7_reached_1 : decode YX7_reached.2.1 1 = .ok (.getfield 25, 3) := by decide +kernel
theorem dX7_reached_4 : decode YX7_reached.2.1 4 = .ok (.aload_n 0, 1) := by decide +kernel
theorem dX7_reached_5 : decode YX7_reached.2.1 5 = .ok (.getfield 16, 3) := by decide +kernel
theorem dX7_reached_8 : decode YX7_reached.2.1 8 = .ok (.iload_n 1, 1) := by decide +kernel
theorem dX7_reached_9 : decode YX7_reached.2.1 9 = .ok (.invokevirtual 167, 3) := by decide +kernel
theorem dX7_reached_12 : decode YX7_reached.2.1 12 = .ok (.iconst 0, 1) := by decide +kernel
theorem dX7_reached_13 : decode YX7_reached.2.1 13 = .ok (.istore_n 2, 1) := by decide +kernel
theorem dX7_reached_14 : decode YX7_reached.2.1 14 = .ok (.iconst 0, 1) := by decide +kernel
theorem dX7_reached_15 : decode YX7_reached.2.1 15 = .ok (.istore_n 3, 1) := by decide +kernel
theorem dX7_reached_16 : decode YX7_reached.2.1 16 = .ok (.iload_n 3, 1) := by decide +kernel
theorem dX7_reached_17 : decode YX7_reached.2.1 17 = .ok (.bipush 8, 2) := by decide +kernel
theorem dX7_reached_19 : decode YX7_reached.2.1 19 = .ok (.if_icmp .ge 28, 3) := by decide +kernel
theorem dX7_reached_22 : decode YX7_reached.2.1 22 = .ok (.aload_n 0, 1) := by decide +kernel
theorem dX7_reached_23 : decode YX7_reached.2.1 23 = .ok (.getfield 25, 3) := by decide +kernel
theorem dX7_reached_26 : decode YX7_reached.2.1 26 = .ok (.getfield 171, 3) := by decide +kernel
theorem dX7_reached_29 : decode YX7_reached.2.1 29 = .ok (.iload_n 3, 1) := by decide +kernel
theorem dX7_reached_30 : decode YX7_reached.2.1 30 = .ok (.iaload, 1) := by decide +kernel
theorem dX7_reached_31 : decode YX7_reached.2.1 31 = .ok (.iconst (-1), 1) := by decide +kernel
theorem dX7_reached_32 : decode YX7_reached.2.1 32 = .ok (.if_icmp .eq 9, 3) := by decide +kernel
theorem dX7_reached_35 : decode YX7_reached.2.1 35 = .ok (.iload_n 2, 1) := by decide +kernel
theorem dX7_reached_36 : decode YX7_reached.2.1 36 = .ok (.iconst 1, 1) := by decide +kernel
theorem dX7_reached_37 : decode YX7_reached.2.1 37 = .ok (.iload_n 3, 1) := by decide +kernel
theorem dX7_reached_38 : decode YX7_reached.2.1 38 = .ok (.ishl, 1) := by decide +kernel
theorem dX7_reached_39 : decode YX7_reached.2.1 39 = .ok (.ior, 1) := by decide +kernel
theorem dX7_reached_40 : decode YX7_reached.2.1 40 = .ok (.istore_n 2, 1) := by decide +kernel
theorem dX7_reached_41 : decode YX7_reached.2.1 41 = .ok (.iinc 3 1, 3) := by decide +kernel
theorem dX7_reached_44 : decode YX7_reached.2.1 44 = .ok (.goto (-28), 3) := by decide +kernel
theorem dX7_reached_47 : decode YX7_reached.2.1 47 = .ok (.iload_n 2, 1) := by decide +kernel
theorem dX7_reached_48 : decode YX7_reached.2.1 48 = .ok (.ireturn, 1) := by decide +kernel
theorem dX7_firstOtherwise_0 : decode YX7_firstOtherwise.2.1 0 = .ok (.aload_n 0, 1) := by decide +kernel
theorem dX7_firstOtherwise_1 : decode YX7_firstOtherwise.2.1 1 = .ok (.getfield 25, 3) := by decide +kernel
theorem dX7_firstOtherwise_4 : decode YX7_firstOtherwise.2.1 4 = .ok (.aload_n 1, 1) := by decide +kernel
theorem dX7_firstOtherwise_5 : decode YX7_firstOtherwise.2.1 5 = .ok (.iload_n 3, 1) := by decide +kernel
theorem dX7_firstOtherwise_6 : decode YX7_firstOtherwise.2.1 6 = .ok (.invokevirtual 167, 3) := by decide +kernel
theorem dX7_firstOtherwise_9 : decode YX7_firstOtherwise.2.1 9 = .ok (.aload_n 0, 1) := by decide +kernel
theorem dX7_firstOtherwise_10 : decode YX7_firstOtherwise.2.1 10 = .ok (.getfield 39, 3) := by decide +kernel
theorem dX7_firstOtherwise_13 : decode YX7_firstOtherwise.2.1 13 = .ok (.getfield 285, 3) := by decide +kernel
theorem dX7_firstOtherwise_16 : decode YX7_firstOtherwise.2.1 16 = .ok (.iload_n 2, 1) := by decide +kernel
theorem dX7_firstOtherwise_17 : decode YX7_firstOtherwise.2.1 17 = .ok (.aaload, 1) := by decide +kernel
theorem dX7_firstOtherwise_18 : decode YX7_firstOtherwise.2.1 18 = .ok (.astore 4, 2) := by decide +kernel
theorem dX7_firstOtherwise_20 : decode YX7_firstOtherwise.2.1 20 = .ok (.aload_n 0, 1) := by decide +kernel
theorem dX7_firstOtherwise_21 : decode YX7_firstOtherwise.2.1 21 = .ok (.getfield 39, 3) := by decide +kernel
theorem dX7_firstOtherwise_24 : decode YX7_firstOtherwise.2.1 24 = .ok (.getfield 240, 3) := by decide +kernel
theorem dX7_firstOtherwise_27 : decode YX7_firstOtherwise.2.1 27 = .ok (.iload_n 2, 1) := by decide +kernel
theorem dX7_firstOtherwise_28 : decode YX7_firstOtherwise.2.1 28 = .ok (.iaload, 1) := by decide +kernel
theorem dX7_firstOtherwise_29 : decode YX7_firstOtherwise.2.1 29 = .ok (.bipush 8, 2) := by decide +kernel
theorem dX7_firstOtherwise_31 : decode YX7_firstOtherwise.2.1 31 = .ok (.invokestatic 296, 3) := by decide +kernel
theorem dX7_firstOtherwise_34 : decode YX7_firstOtherwise.2.1 34 = .ok (.istore 5, 2) := by decide +kernel
theorem dX7_firstOtherwise_36 : decode YX7_firstOtherwise.2.1 36 = .ok (.iconst 0, 1) := by decide +kernel
theorem dX7_firstOtherwise_37 : decode YX7_firstOtherwise.2.1 37 = .ok (.istore 6, 2) := by decide +kernel
theorem dX7_firstOtherwise_39 : decode YX7_firstOtherwise.2.1 39 = .ok (.iload 6, 2) := by decide +kernel
theorem dX7_firstOtherwise_41 : decode YX7_firstOtherwise.2.1 41 = .ok (.iload 5, 2) := by decide +kernel
theorem dX7_firstOtherwise_43 : decode YX7_firstOtherwise.2.1 43 = .ok (.if_icmp .ge 30, 3) := by decide +kernel
theorem dX7_firstOtherwise_46 : decode YX7_firstOtherwise.2.1 46 = .ok (.aload 4, 2) := by decide +kernel
theorem dX7_firstOtherwise_48 : decode YX7_firstOtherwise.2.1 48 = .ok (.iload 6, 2) := by decide +kernel
theorem dX7_firstOtherwise_50 : decode YX7_firstOtherwise.2.1 50 = .ok (.iaload, 1) := by decide +kernel
theorem dX7_firstOtherwise_51 : decode YX7_firstOtherwise.2.1 51 = .ok (.aload_n 0, 1) := by decide +kernel
theorem dX7_firstOtherwise_52 : decode YX7_firstOtherwise.2.1 52 = .ok (.getfield 25, 3) := by decide +kernel
theorem dX7_firstOtherwise_55 : decode YX7_firstOtherwise.2.1 55 = .ok (.getfield 171, 3) := by decide +kernel
theorem dX7_firstOtherwise_58 : decode YX7_firstOtherwise.2.1 58 = .ok (.iload 6, 2) := by decide +kernel
theorem dX7_firstOtherwise_60 : decode YX7_firstOtherwise.2.1 60 = .ok (.iaload, 1) := by decide +kernel
theorem dX7_firstOtherwise_61 : decode YX7_firstOtherwise.2.1 61 = .ok (.if_icmp .eq 6, 3) := by decide +kernel
theorem dX7_firstOtherwise_64 : decode YX7_firstOtherwise.2.1 64 = .ok (.iload 6, 2) := by decide +kernel
theorem dX7_firstOtherwise_66 : decode YX7_firstOtherwise.2.1 66 = .ok (.ireturn, 1) := by decide +kernel
theorem dX7_firstOtherwise_67 : decode YX7_firstOtherwise.2.1 67 = .ok (.iinc 6 1, 3) := by decide +kernel
theorem dX7_firstOtherwise_70 : decode YX7_firstOtherwise.2.1 70 = .ok (.goto (-31), 3) := by decide +kernel
theorem dX7_firstOtherwise_73 : decode YX7_firstOtherwise.2.1 73 = .ok (.iconst (-1), 1) := by decide +kernel
theorem dX7_firstOtherwise_74 : decode YX7_firstOtherwise.2.1 74 = .ok (.ireturn, 1) := by decide +kernel
theorem dX7_routersToldSo_0 : decode YX7_routersToldSo.2.1 0 = .ok (.iconst 0, 1) := by decide +kernel
theorem dX7_routersToldSo_1 : decode YX7_routersToldSo.2.1 1 = .ok (.istore_n 2, 1) := by decide +kernel
theorem dX7_routersToldSo_2 : decode YX7_routersToldSo.2.1 2 = .ok (.iconst 0, 1) := by decide +kernel
theorem dX7_routersToldSo_3 : decode YX7_routersToldSo.2.1 3 = .ok (.istore_n 3, 1) := by decide +kernel
theorem dX7_routersToldSo_4 : decode YX7_routersToldSo.2.1 4 = .ok (.iload_n 3, 1) := by decide +kernel
theorem dX7_routersToldSo_5 : decode YX7_routersToldSo.2.1 5 = .ok (.bipush 8, 2) := by decide +kernel
theorem dX7_routersToldSo_7 : decode YX7_routersToldSo.2.1 7 = .ok (.if_icmp .ge 29, 3) := by decide +kernel
theorem dX7_routersToldSo_10 : decode YX7_routersToldSo.2.1 10 = .ok (.aload_n 0, 1) := by decide +kernel
theorem dX7_routersToldSo_11 : decode YX7_routersToldSo.2.1 11 = .ok (.aload_n 0, 1) := by decide +kernel
theorem dX7_routersToldSo_12 : decode YX7_routersToldSo.2.1 12 = .ok (.getfield 10, 3) := by decide +kernel
theorem dX7_routersToldSo_15 : decode YX7_routersToldSo.2.1 15 = .ok (.iload_n 1, 1) := by decide +kernel
theorem dX7_routersToldSo_16 : decode YX7_routersToldSo.2.1 16 = .ok (.iload_n 3, 1) := by decide +kernel
theorem dX7_routersToldSo_17 : decode YX7_routersToldSo.2.1 17 = .ok (.invokevirtual 242, 3) := by decide +kernel
theorem dX7_routersToldSo_20 : decode YX7_routersToldSo.2.1 20 = .ok (.iconst (-1), 1) := by decide +kernel
theorem dX7_routersToldSo_21 : decode YX7_routersToldSo.2.1 21 = .ok (.if_icmp .ne 9, 3) := by decide +kernel
theorem dX7_routersToldSo_24 : decode YX7_routersToldSo.2.1 24 = .ok (.iload_n 2, 1) := by decide +kernel
theorem dX7_routersToldSo_25 : decode YX7_routersToldSo.2.1 25 = .ok (.iconst 1, 1) := by decide +kernel
theorem dX7_routersToldSo_26 : decode YX7_routersToldSo.2.1 26 = .ok (.iload_n 3, 1) := by decide +kernel
theorem dX7_routersToldSo_27 : decode YX7_routersToldSo.2.1 27 = .ok (.ishl, 1) := by decide +kernel
theorem dX7_routersToldSo_28 : decode YX7_routersToldSo.2.1 28 = .ok (.ior, 1) := by decide +kernel
theorem dX7_routersToldSo_29 : decode YX7_routersToldSo.2.1 29 = .ok (.istore_n 2, 1) := by decide +kernel
theorem dX7_routersToldSo_30 : decode YX7_routersToldSo.2.1 30 = .ok (.iinc 3 1, 3) := by decide +kernel
theorem dX7_routersToldSo_33 : decode YX7_routersToldSo.2.1 33 = .ok (.goto (-29), 3) := by decide +kernel
theorem dX7_routersToldSo_36 : decode YX7_routersToldSo.2.1 36 = .ok (.iload_n 2, 1) := by decide +kernel
theorem dX7_routersToldSo_37 : decode YX7_routersToldSo.2.1 37 = .ok (.ireturn, 1) := by decide +kernel
theorem dX7_linksToldSo_0 : decode YX7_linksToldSo.2.1 0 = .ok (.iconst 0, 1) := by decide +kernel
theorem dX7_linksToldSo_1 : decode YX7_linksToldSo.2.1 1 = .ok (.istore_n 3, 1) := by decide +kernel
theorem dX7_linksToldSo_2 : decode YX7_linksToldSo.2.1 2 = .ok (.iconst 0, 1) := by decide +kernel
theorem dX7_linksToldSo_3 : decode YX7_linksToldSo.2.1 3 = .ok (.istore 4, 2) := by decide +kernel
theorem dX7_linksToldSo_5 : decode YX7_linksToldSo.2.1 5 = .ok (.iload 4, 2) := by decide +kernel
theorem dX7_linksToldSo_7 : decode YX7_linksToldSo.2.1 7 = .ok (.aload_n 0, 1) := by decide +kernel
theorem dX7_linksToldSo_8 : decode YX7_linksToldSo.2.1 8 = .ok (.getfield 10, 3) := by decide +kernel
theorem dX7_linksToldSo_11 : decode YX7_linksToldSo.2.1 11 = .ok (.getfield 53, 3) := by decide +kernel
theorem dX7_linksToldSo_14 : decode YX7_linksToldSo.2.1 14 = .ok (.getfield 57, 3) := by decide +kernel
theorem dX7_linksToldSo_17 : decode YX7_linksToldSo.2.1 17 = .ok (.if_icmp .ge 62, 3) := by decide +kernel
theorem dX7_linksToldSo_20 : decode YX7_linksToldSo.2.1 20 = .ok (.aload_n 0, 1) := by decide +kernel
theorem dX7_linksToldSo_21 : decode YX7_linksToldSo.2.1 21 = .ok (.getfield 10, 3) := by decide +kernel
theorem dX7_linksToldSo_24 : decode YX7_linksToldSo.2.1 24 = .ok (.getfield 53, 3) := by decide +kernel
theorem dX7_linksToldSo_27 : decode YX7_linksToldSo.2.1 27 = .ok (.getfield 70, 3) := by decide +kernel
theorem dX7_linksToldSo_30 : decode YX7_linksToldSo.2.1 30 = .ok (.iload 4, 2) := by decide +kernel
theorem dX7_linksToldSo_32 : decode YX7_linksToldSo.2.1 32 = .ok (.baload, 1) := by decide +kernel
theorem dX7_linksToldSo_33 : decode YX7_linksToldSo.2.1 33 = .ok (.ifCond .eq 40, 3) := by decide +kernel
theorem dX7_linksToldSo_36 : decode YX7_linksToldSo.2.1 36 = .ok (.aload_n 0, 1) := by decide +kernel
theorem dX7_linksToldSo_37 : decode YX7_linksToldSo.2.1 37 = .ok (.iload 4, 2) := by decide +kernel
theorem dX7_linksToldSo_39 : decode YX7_linksToldSo.2.1 39 = .ok (.invokevirtual 211, 3) := by decide +kernel
theorem dX7_linksToldSo_42 : decode YX7_linksToldSo.2.1 42 = .ok (.aload_n 0, 1) := by decide +kernel
theorem dX7_linksToldSo_43 : decode YX7_linksToldSo.2.1 43 = .ok (.getfield 16, 3) := by decide +kernel
theorem dX7_linksToldSo_46 : decode YX7_linksToldSo.2.1 46 = .ok (.bipush 40, 2) := by decide +kernel
theorem dX7_linksToldSo_48 : decode YX7_linksToldSo.2.1 48 = .ok (.invokevirtual 106, 3) := by decide +kernel
theorem dX7_linksToldSo_51 : decode YX7_linksToldSo.2.1 51 = .ok (.pop, 1) := by decide +kernel
theorem dX7_linksToldSo_52 : decode YX7_linksToldSo.2.1 52 = .ok (.aload_n 0, 1) := by decide +kernel
theorem dX7_linksToldSo_53 : decode YX7_linksToldSo.2.1 53 = .ok (.aload_n 0, 1) := by decide +kernel
theorem dX7_linksToldSo_54 : decode YX7_linksToldSo.2.1 54 = .ok (.getfield 16, 3) := by decide +kernel
theorem dX7_linksToldSo_57 : decode YX7_linksToldSo.2.1 57 = .ok (.iload_n 1, 1) := by decide +kernel
theorem dX7_linksToldSo_58 : decode YX7_linksToldSo.2.1 58 = .ok (.iload_n 2, 1) := by decide +kernel
theorem dX7_linksToldSo_59 : decode YX7_linksToldSo.2.1 59 = .ok (.invokevirtual 242, 3) := by decide +kernel
theorem dX7_linksToldSo_62 : decode YX7_linksToldSo.2.1 62 = .ok (.iconst (-1), 1) := by decide +kernel
theorem dX7_linksToldSo_63 : decode YX7_linksToldSo.2.1 63 = .ok (.if_icmp .ne 10, 3) := by decide +kernel
theorem dX7_linksToldSo_66 : decode YX7_linksToldSo.2.1 66 = .ok (.iload_n 3, 1) := by decide +kernel
theorem dX7_linksToldSo_67 : decode YX7_linksToldSo.2.1 67 = .ok (.iconst 1, 1) := by decide +kernel
theorem dX7_linksToldSo_68 : decode YX7_linksToldSo.2.1 68 = .ok (.iload 4, 2) := by decide +kernel
theorem dX7_linksToldSo_70 : decode YX7_linksToldSo.2.1 70 = .ok (.ishl, 1) := by decide +kernel
theorem dX7_linksToldSo_71 : decode YX7_linksToldSo.2.1 71 = .ok (.ior, 1) := by decide +kernel
theorem dX7_linksToldSo_72 : decode YX7_linksToldSo.2.1 72 = .ok (.istore_n 3, 1) := by decide +kernel
theorem dX7_linksToldSo_73 : decode YX7_linksToldSo.2.1 73 = .ok (.iinc 4 1, 3) := by decide +kernel
theorem dX7_linksToldSo_76 : decode YX7_linksToldSo.2.1 76 = .ok (.goto (-71), 3) := by decide +kernel
theorem dX7_linksToldSo_79 : decode YX7_linksToldSo.2.1 79 = .ok (.iload_n 3, 1) := by decide +kernel
theorem dX7_linksToldSo_80 : decode YX7_linksToldSo.2.1 80 = .ok (.ireturn, 1) := by decide +kernel
theorem dX7_costsToldSo_0 : decode YX7_costsToldSo.2.1 0 = .ok (.iconst 0, 1) := by decide +kernel
theorem dX7_costsToldSo_1 : decode YX7_costsToldSo.2.1 1 = .ok (.istore 4, 2) := by decide +kernel
theorem dX7_costsToldSo_3 : decode YX7_costsToldSo.2.1 3 = .ok (.iconst 1, 1) := by decide +kernel
theorem dX7_costsToldSo_4 : decode YX7_costsToldSo.2.1 4 = .ok (.istore 5, 2) := by decide +kernel
theorem dX7_costsToldSo_6 : decode YX7_costsToldSo.2.1 6 = .ok (.iload 5, 2) := by decide +kernel
theorem dX7_costsToldSo_8 : decode YX7_costsToldSo.2.1 8 = .ok (.bipush 12, 2) := by decide +kernel
theorem dX7_costsToldSo_10 : decode YX7_costsToldSo.2.1 10 = .ok (.if_icmp .gt 49, 3) := by decide +kernel
theorem dX7_costsToldSo_13 : decode YX7_costsToldSo.2.1 13 = .ok (.aload_n 0, 1) := by decide +kernel
theorem dX7_costsToldSo_14 : decode YX7_costsToldSo.2.1 14 = .ok (.iload_n 3, 1) := by decide +kernel
theorem dX7_costsToldSo_15 : decode YX7_costsToldSo.2.1 15 = .ok (.iload 5, 2) := by decide +kernel
theorem dX7_costsToldSo_17 : decode YX7_costsToldSo.2.1 17 = .ok (.invokevirtual 301, 3) := by decide +kernel
theorem dX7_costsToldSo_20 : decode YX7_costsToldSo.2.1 20 = .ok (.aload_n 0, 1) := by decide +kernel
theorem dX7_costsToldSo_21 : decode YX7_costsToldSo.2.1 21 = .ok (.getfield 16, 3) := by decide +kernel
theorem dX7_costsToldSo_24 : decode YX7_costsToldSo.2.1 24 = .ok (.bipush 40, 2) := by decide +kernel
theorem dX7_costsToldSo_26 : decode YX7_costsToldSo.2.1 26 = .ok (.invokevirtual 106, 3) := by decide +kernel
theorem dX7_costsToldSo_29 : decode YX7_costsToldSo.2.1 29 = .ok (.pop, 1) := by decide +kernel
theorem dX7_costsToldSo_30 : decode YX7_costsToldSo.2.1 30 = .ok (.aload_n 0, 1) := by decide +kernel
theorem dX7_costsToldSo_31 : decode YX7_costsToldSo.2.1 31 = .ok (.aload_n 0, 1) := by decide +kernel
theorem dX7_costsToldSo_32 : decode YX7_costsToldSo.2.1 32 = .ok (.getfield 16, 3) := by decide +kernel
theorem dX7_costsToldSo_35 : decode YX7_costsToldSo.2.1 35 = .ok (.iload_n 1, 1) := by decide +kernel
theorem dX7_costsToldSo_36 : decode YX7_costsToldSo.2.1 36 = .ok (.iload_n 2, 1) := by decide +kernel
theorem dX7_costsToldSo_37 : decode YX7_costsToldSo.2.1 37 = .ok (.invokevirtual 242, 3) := by decide +kernel
theorem dX7_costsToldSo_40 : decode YX7_costsToldSo.2.1 40 = .ok (.iconst (-1), 1) := by decide +kernel
theorem dX7_costsToldSo_41 : decode YX7_costsToldSo.2.1 41 = .ok (.if_icmp .ne 12, 3) := by decide +kernel
theorem dX7_costsToldSo_44 : decode YX7_costsToldSo.2.1 44 = .ok (.iload 4, 2) := by decide +kernel
theorem dX7_costsToldSo_46 : decode YX7_costsToldSo.2.1 46 = .ok (.iconst 1, 1) := by decide +kernel
theorem dX7_costsToldSo_47 : decode YX7_costsToldSo.2.1 47 = .ok (.iload 5, 2) := by decide +kernel
theorem dX7_costsToldSo_49 : decode YX7_costsToldSo.2.1 49 = .ok (.ishl, 1) := by decide +kernel
theorem dX7_costsToldSo_50 : decode YX7_costsToldSo.2.1 50 = .ok (.ior, 1) := by decide +kernel
theorem dX7_costsToldSo_51 : decode YX7_costsToldSo.2.1 51 = .ok (.istore 4, 2) := by decide +kernel
theorem dX7_costsToldSo_53 : decode YX7_costsToldSo.2.1 53 = .ok (.iinc 5 1, 3) := by decide +kernel
theorem dX7_costsToldSo_56 : decode YX7_costsToldSo.2.1 56 = .ok (.goto (-50), 3) := by decide +kernel
theorem dX7_costsToldSo_59 : decode YX7_costsToldSo.2.1 59 = .ok (.iload 4, 2) := by decide +kernel
theorem dX7_costsToldSo_61 : decode YX7_costsToldSo.2.1 61 = .ok (.ireturn, 1) := by decide +kernel
theorem dX7_isRouter_0 : decode YX7_isRouter.2.1 0 = .ok (.iload_n 0, 1) := by decide +kernel
theorem dX7_isRouter_1 : decode YX7_isRouter.2.1 1 = .ok (.ifCond .lt 13, 3) := by decide +kernel
theorem dX7_isRouter_4 : decode YX7_isRouter.2.1 4 = .ok (.iload_n 0, 1) := by decide +kernel
theorem dX7_isRouter_5 : decode YX7_isRouter.2.1 5 = .ok (.bipush 8, 2) := by decide +kernel
theorem dX7_isRouter_7 : decode YX7_isRouter.2.1 7 = .ok (.if_icmp .ge 7, 3) := by decide +kernel
theorem dX7_isRouter_10 : decode YX7_isRouter.2.1 10 = .ok (.iconst 1, 1) := by decide +kernel
theorem dX7_isRouter_11 : decode YX7_isRouter.2.1 11 = .ok (.goto 4, 3) := by decide +kernel
theorem dX7_isRouter_14 : decode YX7_isRouter.2.1 14 = .ok (.iconst 0, 1) := by decide +kernel
theorem dX7_isRouter_15 : decode YX7_isRouter.2.1 15 = .ok (.ireturn, 1) := by decide +kernel
theorem dX7_isArea_0 : decode YX7_isArea.2.1 0 = .ok (.iload_n 0, 1) := by decide +kernel
theorem dX7_isArea_1 : decode YX7_isArea.2.1 1 = .ok (.ifCond .lt 12, 3) := by decide +kernel
theorem dX7_isArea_4 : decode YX7_isArea.2.1 4 = .ok (.iload_n 0, 1) := by decide +kernel
theorem dX7_isArea_5 : decode YX7_isArea.2.1 5 = .ok (.iconst 3, 1) := by decide +kernel
theorem dX7_isArea_6 : decode YX7_isArea.2.1 6 = .ok (.if_icmp .ge 7, 3) := by decide +kernel
theorem dX7_isArea_9 : decode YX7_isArea.2.1 9 = .ok (.iconst 1, 1) := by decide +kernel
theorem dX7_isArea_10 : decode YX7_isArea.2.1 10 = .ok (.goto 4, 3) := by decide +kernel
theorem dX7_isArea_13 : decode YX7_isArea.2.1 13 = .ok (.iconst 0, 1) := by decide +kernel
theorem dX7_isArea_14 : decode YX7_isArea.2.1 14 = .ok (.ireturn, 1) := by decide +kernel
theorem dX7_isCost_0 : decode YX7_isCost.2.1 0 = .ok (.iload_n 0, 1) := by decide +kernel
theorem dX7_isCost_1 : decode YX7_isCost.2.1 1 = .ok (.iconst 1, 1) := by decide +kernel
theorem dX7_isCost_2 : decode YX7_isCost.2.1 2 = .ok (.if_icmp .lt 13, 3) := by decide +kernel
theorem dX7_isCost_5 : decode YX7_isCost.2.1 5 = .ok (.iload_n 0, 1) := by decide +kernel
theorem dX7_isCost_6 : decode YX7_isCost.2.1 6 = .ok (.bipush 99, 2) := by decide +kernel
theorem dX7_isCost_8 : decode YX7_isCost.2.1 8 = .ok (.if_icmp .gt 7, 3) := by decide +kernel
theorem dX7_isCost_11 : decode YX7_isCost.2.1 11 = .ok (.iconst 1, 1) := by decide +kernel
theorem dX7_isCost_12 : decode YX7_isCost.2.1 12 = .ok (.goto 4, 3) := by decide +kernel
theorem dX7_isCost_15 : decode YX7_isCost.2.1 15 = .ok (.iconst 0, 1) := by decide +kernel
theorem dX7_isCost_16 : decode YX7_isCost.2.1 16 = .ok (.ireturn, 1) := by decide +kernel
theorem dX7_isOfAdvert_0 : decode YX7_isOfAdvert.2.1 0 = .ok (.iload_n 0, 1) := by decide +kernel
theorem dX7_isOfAdvert_1 : decode YX7_isOfAdvert.2.1 1 = .ok (.bipush 10, 2) := by decide +kernel
theorem dX7_isOfAdvert_3 : decode YX7_isOfAdvert.2.1 3 = .ok (.if_icmp .lt 13, 3) := by decide +kernel
theorem dX7_isOfAdvert_6 : decode YX7_isOfAdvert.2.1 6 = .ok (.iload_n 0, 1) := by decide +kernel
theorem dX7_isOfAdvert_7 : decode YX7_isOfAdvert.2.1 7 = .ok (.bipush 22, 2) := by decide +kernel
theorem dX7_isOfAdvert_9 : decode YX7_isOfAdvert.2.1 9 = .ok (.if_icmp .ge 7, 3) := by decide +kernel
theorem dX7_isOfAdvert_12 : decode YX7_isOfAdvert.2.1 12 = .ok (.iconst 1, 1) := by decide +kernel
theorem dX7_isOfAdvert_13 : decode YX7_isOfAdvert.2.1 13 = .ok (.goto 4, 3) := by decide +kernel
theorem dX7_isOfAdvert_16 : decode YX7_isOfAdvert.2.1 16 = .ok (.iconst 0, 1) := by decide +kernel
theorem dX7_isOfAdvert_17 : decode YX7_isOfAdvert.2.1 17 = .ok (.istore_n 1, 1) := by decide +kernel
theorem dX7_isOfAdvert_18 : decode YX7_isOfAdvert.2.1 18 = .ok (.iload_n 0, 1) := by decide +kernel
theorem dX7_isOfAdvert_19 : decode YX7_isOfAdvert.2.1 19 = .ok (.bipush 30, 2) := by decide +kernel
theorem dX7_isOfAdvert_21 : decode YX7_isOfAdvert.2.1 21 = .ok (.if_icmp .lt 13, 3) := by decide +kernel
theorem dX7_isOfAdvert_24 : decode YX7_isOfAdvert.2.1 24 = .ok (.iload_n 0, 1) := by decide +kernel
theorem dX7_isOfAdvert_25 : decode YX7_isOfAdvert.2.1 25 = .ok (.bipush 38, 2) := by decide +kernel
theorem dX7_isOfAdvert_27 : decode YX7_isOfAdvert.2.1 27 = .ok (.if_icmp .ge 7, 3) := by decide +kernel
theorem dX7_isOfAdvert_30 : decode YX7_isOfAdvert.2.1 30 = .ok (.iconst 1, 1) := by decide +kernel
theorem dX7_isOfAdvert_31 : decode YX7_isOfAdvert.2.1 31 = .ok (.goto 4, 3) := by decide +kernel
theorem dX7_isOfAdvert_34 : decode YX7_isOfAdvert.2.1 34 = .ok (.iconst 0, 1) := by decide +kernel
theorem dX7_isOfAdvert_35 : decode YX7_isOfAdvert.2.1 35 = .ok (.istore_n 2, 1) := by decide +kernel
theorem dX7_isOfAdvert_36 : decode YX7_isOfAdvert.2.1 36 = .ok (.iload_n 0, 1) := by decide +kernel
theorem dX7_isOfAdvert_37 : decode YX7_isOfAdvert.2.1 37 = .ok (.ifCond .lt 8, 3) := by decide +kernel
theorem dX7_isOfAdvert_40 : decode YX7_isOfAdvert.2.1 40 = .ok (.iload_n 0, 1) := by decide +kernel
theorem dX7_isOfAdvert_41 : decode YX7_isOfAdvert.2.1 41 = .ok (.iconst 2, 1) := by decide +kernel
theorem dX7_isOfAdvert_42 : decode YX7_isOfAdvert.2.1 42 = .ok (.if_icmp .le 11, 3) := by decide +kernel
theorem dX7_isOfAdvert_45 : decode YX7_isOfAdvert.2.1 45 = .ok (.iload_n 1, 1) := by decide +kernel
theorem dX7_isOfAdvert_46 : decode YX7_isOfAdvert.2.1 46 = .ok (.ifCond .ne 7, 3) := by decide +kernel
theorem dX7_isOfAdvert_49 : decode YX7_isOfAdvert.2.1 49 = .ok (.iload_n 2, 1) := by decide +kernel
theorem dX7_isOfAdvert_50 : decode YX7_isOfAdvert.2.1 50 = .ok (.ifCond .eq 7, 3) := by decide +kernel
theorem dX7_isOfAdvert_53 : decode YX7_isOfAdvert.2.1 53 = .ok (.iconst 1, 1) := by decide +kernel
theorem dX7_isOfAdvert_54 : decode YX7_isOfAdvert.2.1 54 = .ok (.goto 4, 3) := by decide +kernel
theorem dX7_isOfAdvert_57 : decode YX7_isOfAdvert.2.1 57 = .ok (.iconst 0, 1) := by decide +kernel
theorem dX7_isOfAdvert_58 : decode YX7_isOfAdvert.2.1 58 = .ok (.ireturn, 1) := by decide +kernel
theorem dX7_isOfTold_0 : decode YX7_isOfTold.2.1 0 = .ok (.iload_n 0, 1) := by decide +kernel
theorem dX7_isOfTold_1 : decode YX7_isOfTold.2.1 1 = .ok (.ifCond .lt 27, 3) := by decide +kernel
theorem dX7_isOfTold_4 : decode YX7_isOfTold.2.1 4 = .ok (.iload_n 0, 1) := by decide +kernel
theorem dX7_isOfTold_5 : decode YX7_isOfTold.2.1 5 = .ok (.iconst 4, 1) := by decide +kernel
theorem dX7_isOfTold_6 : decode YX7_isOfTold.2.1 6 = .ok (.if_icmp .ge 11, 3) := by decide +kernel
theorem dX7_isOfTold_9 : decode YX7_isOfTold.2.1 9 = .ok (.iload_n 0, 1) := by decide +kernel
theorem dX7_isOfTold_10 : decode YX7_isOfTold.2.1 10 = .ok (.iconst 2, 1) := by decide +kernel
theorem dX7_isOfTold_11 : decode YX7_isOfTold.2.1 11 = .ok (.if_icmp .gt 17, 3) := by decide +kernel
theorem dX7_isOfTold_14 : decode YX7_isOfTold.2.1 14 = .ok (.goto 10, 3) := by decide +kernel
theorem dX7_isOfTold_17 : decode YX7_isOfTold.2.1 17 = .ok (.iload_n 0, 1) := by decide +kernel
theorem dX7_isOfTold_18 : decode YX7_isOfTold.2.1 18 = .ok (.iconst 4, 1) := by decide +kernel
theorem dX7_isOfTold_19 : decode YX7_isOfTold.2.1 19 = .ok (.irem, 1) := by decide +kernel
theorem dX7_isOfTold_20 : decode YX7_isOfTold.2.1 20 = .ok (.iconst 1, 1) := by decide +kernel
theorem dX7_isOfTold_21 : decode YX7_isOfTold.2.1 21 = .ok (.if_icmp .gt 7, 3) := by decide +kernel
theorem dX7_isOfTold_24 : decode YX7_isOfTold.2.1 24 = .ok (.iconst 1, 1) := by decide +kernel
theorem dX7_isOfTold_25 : decode YX7_isOfTold.2.1 25 = .ok (.goto 4, 3) := by decide +kernel
theorem dX7_isOfTold_28 : decode YX7_isOfTold.2.1 28 = .ok (.iconst 0, 1) := by decide +kernel
theorem dX7_isOfTold_29 : decode YX7_isOfTold.2.1 29 = .ok (.ireturn, 1) := by decide +kernel
theorem dX7_isBorder_0 : decode YX7_isBorder.2.1 0 = .ok (.iload_n 0, 1) := by decide +kernel
theorem dX7_isBorder_1 : decode YX7_isBorder.2.1 1 = .ok (.iconst 1, 1) := by decide +kernel
theorem dX7_isBorder_2 : decode YX7_isBorder.2.1 2 = .ok (.iand, 1) := by decide +kernel
theorem dX7_isBorder_3 : decode YX7_isBorder.2.1 3 = .ok (.ifCond .eq 12, 3) := by decide +kernel
theorem dX7_isBorder_6 : decode YX7_isBorder.2.1 6 = .ok (.iload_n 0, 1) := by decide +kernel
theorem dX7_isBorder_7 : decode YX7_isBorder.2.1 7 = .ok (.iconst 1, 1) := by decide +kernel
theorem dX7_isBorder_8 : decode YX7_isBorder.2.1 8 = .ok (.if_icmp .eq 7, 3) := by decide +kernel
theorem dX7_isBorder_11 : decode YX7_isBorder.2.1 11 = .ok (.iconst 1, 1) := by decide +kernel
theorem dX7_isBorder_12 : decode YX7_isBorder.2.1 12 = .ok (.goto 4, 3) := by decide +kernel
theorem dX7_isBorder_15 : decode YX7_isBorder.2.1 15 = .ok (.iconst 0, 1) := by decide +kernel
theorem dX7_isBorder_16 : decode YX7_isBorder.2.1 16 = .ok (.ireturn, 1) := by decide +kernel
theorem dX7_leastBit_0 : decode YX7_leastBit.2.1 0 = .ok (.iconst 0, 1) := by decide +kernel
theorem dX7_leastBit_1 : decode YX7_leastBit.2.1 1 = .ok (.istore_n 1, 1) := by decide +kernel
theorem dX7_leastBit_2 : decode YX7_leastBit.2.1 2 = .ok (.iload_n 1, 1) := by decide +kernel
theorem dX7_leastBit_3 : decode YX7_leastBit.2.1 3 = .ok (.bipush 12, 2) := by decide +kernel
theorem dX7_leastBit_5 : decode YX7_leastBit.2.1 5 = .ok (.if_icmp .gt 19, 3) := by decide +kernel
theorem dX7_leastBit_8 : decode YX7_leastBit.2.1 8 = .ok (.iload_n 0, 1) := by decide +kernel
theorem dX7_leastBit_9 : decode YX7_leastBit.2.1 9 = .ok (.iload_n 1, 1) := by decide +kernel
theorem dX7_leastBit_10 : decode YX7_leastBit.2.1 10 = .ok (.ishr, 1) := by decide +kernel
theorem dX7_leastBit_11 : decode YX7_leastBit.2.1 11 = .ok (.iconst 1, 1) := by decide +kernel
theorem dX7_leastBit_12 : decode YX7_leastBit.2.1 12 = .ok (.iand, 1) := by decide +kernel
theorem dX7_leastBit_13 : decode YX7_leastBit.2.1 13 = .ok (.ifCond .eq 5, 3) := by decide +kernel
theorem dX7_leastBit_16 : decode YX7_leastBit.2.1 16 = .ok (.iload_n 1, 1) := by decide +kernel
theorem dX7_leastBit_17 : decode YX7_leastBit.2.1 17 = .ok (.ireturn, 1) := by decide +kernel
theorem dX7_leastBit_18 : decode YX7_leastBit.2.1 18 = .ok (.iinc 1 1, 3) := by decide +kernel
theorem dX7_leastBit_21 : decode YX7_leastBit.2.1 21 = .ok (.goto (-19), 3) := by decide +kernel
theorem dX7_leastBit_24 : decode YX7_leastBit.2.1 24 = .ok (.iconst (-1), 1) := by decide +kernel
theorem dX7_leastBit_25 : decode YX7_leastBit.2.1 25 = .ok (.ireturn, 1) := by decide +kernel
theorem dX7_rowOf_0 : decode YX7_rowOf.2.1 0 = .ok (.iload_n 0, 1) := by decide +kernel
theorem dX7_rowOf_1 : decode YX7_rowOf.2.1 1 = .ok (.iconst 3, 1) := by decide +kernel
theorem dX7_rowOf_2 : decode YX7_rowOf.2.1 2 = .ok (.imul, 1) := by decide +kernel
theorem dX7_rowOf_3 : decode YX7_rowOf.2.1 3 = .ok (.iload_n 1, 1) := by decide +kernel
theorem dX7_rowOf_4 : decode YX7_rowOf.2.1 4 = .ok (.iadd, 1) := by decide +kernel
theorem dX7_rowOf_5 : decode YX7_rowOf.2.1 5 = .ok (.bipush 8, 2) := by decide +kernel
theorem dX7_rowOf_7 : decode YX7_rowOf.2.1 7 = .ok (.imul, 1) := by decide +kernel
theorem dX7_rowOf_8 : decode YX7_rowOf.2.1 8 = .ok (.iload_n 2, 1) := by decide +kernel
theorem dX7_rowOf_9 : decode YX7_rowOf.2.1 9 = .ok (.iadd, 1) := by decide +kernel
theorem dX7_rowOf_10 : decode YX7_rowOf.2.1 10 = .ok (.ireturn, 1) := by decide +kernel
theorem dX7_commonDivisor_0 : decode YX7_commonDivisor.2.1 0 = .ok (.iload_n 1, 1) := by decide +kernel
theorem dX7_commonDivisor_1 : decode YX7_commonDivisor.2.1 1 = .ok (.istore_n 2, 1) := by decide +kernel
theorem dX7_commonDivisor_2 : decode YX7_commonDivisor.2.1 2 = .ok (.iload_n 2, 1) := by decide +kernel
theorem dX7_commonDivisor_3 : decode YX7_commonDivisor.2.1 3 = .ok (.iconst 1, 1) := by decide +kernel
theorem dX7_commonDivisor_4 : decode YX7_commonDivisor.2.1 4 = .ok (.if_icmp .le 23, 3) := by decide +kernel
theorem dX7_commonDivisor_7 : decode YX7_commonDivisor.2.1 7 = .ok (.iload_n 0, 1) := by decide +kernel
theorem dX7_commonDivisor_8 : decode YX7_commonDivisor.2.1 8 = .ok (.iload_n 2, 1) := by decide +kernel
theorem dX7_commonDivisor_9 : decode YX7_commonDivisor.2.1 9 = .ok (.irem, 1) := by decide +kernel
theorem dX7_commonDivisor_10 : decode YX7_commonDivisor.2.1 10 = .ok (.ifCond .ne 11, 3) := by decide +kernel
theorem dX7_commonDivisor_13 : decode YX7_commonDivisor.2.1 13 = .ok (.iload_n 1, 1) := by decide +kernel
theorem dX7_commonDivisor_14 : decode YX7_commonDivisor.2.1 14 = .ok (.iload_n 2, 1) := by decide +kernel
theorem dX7_commonDivisor_15 : decode YX7_commonDivisor.2.1 15 = .ok (.irem, 1) := by decide +kernel
theorem dX7_commonDivisor_16 : decode YX7_commonDivisor.2.1 16 = .ok (.ifCond .ne 5, 3) := by decide +kernel
theorem dX7_commonDivisor_19 : decode YX7_commonDivisor.2.1 19 = .ok (.iload_n 2, 1) := by decide +kernel
theorem dX7_commonDivisor_20 : decode YX7_commonDivisor.2.1 20 = .ok (.ireturn, 1) := by decide +kernel
theorem dX7_commonDivisor_21 : decode YX7_commonDivisor.2.1 21 = .ok (.iinc 2 (-1), 3) := by decide +kernel
theorem dX7_commonDivisor_24 : decode YX7_commonDivisor.2.1 24 = .ok (.goto (-22), 3) := by decide +kernel
theorem dX7_commonDivisor_27 : decode YX7_commonDivisor.2.1 27 = .ok (.iconst 1, 1) := by decide +kernel
theorem dX7_commonDivisor_28 : decode YX7_commonDivisor.2.1 28 = .ok (.ireturn, 1) := by decide +kernel
theorem dX8_init_0 : decode YX8_init.2.1 0 = .ok (.aload_n 0, 1) := by decide +kernel
theorem dX8_init_1 : decode YX8_init.2.1 1 = .ok (.invokespecial 3, 3) := by decide +kernel
theorem dX8_init_4 : decode YX8_init.2.1 4 = .ok (.aload_n 0, 1) := by decide +kernel
theorem dX8_init_5 : decode YX8_init.2.1 5 = .ok (.bipush 12, 2) := by decide +kernel
theorem dX8_init_7 : decode YX8_init.2.1 7 = .ok (.newarray .int, 2) := by decide +kernel
theorem dX8_init_9 : decode YX8_init.2.1 9 = .ok (.putfield 9, 3) := by decide +kernel
theorem dX8_init_12 : decode YX8_init.2.1 12 = .ok (.aload_n 0, 1) := by decide +kernel
theorem dX8_init_13 : decode YX8_init.2.1 13 = .ok (.bipush 12, 2) := by decide +kernel
theorem dX8_init_15 : decode YX8_init.2.1 15 = .ok (.newarray .int, 2) := by decide +kernel
theorem dX8_init_17 : decode YX8_init.2.1 17 = .ok (.putfield 13, 3) := by decide +kernel
theorem dX8_init_20 : decode YX8_init.2.1 20 = .ok (.aload_n 0, 1) := by decide +kernel
theorem dX8_init_21 : decode YX8_init.2.1 21 = .ok (.bipush 12, 2) := by decide +kernel
theorem dX8_init_23 : decode YX8_init.2.1 23 = .ok (.newarray .int, 2) := by decide +kernel
theorem dX8_init_25 : decode YX8_init.2.1 25 = .ok (.putfield 16, 3) := by decide +kernel
theorem dX8_init_28 : decode YX8_init.2.1 28 = .ok (.aload_n 0, 1) := by decide +kernel
theorem dX8_init_29 : decode YX8_init.2.1 29 = .ok (.bipush 12, 2) := by decide +kernel
theorem dX8_init_31 : decode YX8_init.2.1 31 = .ok (.newarray .int, 2) := by decide +kernel
theorem dX8_init_33 : decode YX8_init.2.1 33 = .ok (.putfield 19, 3) := by decide +kernel
theorem dX8_init_36 : decode YX8_init.2.1 36 = .ok (.aload_n 0, 1) := by decide +kernel
theorem dX8_init_37 : decode YX8_init.2.1 37 = .ok (.bipush 24, 2) := by decide +kernel
theorem dX8_init_39 : decode YX8_init.2.1 39 = .ok (.newarray .int, 2) := by decide +kernel
theorem dX8_init_41 : decode YX8_init.2.1 41 = .ok (.putfield 22, 3) := by decide +kernel
theorem dX8_init_44 : decode YX8_init.2.1 44 = .ok (.aload_n 0, 1) := by decide +kernel
theorem dX8_init_45 : decode YX8_init.2.1 45 = .ok (.sipush 192, 3) := by decide +kernel
theorem dX8_init_48 : decode YX8_init.2.1 48 = .ok (.newarray .int, 2) := by decide +kernel
theorem dX8_init_50 : decode YX8_init.2.1 50 = .ok (.putfield 25, 3) := by decide +kernel
theorem dX8_init_53 : decode YX8_init.2.1 53 = .ok (.aload_n 0, 1) := by decide +kernel
theorem dX8_init_54 : decode YX8_init.2.1 54 = .ok (.sipush 192, 3) := by decide +kernel
theorem dX8_init_57 : decode YX8_init.2.1 57 = .ok (.newarray .int, 2) := by decide +kernel
theorem dX8_init_59 : decode YX8_init.2.1 59 = .ok (.putfield 28, 3) := by decide +kernel
theorem dX8_init_62 : decode YX8_init.2.1 62 = .ok (.aload_n 0, 1) := by decide +kernel
theorem dX8_init_63 : decode YX8_init.2.1 63 = .ok (.sipush 192, 3) := by decide +kernel
theorem dX8_init_66 : decode YX8_init.2.1 66 = .ok (.newarray .int, 2) := by decide +kernel
theorem dX8_init_68 : decode YX8_init.2.1 68 = .ok (.putfield 31, 3) := by decide +kernel
theorem dX8_init_71 : decode YX8_init.2.1 71 = .ok (.aload_n 0, 1) := by decide +kernel
theorem dX8_init_72 : decode YX8_init.2.1 72 = .ok (.sipush 192, 3) := by decide +kernel
theorem dX8_init_75 : decode YX8_init.2.1 75 = .ok (.newarray .int, 2) := by decide +kernel
theorem dX8_init_77 : decode YX8_init.2.1 77 = .ok (.putfield 34, 3) := by decide +kernel
theorem dX8_init_80 : decode YX8_init.2.1 80 = .ok (.aload_n 0, 1) := by decide +kernel
theorem dX8_init_81 : decode YX8_init.2.1 81 = .ok (.sipush 192, 3) := by decide +kernel
theorem dX8_init_84 : decode YX8_init.2.1 84 = .ok (.bipush 12, 2) := by decide +kernel
theorem dX8_init_86 : decode YX8_init.2.1 86 = .ok (.multianewarray 37 2, 4) := by decide +kernel
theorem dX8_init_90 : decode YX8_init.2.1 90 = .ok (.putfield 39, 3) := by decide +kernel
theorem dX8_init_93 : decode YX8_init.2.1 93 = .ok (.aload_n 0, 1) := by decide +kernel
theorem dX8_init_94 : decode YX8_init.2.1 94 = .ok (.sipush 192, 3) := by decide +kernel
theorem dX8_init_97 : decode YX8_init.2.1 97 = .ok (.bipush 8, 2) := by decide +kernel
theorem dX8_init_99 : decode YX8_init.2.1 99 = .ok (.multianewarray 37 2, 4) := by decide +kernel
theorem dX8_init_103 : decode YX8_init.2.1 103 = .ok (.putfield 42, 3) := by decide +kernel
theorem dX8_init_106 : decode YX8_init.2.1 106 = .ok (.aload_n 0, 1) := by decide +kernel
theorem dX8_init_107 : decode YX8_init.2.1 107 = .ok (.sipush 400, 3) := by decide +kernel
theorem dX8_init_110 : decode YX8_init.2.1 110 = .ok (.newarray .int, 2) := by decide +kernel
theorem dX8_init_112 : decode YX8_init.2.1 112 = .ok (.putfield 45, 3) := by decide +kernel
theorem dX8_init_115 : decode YX8_init.2.1 115 = .ok (.aload_n 0, 1) := by decide +kernel
theorem dX8_init_116 : decode YX8_init.2.1 116 = .ok (.sipush 400, 3) := by decide +kernel
theorem dX8_init_119 : decode YX8_init.2.1 119 = .ok (.newarray .int, 2) := by decide +kernel
theorem dX8_init_121 : decode YX8_init.2.1 121 = .ok (.putfield 48, 3) := by decide +kernel
theorem dX8_init_124 : decode YX8_init.2.1 124 = .ok (.aload_n 0, 1) := by decide +kernel
theorem dX8_init_125 : decode YX8_init.2.1 125 = .ok (.sipush 400, 3) := by decide +kernel
theorem dX8_init_128 : decode YX8_init.2.1 128 = .ok (.newarray .int, 2) := by decide +kernel
theorem dX8_init_130 : decode YX8_init.2.1 130 = .ok (.putfield 51, 3) := by decide +kernel
theorem dX8_init_133 : decode YX8_init.2.1 133 = .ok (.aload_n 0, 1) := by decide +kernel
theorem dX8_init_134 : decode YX8_init.2.1 134 = .ok (.sipush 400, 3) := by decide +kernel
theorem dX8_init_137 : decode YX8_init.2.1 137 = .ok (.newarray .int, 2) := by decide +kernel
theorem dX8_init_139 : decode YX8_init.2.1 139 = .ok (.putfield 54, 3) := by decide +kernel
theorem dX8_init_142 : decode YX8_init.2.1 142 = .ok (.aload_n 0, 1) := by decide +kernel
theorem dX8_init_143 : decode YX8_init.2.1 143 = .ok (.sipush 400, 3) := by decide +kernel
theorem dX8_init_146 : decode YX8_init.2.1 146 = .ok (.newarray .int, 2) := by decide +kernel
theorem dX8_init_148 : decode YX8_init.2.1 148 = .ok (.putfield 57, 3) := by decide +kernel
theorem dX8_init_151 : decode YX8_init.2.1 151 = .ok (.aload_n 0, 1) := by decide +kernel
theorem dX8_init_152 : decode YX8_init.2.1 152 = .ok (.sipush 400, 3) := by decide +kernel
theorem dX8_init_155 : decode YX8_init.2.1 155 = .ok (.newarray .int, 2) := by decide +kernel
theorem dX8_init_157 : decode YX8_init.2.1 157 = .ok (.putfield 60, 3) := by decide +kernel
theorem dX8_init_160 : decode YX8_init.2.1 160 = .ok (.aload_n 0, 1) := by decide +kernel
theorem dX8_init_161 : decode YX8_init.2.1 161 = .ok (.sipush 400, 3) := by decide +kernel
theorem dX8_init_164 : decode YX8_init.2.1 164 = .ok (.bipush 12, 2) := by decide +kernel
theorem dX8_init_166 : decode YX8_init.2.1 166 = .ok (.multianewarray 37 2, 4) := by decide +kernel
theorem dX8_init_170 : decode YX8_init.2.1 170 = .ok (.putfield 63, 3) := by decide +kernel
theorem dX8_init_173 : decode YX8_init.2.1 173 = .ok (.aload_n 0, 1) := by decide +kernel
theorem dX8_init_174 : decode YX8_init.2.1 174 = .ok (.sipush 400, 3) := by decide +kernel
theorem dX8_init_177 : decode YX8_init.2.1 177 = .ok (.bipush 8, 2) := by decide +kernel
theorem dX8_init_179 : decode YX8_init.2.1 179 = .ok (.multianewarray 37 2, 4) := by decide +kernel
theorem dX8_init_183 : decode YX8_init.2.1 183 = .ok (.putfield 66, 3) := by decide +kernel
theorem dX8_init_186 : decode YX8_init.2.1 186 = .ok (.aload_n 0, 1) := by decide +kernel
theorem dX8_init_187 : decode YX8_init.2.1 187 = .ok (.bipush 8, 2) := by decide +kernel
theorem dX8_init_189 : decode YX8_init.2.1 189 = .ok (.newarray .int, 2) := by decide +kernel
theorem dX8_init_191 : decode YX8_init.2.1 191 = .ok (.putfield 69, 3) := by decide +kernel
theorem dX8_init_194 : decode YX8_init.2.1 194 = .ok (.aload_n 0, 1) := by decide +kernel
theorem dX8_init_195 : decode YX8_init.2.1 195 = .ok (.bipush 8, 2) := by decide +kernel
theorem dX8_init_197 : decode YX8_init.2.1 197 = .ok (.newarray .int, 2) := by decide +kernel
theorem dX8_init_199 : decode YX8_init.2.1 199 = .ok (.putfield 72, 3) := by decide +kernel
theorem dX8_init_202 : decode YX8_init.2.1 202 = .ok (.aload_n 0, 1) := by decide +kernel
theorem dX8_init_203 : decode YX8_init.2.1 203 = .ok (.bipush 12, 2) := by decide +kernel
theorem dX8_init_205 : decode YX8_init.2.1 205 = .ok (.newarray .int, 2) := by decide +kernel
theorem dX8_init_207 : decode YX8_init.2.1 207 = .ok (.putfield 75, 3) := by decide +kernel
theorem dX8_init_210 : decode YX8_init.2.1 210 = .ok (.aload_n 0, 1) := by decide +kernel
theorem dX8_init_211 : decode YX8_init.2.1 211 = .ok (.bipush 8, 2) := by decide +kernel
theorem dX8_init_213 : decode YX8_init.2.1 213 = .ok (.newarray .int, 2) := by decide +kernel
theorem dX8_init_215 : decode YX8_init.2.1 215 = .ok (.putfield 78, 3) := by decide +kernel
theorem dX8_init_218 : decode YX8_init.2.1 218 = .ok (.aload_n 0, 1) := by decide +kernel
theorem dX8_init_219 : decode YX8_init.2.1 219 = .ok (.bipush 9, 2) := by decide +kernel
theorem dX8_init_221 : decode YX8_init.2.1 221 = .ok (.newarray .int, 2) := by decide +kernel
theorem dX8_init_223 : decode YX8_init.2.1 223 = .ok (.putfield 81, 3) := by decide +kernel
theorem dX8_init_226 : decode YX8_init.2.1 226 = .ok (.aload_n 0, 1) := by decide +kernel
theorem dX8_init_227 : decode YX8_init.2.1 227 = .ok (.iconst 2, 1) := by decide +kernel
theorem dX8_init_228 : decode YX8_init.2.1 228 = .ok (.iconst 4, 1) := by decide +kernel
theorem dX8_init_229 : decode YX8_init.2.1 229 = .ok (.multianewarray 37 2, 4) := by decide +kernel
theorem dX8_init_233 : decode YX8_init.2.1 233 = .ok (.putfield 84, 3) := by decide +kernel
theorem dX8_init_236 : decode YX8_init.2.1 236 = .ok (.aload_n 0, 1) := by decide +kernel
theorem dX8_init_237 : decode YX8_init.2.1 237 = .ok (.bipush 8, 2) := by decide +kernel
theorem dX8_init_239 : decode YX8_init.2.1 239 = .ok (.bipush 24, 2) := by decide +kernel
theorem dX8_init_241 : decode YX8_init.2.1 241 = .ok (.multianewarray 37 2, 4) := by decide +kernel
theorem dX8_init_245 : decode YX8_init.2.1 245 = .ok (.putfield 87, 3) := by decide +kernel
theorem dX8_init_248 : decode YX8_init.2.1 248 = .ok (.aload_n 0, 1) := by decide +kernel
theorem dX8_init_249 : decode YX8_init.2.1 249 = .ok (.bipush 8, 2) := by decide +kernel
theorem dX8_init_251 : decode YX8_init.2.1 251 = .ok (.sipush 192, 3) := by decide +kernel
theorem dX8_init_254 : decode YX8_init.2.1 254 = .ok (.multianewarray 37 2, 4) := by decide +kernel
theorem dX8_init_258 : decode YX8_init.2.1 258 = .ok (.putfield 90, 3) := by decide +kernel
theorem dX8_init_261 : decode YX8_init.2.1 261 = .ok (.aload_n 0, 1) := by decide +kernel
theorem dX8_init_262 : decode YX8_init.2.1 262 = .ok (.bipush 12, 2) := by decide +kernel
theorem dX8_init_264 : decode YX8_init.2.1 264 = .ok (.sipush 400, 3) := by decide +kernel
theorem dX8_init_267 : decode YX8_init.2.1 267 = .ok (.multianewarray 37 2, 4) := by decide +kernel
theorem dX8_init_271 : decode YX8_init.2.1 271 = .ok (.putfield 93, 3) := by decide +kernel
theorem dX8_init_274 : decode YX8_init.2.1 274 = .ok (.aload_n 0, 1) := by decide +kernel
theorem dX8_init_275 : decode YX8_init.2.1 275 = .ok (.iconst 2, 1) := by decide +kernel
theorem dX8_init_276 : decode YX8_init.2.1 276 = .ok (.sipush 192, 3) := by decide +kernel
theorem dX8_init_279 : decode YX8_init.2.1 279 = .ok (.bipush 12, 2) := by decide +kernel
theorem dX8_init_281 : decode YX8_init.2.1 281 = .ok (.multianewarray 96 3, 4) := by decide +kernel
theorem dX8_init_285 : decode YX8_init.2.1 285 = .ok (.putfield 98, 3) := by decide +kernel
theorem dX8_init_288 : decode YX8_init.2.1 288 = .ok (.aload_n 0, 1) := by decide +kernel
theorem dX8_init_289 : decode YX8_init.2.1 289 = .ok (.iconst 2, 1) := by decide +kernel
theorem dX8_init_290 : decode YX8_init.2.1 290 = .ok (.sipush 192, 3) := by decide +kernel
theorem dX8_init_293 : decode YX8_init.2.1 293 = .ok (.bipush 8, 2) := by decide +kernel
theorem dX8_init_295 : decode YX8_init.2.1 295 = .ok (.multianewarray 96 3, 4) := by decide +kernel
theorem dX8_init_299 : decode YX8_init.2.1 299 = .ok (.putfield 101, 3) := by decide +kernel
theorem dX8_init_302 : decode YX8_init.2.1 302 = .ok (.aload_n 0, 1) := by decide +kernel
theorem dX8_init_303 : decode YX8_init.2.1 303 = .ok (.iconst 2, 1) := by decide +kernel
theorem dX8_init_304 : decode YX8_init.2.1 304 = .ok (.sipush 400, 3) := by decide +kernel
theorem dX8_init_307 : decode YX8_init.2.1 307 = .ok (.bipush 12, 2) := by decide +kernel
theorem dX8_init_309 : decode YX8_init.2.1 309 = .ok (.multianewarray 96 3, 4) := by decide +kernel
theorem dX8_init_313 : decode YX8_init.2.1 313 = .ok (.putfield 104, 3) := by decide +kernel
theorem dX8_init_316 : decode YX8_init.2.1 316 = .ok (.aload_n 0, 1) := by decide +kernel
theorem dX8_init_317 : decode YX8_init.2.1 317 = .ok (.iconst 2, 1) := by decide +kernel
theorem dX8_init_318 : decode YX8_init.2.1 318 = .ok (.sipush 400, 3) := by decide +kernel
theorem dX8_init_321 : decode YX8_init.2.1 321 = .ok (.bipush 8, 2) := by decide +kernel
theorem dX8_init_323 : decode YX8_init.2.1 323 = .ok (.multianewarray 96 3, 4) := by decide +kernel
theorem dX8_init_327 : decode YX8_init.2.1 327 = .ok (.putfield 107, 3) := by decide +kernel
theorem dX8_init_330 : decode YX8_init.2.1 330 = .ok (.aload_n 0, 1) := by decide +kernel
theorem dX8_init_331 : decode YX8_init.2.1 331 = .ok (.iconst 2, 1) := by decide +kernel
theorem dX8_init_332 : decode YX8_init.2.1 332 = .ok (.bipush 24, 2) := by decide +kernel
theorem dX8_init_334 : decode YX8_init.2.1 334 = .ok (.multianewarray 37 2, 4) := by decide +kernel
theorem dX8_init_338 : decode YX8_init.2.1 338 = .ok (.putfield 110, 3) := by decide +kernel
theorem dX8_init_341 : decode YX8_init.2.1 341 = .ok (.aload_n 0, 1) := by decide +kernel
theorem dX8_init_342 : decode YX8_init.2.1 342 = .ok (.iconst 4, 1) := by decide +kernel
theorem dX8_init_343 : decode YX8_init.2.1 343 = .ok (.newarray .int, 2) := by decide +kernel
theorem dX8_init_345 : decode YX8_init.2.1 345 = .ok (.dup, 1) := by decide +kernel
theorem dX8_init_346 : decode YX8_init.2.1 346 = .ok (.iconst 0, 1) := by decide +kernel
theorem dX8_init_347 : decode YX8_init.2.1 347 = .ok (.iconst (-1), 1) := by decide +kernel
theorem dX8_init_348 : decode YX8_init.2.1 348 = .ok (.iastore, 1) := by decide +kernel
theorem dX8_init_349 : decode YX8_init.2.1 349 = .ok (.dup, 1) := by decide +kernel
theorem dX8_init_350 : decode YX8_init.2.1 350 = .ok (.iconst 1, 1) := by decide +kernel
theorem dX8_init_351 : decode YX8_init.2.1 351 = .ok (.iconst (-1), 1) := by decide +kernel
theorem dX8_init_352 : decode YX8_init.2.1 352 = .ok (.iastore, 1) := by decide +kernel
theorem dX8_init_353 : decode YX8_init.2.1 353 = .ok (.dup, 1) := by decide +kernel
theorem dX8_init_354 : decode YX8_init.2.1 354 = .ok (.iconst 2, 1) := by decide +kernel
theorem dX8_init_355 : decode YX8_init.2.1 355 = .ok (.iconst (-1), 1) := by decide +kernel
theorem dX8_init_356 : decode YX8_init.2.1 356 = .ok (.iastore, 1) := by decide +kernel
theorem dX8_init_357 : decode YX8_init.2.1 357 = .ok (.dup, 1) := by decide +kernel
theorem dX8_init_358 : decode YX8_init.2.1 358 = .ok (.iconst 3, 1) := by decide +kernel
theorem dX8_init_359 : decode YX8_init.2.1 359 = .ok (.iconst (-1), 1) := by decide +kernel
theorem dX8_init_360 : decode YX8_init.2.1 360 = .ok (.iastore, 1) := by decide +kernel
theorem dX8_init_361 : decode YX8_init.2.1 361 = .ok (.putfield 113, 3) := by decide +kernel
theorem dX8_init_364 : decode YX8_init.2.1 364 = .ok (.aload_n 0, 1) := by decide +kernel
theorem dX8_init_365 : decode YX8_init.2.1 365 = .ok (.iconst 4, 1) := by decide +kernel
theorem dX8_init_366 : decode YX8_init.2.1 366 = .ok (.newarray .int, 2) := by decide +kernel
theorem dX8_init_368 : decode YX8_init.2.1 368 = .ok (.putfield 116, 3) := by decide +kernel
theorem dX8_init_371 : decode YX8_init.2.1 371 = .ok (.aload_n 0, 1) := by decide +kernel
theorem dX8_init_372 : decode YX8_init.2.1 372 = .ok (.iconst 4, 1) := by decide +kernel
theorem dX8_init_373 : decode YX8_init.2.1 373 = .ok (.bipush 40, 2) := by decide +kernel
theorem dX8_init_375 : decode YX8_init.2.1 375 = .ok (.multianewarray 37 2, 4) := by decide +kernel
theorem dX8_init_379 : decode YX8_init.2.1 379 = .ok (.putfield 119, 3) := by decide +kernel
theorem dX8_init_382 : decode YX8_init.2.1 382 = .ok (.aload_n 0, 1) := by decide +kernel
theorem dX8_init_383 : decode YX8_init.2.1 383 = .ok (.bipush 40, 2) := by decide +kernel
theorem dX8_init_385 : decode YX8_init.2.1 385 = .ok (.newarray .int, 2) := by decide +kernel
theorem dX8_init_387 : decode YX8_init.2.1 387 = .ok (.putfield 122, 3) := by decide +kernel
theorem dX8_init_390 : decode YX8_init.2.1 390 = .ok (.return_, 1) := by decide +kernel
theorem dX8_in_0 : decode YX8_in.2.1 0 = .ok (.iload_n 0, 1) := by decide +kernel
theorem dX8_in_1 : decode YX8_in.2.1 1 = .ok (.iload_n 1, 1) := by decide +kernel
theorem dX8_in_2 : decode YX8_in.2.1 2 = .ok (.if_icmp .lt 12, 3) := by decide +kernel
theorem dX8_in_5 : decode YX8_in.2.1 5 = .ok (.iload_n 0, 1) := by decide +kernel
theorem dX8_in_6 : decode YX8_in.2.1 6 = .ok (.iload_n 2, 1) := by decide +kernel
theorem dX8_in_7 : decode YX8_in.2.1 7 = .ok (.if_icmp .gt 7, 3) := by decide +kernel
theorem dX8_in_10 : decode YX8_in.2.1 10 = .ok (.iconst 1, 1) := by decide +kernel
theorem dX8_in_11 : decode YX8_in.2.1 11 = .ok (.goto 4, 3) := by decide +kernel
theorem dX8_in_14 : decode YX8_in.2.1 14 = .ok (.iconst 0, 1) := by decide +kernel
theorem dX8_in_15 : decode YX8_in.2.1 15 = .ok (.ireturn, 1) := by decide +kernel
theorem dX8_isRouter_0 : decode YX8_isRouter.2.1 0 = .ok (.iload_n 0, 1) := by decide +kernel
theorem dX8_isRouter_1 : decode YX8_isRouter.2.1 1 = .ok (.iconst 0, 1) := by decide +kernel
theorem dX8_isRouter_2 : decode YX8_isRouter.2.1 2 = .ok (.bipush 7, 2) := by decide +kernel
theorem dX8_isRouter_4 : decode YX8_isRouter.2.1 4 = .ok (.invokestatic 125, 3) := by decide +kernel
theorem dX8_isRouter_7 : decode YX8_isRouter.2.1 7 = .ok (.ireturn, 1) := by decide +kernel
theorem dX8_isArea_0 : decode YX8_isArea.2.1 0 = .ok (.iload_n 0, 1) := by decide +kernel
theorem dX8_isArea_1 : decode YX8_isArea.2.1 1 = .ok (.iconst 0, 1) := by decide +kernel
theorem dX8_isArea_2 : decode YX8_isArea.2.1 2 = .ok (.iconst 2, 1) := by decide +kernel
theorem dX8_isArea_3 : decode YX8_isArea.2.1 3 = .ok (.invokestatic 125, 3) := by decide +kernel
theorem dX8_isArea_6 : decode YX8_isArea.2.1 6 = .ok (.ireturn, 1) := by decide +kernel
theorem dX8_isLink_0 : decode YX8_isLink.2.1 0 = .ok (.iload_n 1, 1) := by decide +kernel
theorem dX8_isLink_1 : decode YX8_isLink.2.1 1 = .ok (.iconst 0, 1) := by decide +kernel
theorem dX8_isLink_2 : decode YX8_isLink.2.1 2 = .ok (.aload_n 0, 1) := by decide +kernel
theorem dX8_isLink_3 : decode YX8_isLink.2.1 3 = .ok (.getfield 129, 3) := by decide +kernel
theorem dX8_isLink_6 : decode YX8_isLink.2.1 6 = .ok (.iconst 1, 1) := by decide +kernel
theorem dX8_isLink_7 : decode YX8_isLink.2.1 7 = .ok (.isub, 1) := by decide +kernel
theorem dX8_isLink_8 : decode YX8_isLink.2.1 8 = .ok (.invokestatic 125, 3) := by decide +kernel
theorem dX8_isLink_11 : decode YX8_isLink.2.1 11 = .ok (.ireturn, 1) := by decide +kernel
theorem dX8_place_0 : decode YX8_place.2.1 0 = .ok (.iload_n 0, 1) := by decide +kernel
theorem dX8_place_1 : decode YX8_place.2.1 1 = .ok (.bipush 8, 2) := by decide +kernel
theorem dX8_place_3 : decode YX8_place.2.1 3 = .ok (.imul, 1) := by decide +kernel
theorem dX8_place_4 : decode YX8_place.2.1 4 = .ok (.iload_n 1, 1) := by decide +kernel
theorem dX8_place_5 : decode YX8_place.2.1 5 = .ok (.iadd, 1) := by decide +kernel
theorem dX8_place_6 : decode YX8_place.2.1 6 = .ok (.iconst 3, 1) := by decide +kernel
theorem dX8_place_7 : decode YX8_place.2.1 7 = .ok (.imul, 1) := by decide +kernel
theorem dX8_place_8 : decode YX8_place.2.1 8 = .ok (.iload_n 2, 1) := by decide +kernel
theorem dX8_place_9 : decode YX8_place.2.1 9 = .ok (.iadd, 1) := by decide +kernel
theorem dX8_place_10 : decode YX8_place.2.1 10 = .ok (.ireturn, 1) := by decide +kernel
theorem dX8_isEnd_0 : decode YX8_isEnd.2.1 0 = .ok (.aload_n 0, 1) := by decide +kernel
theorem dX8_isEnd_1 : decode YX8_isEnd.2.1 1 = .ok (.getfield 9, 3) := by decide +kernel
theorem dX8_isEnd_4 : decode YX8_isEnd.2.1 4 = .ok (.iload_n 1, 1) := by decide +kernel
theorem dX8_isEnd_5 : decode YX8_isEnd.2.1 5 = .ok (.iaload, 1) := by decide +kernel
theorem dX8_isEnd_6 : decode YX8_isEnd.2.1 6 = .ok (.iload_n 2, 1) := by decide +kernel
theorem dX8_isEnd_7 : decode YX8_isEnd.2.1 7 = .ok (.if_icmp .eq 13, 3) := by decide +kernel
theorem dX8_isEnd_10 : decode YX8_isEnd.2.1 10 = .ok (.aload_n 0, 1) := by decide +kernel
theorem dX8_isEnd_11 : decode YX8_isEnd.2.1 11 = .ok (.getfield 13, 3) := by decide +kernel
theorem dX8_isEnd_14 : decode YX8_isEnd.2.1 14 = .ok (.iload_n 1, 1) := by decide +kernel
theorem dX8_isEnd_15 : decode YX8_isEnd.2.1 15 = .ok (.iaload, 1) := by decide +kernel
theorem dX8_isEnd_16 : decode YX8_isEnd.2.1 16 = .ok (.iload_n 2, 1) := by decide +kernel
theorem dX8_isEnd_17 : decode YX8_isEnd.2.1 17 = .ok (.if_icmp .ne 7, 3) := by decide +kernel
theorem dX8_isEnd_20 : decode YX8_isEnd.2.1 20 = .ok (.iconst 1, 1) := by decide +kernel
theorem dX8_isEnd_21 : decode YX8_isEnd.2.1 21 = .ok (.goto 4, 3) := by decide +kernel
theorem dX8_isEnd_24 : decode YX8_isEnd.2.1 24 = .ok (.iconst 0, 1) := by decide +kernel
theorem dX8_isEnd_25 : decode YX8_isEnd.2.1 25 = .ok (.ireturn, 1) := by decide +kernel
theorem dX8_otherEnd_0 : decode YX8_otherEnd.2.1 0 = .ok (.aload_n 0, 1) := by decide +kernel
theorem dX8_otherEnd_1 : decode YX8_otherEnd.2.1 1 = .ok (.getfield 9, 3) := by decide +kernel
theorem dX8_otherEnd_4 : decode YX8_otherEnd.2.1 4 = .ok (.iload_n 1, 1) := by decide +kernel
theorem dX8_otherEnd_5 : decode YX8_otherEnd.2.1 5 = .ok (.iaload, 1) := by decide +kernel
theorem dX8_otherEnd_6 : decode YX8_otherEnd.2.1 6 = .ok (.iload_n 2, 1) := by decide +kernel
theorem dX8_otherEnd_7 : decode YX8_otherEnd.2.1 7 = .ok (.if_icmp .ne 12, 3) := by decide +kernel
theorem dX8_otherEnd_10 : decode YX8_otherEnd.2.1 10 = .ok (.aload_n 0, 1) := by decide +kernel
theorem dX8_otherEnd_11 : decode YX8_otherEnd.2.1 11 = .ok (.getfield 13, 3) := by decide +kernel
theorem dX8_otherEnd_14 : decode YX8_otherEnd.2.1 14 = .ok (.iload_n 1, 1) := by decide +kernel
theorem dX8_otherEnd_15 : decode YX8_otherEnd.2.1 15 = .ok (.iaload, 1) := by decide +kernel
theorem dX8_otherEnd_16 : decode YX8_otherEnd.2.1 16 = .ok (.goto 9, 3) := by decide +kernel
theorem dX8_otherEnd_19 : decode YX8_otherEnd.2.1 19 = .ok (.aload_n 0, 1) := by decide +kernel
theorem dX8_otherEnd_20 : decode YX8_otherEnd.2.1 20 = .ok (.getfield 9, 3) := by decide +kernel
theorem dX8_otherEnd_23 : decode YX8_otherEnd.2.1 23 = .ok (.iload_n 1, 1) := by decide +kernel
theorem dX8_otherEnd_24 : decode YX8_otherEnd.2.1 24 = .ok (.iaload, 1) := by decide +kernel
theorem dX8_otherEnd_25 : decode YX8_otherEnd.2.1 25 = .ok (.ireturn, 1) := by decide +kernel
theorem dX8_priceFrom_0 : decode YX8_priceFrom.2.1 0 = .ok (.aload_n 0, 1) := by decide +kernel
theorem dX8_priceFrom_1 : decode YX8_priceFrom.2.1 1 = .ok (.getfield 22, 3) := by decide +kernel
theorem dX8_priceFrom_4 : decode YX8_priceFrom.2.1 4 = .ok (.iconst 2, 1) := by decide +kernel
theorem dX8_priceFrom_5 : decode YX8_priceFrom.2.1 5 = .ok (.iload_n 1, 1) := by decide +kernel
theorem dX8_priceFrom_6 : decode YX8_priceFrom.2.1 6 = .ok (.imul, 1) := by decide +kernel
theorem dX8_priceFrom_7 : decode YX8_priceFrom.2.1 7 = .ok (.aload_n 0, 1) := by decide +kernel
theorem dX8_priceFrom_8 : decode YX8_priceFrom.2.1 8 = .ok (.getfield 9, 3) := by decide +kernel
theorem dX8_priceFrom_11 : decode YX8_priceFrom.2.1 11 = .ok (.iload_n 1, 1) := by decide +kernel
theorem dX8_priceFrom_12 : decode YX8_priceFrom.2.1 12 = .ok (.iaload, 1) := by decide +kernel
theorem dX8_priceFrom_13 : decode YX8_priceFrom.2.1 13 = .ok (.iload_n 2, 1) := by decide +kernel
theorem dX8_priceFrom_14 : decode YX8_priceFrom.2.1 14 = .ok (.if_icmp .ne 7, 3) := by decide +kernel
theorem dX8_priceFrom_17 : decode YX8_priceFrom.2.1 17 = .ok (.iconst 0, 1) := by decide +kernel
theorem dX8_priceFrom_18 : decode YX8_priceFrom.2.1 18 = .ok (.goto 4, 3) := by decide +kernel
theorem dX8_priceFrom_21 : decode YX8_priceFrom.2.1 21 = .ok (.iconst 1, 1) := by decide +kernel
theorem dX8_priceFrom_22 : decode YX8_priceFrom.2.1 22 = .ok (.iadd, 1) := by decide +kernel
theorem dX8_priceFrom_23 : decode YX8_priceFrom.2.1 23 = .ok (.iaload, 1) := by decide +kernel
theorem dX8_priceFrom_24 : decode YX8_priceFrom.2.1 24 = .ok (.ireturn, 1) := by decide +kernel
theorem dX8_areasOf_0 : decode YX8_areasOf.2.1 0 = .ok (.iconst 0, 1) := by decide +kernel
theorem dX8_areasOf_1 : decode YX8_areasOf.2.1 1 = .ok (.istore_n 2, 1) := by decide +kernel
theorem dX8_areasOf_2 : decode YX8_areasOf.2.1 2 = .ok (.iconst 0, 1) := by decide +kernel
theorem dX8_areasOf_3 : decode YX8_areasOf.2.1 3 = .ok (.istore_n 3, 1) := by decide +kernel
theorem dX8_areasOf_4 : decode YX8_areasOf.2.1 4 = .ok (.iload_n 3, 1) := by decide +kernel
theorem dX8_areasOf_5 : decode YX8_areasOf.2.1 5 = .ok (.aload_n 0, 1) := by decide +kernel
theorem dX8_areasOf_6 : decode YX8_areasOf.2.1 6 = .ok (.getfield 129, 3) := by decide +kernel
theorem dX8_areasOf_9 : decode YX8_areasOf.2.1 9 = .ok (.if_icmp .ge 39, 3) := by decide +kernel
theorem dX8_areasOf_12 : decode YX8_areasOf.2.1 12 = .ok (.aload_n 0, 1) := by decide +kernel
theorem dX8_areasOf_13 : decode YX8_areasOf.2.1 13 = .ok (.getfield 19, 3) := by decide +kernel
theorem dX8_areasOf_16 : decode YX8_areasOf.2.1 16 = .ok (.iload_n 3, 1) := by decide +kernel
theorem dX8_areasOf_17 : decode YX8_areasOf.2.1 17 = .ok (.iaload, 1) := by decide +kernel
theorem dX8_areasOf_18 : decode YX8_areasOf.2.1 18 = .ok (.iconst 1, 1) := by decide +kernel
theorem dX8_areasOf_19 : decode YX8_areasOf.2.1 19 = .ok (.if_icmp .ne 23, 3) := by decide +kernel
theorem dX8_areasOf_22 : decode YX8_areasOf.2.1 22 = .ok (.aload_n 0, 1) := by decide +kernel
theorem dX8_areasOf_23 : decode YX8_areasOf.2.1 23 = .ok (.iload_n 3, 1) := by decide +kernel
theorem dX8_areasOf_24 : decode YX8_areasOf.2.1 24 = .ok (.iload_n 1, 1) := by decide +kernel
theorem dX8_areasOf_25 : decode YX8_areasOf.2.1 25 = .ok (.invokevirtual 133, 3) := by decide +kernel
theorem dX8_areasOf_28 : decode YX8_areasOf.2.1 28 = .ok (.ifCond .eq 14, 3) := by decide +kernel
theorem dX8_areasOf_31 : decode YX8_areasOf.2.1 31 = .ok (.iload_n 2, 1) := by decide +kernel
theorem dX8_areasOf_32 : decode YX8_areasOf.2.1 32 = .ok (.iconst 1, 1) := by decide +kernel
theorem dX8_areasOf_33 : decode YX8_areasOf.2.1 33 = .ok (.aload_n 0, 1) := by decide +kernel
theorem dX8_areasOf_34 : decode YX8_areasOf.2.1 34 = .ok (.getfield 16, 3) := by decide +kernel
theorem dX8_areasOf_37 : decode YX8_areasOf.2.1 37 = .ok (.iload_n 3, 1) := by decide +kernel
theorem dX8_areasOf_38 : decode YX8_areasOf.2.1 38 = .ok (.iaload, 1) := by decide +kernel
theorem dX8_areasOf_39 : decode YX8_areasOf.2.1 39 = .ok (.ishl, 1) := by decide +kernel
theorem dX8_areasOf_40 : decode YX8_areasOf.2.1 40 = .ok (.ior, 1) := by decide +kernel
theorem dX8_areasOf_41 : decode YX8_areasOf.2.1 41 = .ok (.istore_n 2, 1) := by decide +kernel
theorem dX8_areasOf_42 : decode YX8_areasOf.2.1 42 = .ok (.iinc 3 1, 3) := by decide +kernel
theorem dX8_areasOf_45 : decode YX8_areasOf.2.1 45 = .ok (.goto (-41), 3) := by decide +kernel
theorem dX8_areasOf_48 : decode YX8_areasOf.2.1 48 = .ok (.iload_n 2, 1) := by decide +kernel
theorem dX8_areasOf_49 : decode YX8_areasOf.2.1 49 = .ok (.ireturn, 1) := by decide +kernel
theorem dX8_isBorder_0 : decode YX8_isBorder.2.1 0 = .ok (.aload_n 0, 1) := by decide +kernel
theorem dX8_isBorder_1 : decode YX8_isBorder.2.1 1 = .ok (.iload_n 1, 1) := by decide +kernel
theorem dX8_isBorder_2 : decode YX8_isBorder.2.1 2 = .ok (.invokevirtual 137, 3) := by decide +kernel
theorem dX8_isBorder_5 : decode YX8_isBorder.2.1 5 = .ok (.istore_n 2, 1) := by decide +kernel
theorem dX8_isBorder_6 : decode YX8_isBorder.2.1 6 = .ok (.iload_n 2, 1) := by decide +kernel
theorem dX8_isBorder_7 : decode YX8_isBorder.2.1 7 = .ok (.iconst 1, 1) := by decide +kernel
theorem dX8_isBorder_8 : decode YX8_isBorder.2.1 8 = .ok (.iand, 1) := by decide +kernel
theorem dX8_isBorder_9 : decode YX8_isBorder.2.1 9 = .ok (.iconst 1, 1) := by decide +kernel
theorem dX8_isBorder_10 : decode YX8_isBorder.2.1 10 = .ok (.if_icmp .ne 12, 3) := by decide +kernel
theorem dX8_isBorder_13 : decode YX8_isBorder.2.1 13 = .ok (.iload_n 2, 1) := by decide +kernel
theorem dX8_isBorder_14 : decode YX8_isBorder.2.1 14 = .ok (.iconst 1, 1) := by decide +kernel
theorem dX8_isBorder_15 : decode YX8_isBorder.2.1 15 = .ok (.if_icmp .le 7, 3) := by decide +kernel
theorem dX8_isBorder_18 : decode YX8_isBorder.2.1 18 = .ok (.iconst 1, 1) := by decide +kernel
theorem dX8_isBorder_19 : decode YX8_isBorder.2.1 19 = .ok (.goto 4, 3) := by decide +kernel
theorem dX8_isBorder_22 : decode YX8_isBorder.2.1 22 = .ok (.iconst 0, 1) := by decide +kernel
theorem dX8_isBorder_23 : decode YX8_isBorder.2.1 23 = .ok (.ireturn, 1) := by decide +kernel
theorem dX8_link_0 : decode YX8_link.2.1 0 = .ok (.iload_n 1, 1) := by decide +kernel
theorem dX8_link_1 : decode YX8_link.2.1 1 = .ok (.invokestatic 141, 3) := by decide +kernel
theorem dX8_link_4 : decode YX8_link.2.1 4 = .ok (.ifCond .eq 44, 3) := by decide +kernel
theorem dX8_link_7 : decode YX8_link.2.1 7 = .ok (.iload_n 2, 1) := by decide +kernel
theorem dX8_link_8 : decode YX8_link.2.1 8 = .ok (.invokestatic 141, 3) := by decide +kernel
theorem dX8_link_11 : decode YX8_link.2.1 11 = .ok (.ifCond .eq 37, 3) := by decide +kernel
theorem dX8_link_14 : decode YX8_link.2.1 14 = .ok (.iload_n 1, 1) := by decide +kernel
theorem dX8_link_15 : decode YX8_link.2.1 15 = .ok (.iload_n 2, 1) := by decide +kernel
theorem dX8_link_16 : decode YX8_link.2.1 16 = .ok (.if_icmp .eq 32, 3) := by decide +kernel
theorem dX8_link_19 : decode YX8_link.2.1 19 = .ok (.iload_n 3, 1) := by decide +kernel
theorem dX8_link_20 : decode YX8_link.2.1 20 = .ok (.invokestatic 145, 3) := by decide +kernel
theorem dX8_link_23 : decode YX8_link.2.1 23 = .ok (.ifCond .eq 25, 3) := by decide +kernel
theorem dX8_link_26 : decode YX8_link.2.1 26 = .ok (.iload 4, 2) := by decide +kernel
theorem dX8_link_28 : decode YX8_link.2.1 28 = .ok (.iconst 1, 1) := by decide +kernel
theorem dX8_link_29 : decode YX8_link.2.1 29 = .ok (.bipush 99, 2) := by decide +kernel
theorem dX8_link_31 : decode YX8_link.2.1 31 = .ok (.invokestatic 125, 3) := by decide +kernel
theorem dX8_link_34 : decode YX8_link.2.1 34 = .ok (.ifCond .eq 14, 3) := by decide +kernel
theorem dX8_link_37 : decode YX8_link.2.1 37 = .ok (.iload 5, 2) := by decide +kernel
theorem dX8_link_39 : decode YX8_link.2.1 39 = .ok (.iconst 1, 1) := by decide +kernel
theorem dX8_link_40 : decode YX8_link.2.1 40 = .ok (.bipush 99, 2) := by decide +kernel
theorem dX8_link_42 : decode YX8_link.2.1 42 = .ok (.invokestatic 125, 3) := by decide +kernel
theorem dX8_link_45 : decode YX8_link.2.1 45 = .ok (.ifCond .ne 6, 3) := by decide +kernel
theorem dX8_link_48 : decode YX8_link.2.1 48 = .ok (.bipush (-2), 2) := by decide +kernel
theorem dX8_link_50 : decode YX8_link.2.1 50 = .ok (.ireturn, 1) := by decide +kernel
theorem dX8_link_51 : decode YX8_link.2.1 51 = .ok (.aload_n 0, 1) := by decide +kernel
theorem dX8_link_52 : decode YX8_link.2.1 52 = .ok (.getfield 129, 3) := by decide +kernel
theorem dX8_link_55 : decode YX8_link.2.1 55 = .ok (.bipush 12, 2) := by decide +kernel
theorem dX8_link_57 : decode YX8_link.2.1 57 = .ok (.if_icmp .ne 6, 3) := by decide +kernel
theorem dX8_link_60 : decode YX8_link.2.1 60 = .ok (.bipush (-4), 2) := by decide +kernel
theorem dX8_link_62 : decode YX8_link.2.1 62 = .ok (.ireturn, 1) := by decide +kernel
theorem dX8_link_63 : decode YX8_link.2.1 63 = .ok (.aload_n 0, 1) := by decide +kernel
theorem dX8_link_64 : decode YX8_link.2.1 64 = .ok (.getfield 9, 3) := by decide +kernel
theorem dX8_link_67 : decode YX8_link.2.1 67 = .ok (.aload_n 0, 1) := by decide +kernel
theorem dX8_link_68 : decode YX8_link.2.1 68 = .ok (.getfield 129, 3) := by decide +kernel
theorem dX8_link_71 : decode YX8_link.2.1 71 = .ok (.iload_n 1, 1) := by decide +kernel
theorem dX8_link_72 : decode YX8_link.2.1 72 = .ok (.iastore, 1) := by decide +kernel
theorem dX8_link_73 : decode YX8_link.2.1 73 = .ok (.aload_n 0, 1) := by decide +kernel
theorem dX8_link_74 : decode YX8_link.2.1 74 = .ok (.getfield 13, 3) := by decide +kernel
theorem dX8_link_77 : decode YX8_link.2.1 77 = .ok (.aload_n 0, 1) := by decide +kernel
theorem dX8_link_78 : decode YX8_link.2.1 78 = .ok (.getfield 129, 3) := by decide +kernel
theorem dX8_link_81 : decode YX8_link.2.1 81 = .ok (.iload_n 2, 1) := by decide +kernel
theorem dX8_link_82 : decode YX8_link.2.1 82 = .ok (.iastore, 1) := by decide +kernel
theorem dX8_link_83 : decode YX8_link.2.1 83 = .ok (.aload_n 0, 1) := by decide +kernel
theorem dX8_link_84 : decode YX8_link.2.1 84 = .ok (.getfield 16, 3) := by decide +kernel
theorem dX8_link_87 : decode YX8_link.2.1 87 = .ok (.aload_n 0, 1) := by decide +kernel
theorem dX8_link_88 : decode YX8_link.2.1 88 = .ok (.getfield 129, 3) := by decide +kernel
theorem dX8_link_91 : decode YX8_link.2.1 91 = .ok (.iload_n 3, 1) := by decide +kernel
theorem dX8_link_92 : decode YX8_link.2.1 92 = .ok (.iastore, 1) := by decide +kernel
theorem dX8_link_93 : decode YX8_link.2.1 93 = .ok (.aload_n 0, 1) := by decide +kernel
theorem dX8_link_94 : decode YX8_link.2.1 94 = .ok (.getfield 19, 3) := by decide +kernel
theorem dX8_link_97 : decode YX8_link.2.1 97 = .ok (.aload_n 0, 1) := by decide +kernel
theorem dX8_link_98 : decode YX8_link.2.1 98 = .ok (.getfield 129, 3) := by decide +kernel
theorem dX8_link_101 : decode YX8_link.2.1 101 = .ok (.iconst 1, 1) := by decide +kernel
theorem dX8_link_102 : decode YX8_link.2.1 102 = .ok (.iastore, 1) := by decide +kernel
theorem dX8_link_103 : decode YX8_link.2.1 103 = .ok (.aload_n 0, 1) := by decide +kernel
theorem dX8_link_104 : decode YX8_link.2.1 104 = .ok (.getfield 22, 3) := by decide +kernel
theorem dX8_link_107 : decode YX8_link.2.1 107 = .ok (.iconst 2, 1) := by decide +kernel
theorem dX8_link_108 : decode YX8_link.2.1 108 = .ok (.aload_n 0, 1) := by decide +kernel
theorem dX8_link_109 : decode YX8_link.2.1 109 = .ok (.getfield 129, 3) := by decide +kernel
theorem dX8_link_112 : decode YX8_link.2.1 112 = .ok (.imul, 1) := by decide +kernel
theorem dX8_link_113 : decode YX8_link.2.1 113 = .ok (.iload 4, 2) := by decide +kernel
theorem dX8_link_115 : decode YX8_link.2.1 115 = .ok (.iastore, 1) := by decide +kernel
theorem dX8_link_116 : decode YX8_link.2.1 116 = .ok (.aload_n 0, 1) := by decide +kernel
theorem dX8_link_117 : decode YX8_link.2.1 117 = .ok (.getfield 22, 3) := by decide +kernel
theorem dX8_link_120 : decode YX8_link.2.1 120 = .ok (.iconst 2, 1) := by decide +kernel
theorem dX8_link_121 : decode YX8_link.2.1 121 = .ok (.aload_n 0, 1) := by decide +kernel
theorem dX8_link_122 : decode YX8_link.2.1 122 = .ok (.getfield 129, 3) := by decide +kernel
theorem dX8_link_125 : decode YX8_link.2.1 125 = .ok (.imul, 1) := by decide +kernel
theorem dX8_link_126 : decode YX8_link.2.1 126 = .ok (.iconst 1, 1) := by decide +kernel
theorem dX8_link_127 : decode YX8_link.2.1 127 = .ok (.iadd, 1) := by decide +kernel
theorem dX8_link_128 : decode YX8_link.2.1 128 = .ok (.iload 5, 2) := by decide +kernel
theorem dX8_link_130 : decode YX8_link.2.1 130 = .ok (.iastore, 1) := by decide +kernel
theorem dX8_link_131 : decode YX8_link.2.1 131 = .ok (.aload_n 0, 1) := by decide +kernel
theorem dX8_link_132 : decode YX8_link.2.1 132 = .ok (.dup, 1) := by decide +kernel
theorem dX8_link_133 : decode YX8_link.2.1 133 = .ok (.getfield 129, 3) := by decide +kernel
theorem dX8_link_136 : decode YX8_link.2.1 136 = .ok (.iconst 1, 1) := by decide +kernel
theorem dX8_link_137 : decode YX8_link.2.1 137 = .ok (.iadd, 1) := by decide +kernel
theorem dX8_link_138 : decode YX8_link.2.1 138 = .ok (.putfield 129, 3) := by decide +kernel
theorem dX8_link_141 : decode YX8_link.2.1 141 = .ok (.aload_n 0, 1) := by decide +kernel
theorem dX8_link_142 : decode YX8_link.2.1 142 = .ok (.getfield 129, 3) := by decide +kernel
theorem dX8_link_145 : decode YX8_link.2.1 145 = .ok (.iconst 1, 1) := by decide +kernel
theorem dX8_link_146 : decode YX8_link.2.1 146 = .ok (.isub, 1) := by decide +kernel
theorem dX8_link_147 : decode YX8_link.2.1 147 = .ok (.ireturn, 1) := by decide +kernel
theorem dX8_set_0 : decode YX8_set.2.1 0 = .ok (.aload_n 0, 1) := by decide +kernel
theorem dX8_set_1 : decode YX8_set.2.1 1 = .ok (.iload_n 1, 1) := by decide +kernel
theorem dX8_set_2 : decode YX8_set.2.1 2 = .ok (.invokevirtual 148, 3) := by decide +kernel
theorem dX8_set_5 : decode YX8_set.2.1 5 = .ok (.ifCond .eq 12, 3) := by decide +kernel
theorem dX8_set_8 : decode YX8_set.2.1 8 = .ok (.iload_n 2, 1) := by decide +kernel
theorem dX8_set_9 : decode YX8_set.2.1 9 = .ok (.iconst 0, 1) := by decide +kernel
theorem dX8_set_10 : decode YX8_set.2.1 10 = .ok (.iconst 1, 1) := by decide +kernel
theorem dX8_set_11 : decode YX8_set.2.1 11 = .ok (.invokestatic 125, 3) := by decide +kernel
theorem dX8_set_14 : decode YX8_set.2.1 14 = .ok (.ifCond .ne 6, 3) := by decide +kernel
theorem dX8_set_17 : decode YX8_set.2.1 17 = .ok (.bipush (-2), 2) := by decide +kernel
theorem dX8_set_19 : decode YX8_set.2.1 19 = .ok (.ireturn, 1) := by decide +kernel
theorem dX8_set_20 : decode YX8_set.2.1 20 = .ok (.aload_n 0, 1) := by decide +kernel
theorem dX8_set_21 : decode YX8_set.2.1 21 = .ok (.getfield 19, 3) := by decide +kernel
theorem dX8_set_24 : decode YX8_set.2.1 24 = .ok (.iload_n 1, 1) := by decide +kernel
theorem dX8_set_25 : decode YX8_set.2.1 25 = .ok (.iaload, 1) := by decide +kernel
theorem dX8_set_26 : decode YX8_set.2.1 26 = .ok (.istore_n 3, 1) := by decide +kernel
theorem dX8_set_27 : decode YX8_set.2.1 27 = .ok (.aload_n 0, 1) := by decide +kernel
theorem dX8_set_28 : decode YX8_set.2.1 28 = .ok (.getfield 19, 3) := by decide +kernel
theorem dX8_set_31 : decode YX8_set.2.1 31 = .ok (.iload_n 1, 1) := by decide +kernel
theorem dX8_set_32 : decode YX8_set.2.1 32 = .ok (.iload_n 2, 1) := by decide +kernel
theorem dX8_set_33 : decode YX8_set.2.1 33 = .ok (.iastore, 1) := by decide +kernel
theorem dX8_set_34 : decode YX8_set.2.1 34 = .ok (.iload_n 3, 1) := by decide +kernel
theorem dX8_set_35 : decode YX8_set.2.1 35 = .ok (.ireturn, 1) := by decide +kernel
theorem dX8_cost_0 : decode YX8_cost.2.1 0 = .ok (.aload_n 0, 1) := by decide +kernel
theorem dX8_cost_1 : decode YX8_cost.2.1 1 = .ok (.iload_n 1, 1) := by decide +kernel
theorem dX8_cost_2 : decode YX8_cost.2.1 2 = .ok (.invokevirtual 148, 3) := by decide +kernel
theorem dX8_cost_5 : decode YX8_cost.2.1 5 = .ok (.ifCond .eq 22, 3) := by decide +kernel
theorem dX8_cost_8 : decode YX8_cost.2.1 8 = .ok (.iload_n 2, 1) := by decide +kernel
theorem dX8_cost_9 : decode YX8_cost.2.1 9 = .ok (.iconst 0, 1) := by decide +kernel
theorem dX8_cost_10 : decode YX8_cost.2.1 10 = .ok (.iconst 1, 1) := by decide +kernel
theorem dX8_cost_11 : decode YX8_cost.2.1 11 = .ok (.invokestatic 125, 3) := by decide +kernel
theorem dX8_cost_14 : decode YX8_cost.2.1 14 = .ok (.ifCond .eq 13, 3) := by decide +kernel
theorem dX8_cost_17 : decode YX8_cost.2.1 17 = .ok (.iload_n 3, 1) := by decide +kernel
theorem dX8_cost_18 : decode YX8_cost.2.1 18 = .ok (.iconst 1, 1) := by decide +kernel
theorem dX8_cost_19 : decode YX8_cost.2.1 19 = .ok (.bipush 99, 2) := by decide +kernel
theorem dX8_cost_21 : decode YX8_cost.2.1 21 = .ok (.invokestatic 125, 3) := by decide +kernel
theorem dX8_cost_24 : decode YX8_cost.2.1 24 = .ok (.ifCond .ne 6, 3) := by decide +kernel
theorem dX8_cost_27 : decode YX8_cost.2.1 27 = .ok (.bipush (-2), 2) := by decide +kernel
theorem dX8_cost_29 : decode YX8_cost.2.1 29 = .ok (.ireturn, 1) := by decide +kernel
theorem dX8_cost_30 : decode YX8_cost.2.1 30 = .ok (.aload_n 0, 1) := by decide +kernel
theorem dX8_cost_31 : decode YX8_cost.2.1 31 = .ok (.getfield 22, 3) := by decide +kernel
theorem dX8_cost_34 : decode YX8_cost.2.1 34 = .ok (.iconst 2, 1) := by decide +kernel
theorem dX8_cost_35 : decode YX8_cost.2.1 35 = .ok (.iload_n 1, 1) := by decide +kernel
theorem dX8_cost_36 : decode YX8_cost.2.1 36 = .ok (.imul, 1) := by decide +kernel
theorem dX8_cost_37 : decode YX8_cost.2.1 37 = .ok (.iload_n 2, 1) := by decide +kernel
theorem dX8_cost_38 : decode YX8_cost.2.1 38 = .ok (.iadd, 1) := by decide +kernel
theorem dX8_cost_39 : decode YX8_cost.2.1 39 = .ok (.iaload, 1) := by decide +kernel
theorem dX8_cost_40 : decode YX8_cost.2.1 40 = .ok (.istore 4, 2) := by decide +kernel
theorem dX8_cost_42 : decode YX8_cost.2.1 42 = .ok (.aload_n 0, 1) := by decide +kernel
theorem dX8_cost_43 : decode YX8_cost.2.1 43 = .ok (.getfield 22, 3) := by decide +kernel
theorem dX8_cost_46 : decode YX8_cost.2.1 46 = .ok (.iconst 2, 1) := by decide +kernel
theorem dX8_cost_47 : decode YX8_cost.2.1 47 = .ok (.iload_n 1, 1) := by decide +kernel
theorem dX8_cost_48 : decode YX8_cost.2.1 48 = .ok (.imul, 1) := by decide +kernel
theorem dX8_cost_49 : decode YX8_cost.2.1 49 = .ok (.iload_n 2, 1) := by decide +kernel
theorem dX8_cost_50 : decode YX8_cost.2.1 50 = .ok (.iadd, 1) := by decide +kernel
theorem dX8_cost_51 : decode YX8_cost.2.1 51 = .ok (.iload_n 3, 1) := by decide +kernel
theorem dX8_cost_52 : decode YX8_cost.2.1 52 = .ok (.iastore, 1) := by decide +kernel
theorem dX8_cost_53 : decode YX8_cost.2.1 53 = .ok (.iload 4, 2) := by decide +kernel
theorem dX8_cost_55 : decode YX8_cost.2.1 55 = .ok (.ireturn, 1) := by decide +kernel
theorem dX8_told_0 : decode YX8_told.2.1 0 = .ok (.aload_n 0, 1) := by decide +kernel
theorem dX8_told_1 : decode YX8_told.2.1 1 = .ok (.iload_n 1, 1) := by decide +kernel
theorem dX8_told_2 : decode YX8_told.2.1 2 = .ok (.invokevirtual 148, 3) := by decide +kernel
theorem dX8_told_5 : decode YX8_told.2.1 5 = .ok (.ifCond .eq 12, 3) := by decide +kernel
theorem dX8_told_8 : decode YX8_told.2.1 8 = .ok (.iload_n 2, 1) := by decide +kernel
theorem dX8_told_9 : decode YX8_told.2.1 9 = .ok (.iconst 0, 1) := by decide +kernel
theorem dX8_told_10 : decode YX8_told.2.1 10 = .ok (.iconst 5, 1) := by decide +kernel
theorem dX8_told_11 : decode YX8_told.2.1 11 = .ok (.invokestatic 125, 3) := by decide +kernel
theorem dX8_told_14 : decode YX8_told.2.1 14 = .ok (.ifCond .ne 6, 3) := by decide +kernel
theorem dX8_told_17 : decode YX8_told.2.1 17 = .ok (.bipush (-2), 2) := by decide +kernel
theorem dX8_told_19 : decode YX8_told.2.1 19 = .ok (.ireturn, 1) := by decide +kernel
theorem dX8_told_20 : decode YX8_told.2.1 20 = .ok (.iload_n 2, 1) := by decide +kernel
theorem dX8_told_21 : decode YX8_told.2.1 21 = .ok (.ifCond .ne 12, 3) := by decide +kernel
theorem dX8_told_24 : decode YX8_told.2.1 24 = .ok (.aload_n 0, 1) := by decide +kernel
theorem dX8_told_25 : decode YX8_told.2.1 25 = .ok (.getfield 9, 3) := by decide +kernel
theorem dX8_told_28 : decode YX8_told.2.1 28 = .ok (.iload_n 1, 1) := by decide +kernel
theorem dX8_told_29 : decode YX8_told.2.1 29 = .ok (.iaload, 1) := by decide +kernel
theorem dX8_told_30 : decode YX8_told.2.1 30 = .ok (.goto 57, 3) := by decide +kernel
theorem dX8_told_33 : decode YX8_told.2.1 33 = .ok (.iload_n 2, 1) := by decide +kernel
theorem dX8_told_34 : decode YX8_told.2.1 34 = .ok (.iconst 1, 1) := by decide +kernel
theorem dX8_told_35 : decode YX8_told.2.1 35 = .ok (.if_icmp .ne 12, 3) := by decide +kernel
theorem dX8_told_38 : decode YX8_told.2.1 38 = .ok (.aload_n 0, 1) := by decide +kernel
theorem dX8_told_39 : decode YX8_told.2.1 39 = .ok (.getfield 13, 3) := by decide +kernel
theorem dX8_told_42 : decode YX8_told.2.1 42 = .ok (.iload_n 1, 1) := by decide +kernel
theorem dX8_told_43 : decode YX8_told.2.1 43 = .ok (.iaload, 1) := by decide +kernel
theorem dX8_told_44 : decode YX8_told.2.1 44 = .ok (.goto 43, 3) := by decide +kernel
theorem dX8_told_47 : decode YX8_told.2.1 47 = .ok (.iload_n 2, 1) := by decide +kernel
theorem dX8_told_48 : decode YX8_told.2.1 48 = .ok (.iconst 2, 1) := by decide +kernel
theorem dX8_told_49 : decode YX8_told.2.1 49 = .ok (.if_icmp .ne 12, 3) := by decide +kernel
theorem dX8_told_52 : decode YX8_told.2.1 52 = .ok (.aload_n 0, 1) := by decide +kernel
theorem dX8_told_53 : decode YX8_told.2.1 53 = .ok (.getfield 16, 3) := by decide +kernel
theorem dX8_told_56 : decode YX8_told.2.1 56 = .ok (.iload_n 1, 1) := by decide +kernel
theorem dX8_told_57 : decode YX8_told.2.1 57 = .ok (.iaload, 1) := by decide +kernel
theorem dX8_told_58 : decode YX8_told.2.1 58 = .ok (.goto 29, 3) := by decide +kernel
theorem dX8_told_61 : decode YX8_told.2.1 61 = .ok (.iload_n 2, 1) := by decide +kernel
theorem dX8_told_62 : decode YX8_told.2.1 62 = .ok (.iconst 5, 1) := by decide +kernel
theorem dX8_told_63 : decode YX8_told.2.1 63 = .ok (.if_icmp .ge 18, 3) := by decide +kernel
theorem dX8_told_66 : decode YX8_told.2.1 66 = .ok (.aload_n 0, 1) := by decide +kernel
theorem dX8_told_67 : decode YX8_told.2.1 67 = .ok (.getfield 22, 3) := by decide +kernel
theorem dX8_told_70 : decode YX8_told.2.1 70 = .ok (.iconst 2, 1) := by decide +kernel
theorem dX8_told_71 : decode YX8_told.2.1 71 = .ok (.iload_n 1, 1) := by decide +kernel
theorem dX8_told_72 : decode YX8_told.2.1 72 = .ok (.imul, 1) := by decide +kernel
theorem dX8_told_73 : decode YX8_told.2.1 73 = .ok (.iload_n 2, 1) := by decide +kernel
theorem dX8_told_74 : decode YX8_told.2.1 74 = .ok (.iadd, 1) := by decide +kernel
theorem dX8_told_75 : decode YX8_told.2.1 75 = .ok (.iconst 3, 1) := by decide +kernel
theorem dX8_told_76 : decode YX8_told.2.1 76 = .ok (.isub, 1) := by decide +kernel
theorem dX8_told_77 : decode YX8_told.2.1 77 = .ok (.iaload, 1) := by decide +kernel
theorem dX8_told_78 : decode YX8_told.2.1 78 = .ok (.goto 9, 3) := by decide +kernel
theorem dX8_told_81 : decode YX8_told.2.1 81 = .ok (.aload_n 0, 1) := by decide +kernel
theorem dX8_told_82 : decode YX8_told.2.1 82 = .ok (.getfield 19, 3) := by decide +kernel
theorem dX8_told_85 : decode YX8_told.2.1 85 = .ok (.iload_n 1, 1) := by decide +kernel
theorem dX8_told_86 : decode YX8_told.2.1 86 = .ok (.iaload, 1) := by decide +kernel
theorem dX8_told_87 : decode YX8_told.2.1 87 = .ok (.ireturn, 1) := by decide +kernel
theorem dX8_isStale_0 : decode YX8_isStale.2.1 0 = .ok (.iconst 0, 1) := by decide +kernel
theorem dX8_isStale_1 : decode YX8_isStale.2.1 1 = .ok (.istore_n 3, 1) := by decide +kernel
theorem dX8_isStale_2 : decode YX8_isStale.2.1 2 = .ok (.iload_n 3, 1) := by decide +kernel
theorem dX8_isStale_3 : decode YX8_isStale.2.1 3 = .ok (.aload_n 0, 1) := by decide +kernel
theorem dX8_isStale_4 : decode YX8_isStale.2.1 4 = .ok (.getfield 129, 3) := by decide +kernel
theorem dX8_isStale_7 : decode YX8_isStale.2.1 7 = .ok (.if_icmp .ge 48, 3) := by decide +kernel
theorem dX8_isStale_10 : decode YX8_isStale.2.1 10 = .ok (.aload_n 0, 1) := by decide +kernel
theorem dX8_isStale_11 : decode YX8_isStale.2.1 11 = .ok (.getfield 39, 3) := by decide +kernel
theorem dX8_isStale_14 : decode YX8_isStale.2.1 14 = .ok (.iload_n 1, 1) := by decide +kernel
theorem dX8_isStale_15 : decode YX8_isStale.2.1 15 = .ok (.aaload, 1) := by decide +kernel
theorem dX8_isStale_16 : decode YX8_isStale.2.1 16 = .ok (.iload_n 3, 1) := by decide +kernel
theorem dX8_isStale_17 : decode YX8_isStale.2.1 17 = .ok (.iaload, 1) := by decide +kernel
theorem dX8_isStale_18 : decode YX8_isStale.2.1 18 = .ok (.ifCond .le 31, 3) := by decide +kernel
theorem dX8_isStale_21 : decode YX8_isStale.2.1 21 = .ok (.aload_n 0, 1) := by decide +kernel
theorem dX8_isStale_22 : decode YX8_isStale.2.1 22 = .ok (.getfield 19, 3) := by decide +kernel
theorem dX8_isStale_25 : decode YX8_isStale.2.1 25 = .ok (.iload_n 3, 1) := by decide +kernel
theorem dX8_isStale_26 : decode YX8_isStale.2.1 26 = .ok (.iaload, 1) := by decide +kernel
theorem dX8_isStale_27 : decode YX8_isStale.2.1 27 = .ok (.ifCond .eq 20, 3) := by decide +kernel
theorem dX8_isStale_30 : decode YX8_isStale.2.1 30 = .ok (.aload_n 0, 1) := by decide +kernel
theorem dX8_isStale_31 : decode YX8_isStale.2.1 31 = .ok (.getfield 39, 3) := by decide +kernel
theorem dX8_isStale_34 : decode YX8_isStale.2.1 34 = .ok (.iload_n 1, 1) := by decide +kernel
theorem dX8_isStale_35 : decode YX8_isStale.2.1 35 = .ok (.aaload, 1) := by decide +kernel
theorem dX8_isStale_36 : decode YX8_isStale.2.1 36 = .ok (.iload_n 3, 1) := by decide +kernel
theorem dX8_isStale_37 : decode YX8_isStale.2.1 37 = .ok (.iaload, 1) := by decide +kernel
theorem dX8_isStale_38 : decode YX8_isStale.2.1 38 = .ok (.aload_n 0, 1) := by decide +kernel
theorem dX8_isStale_39 : decode YX8_isStale.2.1 39 = .ok (.iload_n 3, 1) := by decide +kernel
theorem dX8_isStale_40 : decode YX8_isStale.2.1 40 = .ok (.iload_n 2, 1) := by decide +kernel
theorem dX8_isStale_41 : decode YX8_isStale.2.1 41 = .ok (.invokevirtual 151, 3) := by decide +kernel
theorem dX8_isStale_44 : decode YX8_isStale.2.1 44 = .ok (.if_icmp .eq 5, 3) := by decide +kernel
theorem dX8_isStale_47 : decode YX8_isStale.2.1 47 = .ok (.iconst 1, 1) := by decide +kernel
theorem dX8_isStale_48 : decode YX8_isStale.2.1 48 = .ok (.ireturn, 1) := by decide +kernel
theorem dX8_isStale_49 : decode YX8_isStale.2.1 49 = .ok (.iinc 3 1, 3) := by decide +kernel
theorem dX8_isStale_52 : decode YX8_isStale.2.1 52 = .ok (.goto (-50), 3) := by decide +kernel
theorem dX8_isStale_55 : decode YX8_isStale.2.1 55 = .ok (.iconst 0, 1) := by decide +kernel
theorem dX8_isStale_56 : decode YX8_isStale.2.1 56 = .ok (.ireturn, 1) := by decide +kernel
theorem dX8_knows_0 : decode YX8_knows.2.1 0 = .ok (.iconst 0, 1) := by decide +kernel
theorem dX8_knows_1 : decode YX8_knows.2.1 1 = .ok (.istore_n 3, 1) := by decide +kernel
theorem dX8_knows_2 : decode YX8_knows.2.1 2 = .ok (.iconst 0, 1) := by decide +kernel
theorem dX8_knows_3 : decode YX8_knows.2.1 3 = .ok (.istore 4, 2) := by decide +kernel
theorem dX8_knows_5 : decode YX8_knows.2.1 5 = .ok (.iload 4, 2) := by decide +kernel
theorem dX8_knows_7 : decode YX8_knows.2.1 7 = .ok (.bipush 8, 2) := by decide +kernel
theorem dX8_knows_9 : decode YX8_knows.2.1 9 = .ok (.if_icmp .ge 62, 3) := by decide +kernel
theorem dX8_knows_12 : decode YX8_knows.2.1 12 = .ok (.iconst 0, 1) := by decide +kernel
theorem dX8_knows_13 : decode YX8_knows.2.1 13 = .ok (.istore 5, 2) := by decide +kernel
theorem dX8_knows_15 : decode YX8_knows.2.1 15 = .ok (.iload 5, 2) := by decide +kernel
theorem dX8_knows_17 : decode YX8_knows.2.1 17 = .ok (.iconst 3, 1) := by decide +kernel
theorem dX8_knows_18 : decode YX8_knows.2.1 18 = .ok (.if_icmp .ge 47, 3) := by decide +kernel
theorem dX8_knows_21 : decode YX8_knows.2.1 21 = .ok (.iload_n 1, 1) := by decide +kernel
theorem dX8_knows_22 : decode YX8_knows.2.1 22 = .ok (.iload 4, 2) := by decide +kernel
theorem dX8_knows_24 : decode YX8_knows.2.1 24 = .ok (.iload 5, 2) := by decide +kernel
theorem dX8_knows_26 : decode YX8_knows.2.1 26 = .ok (.invokestatic 155, 3) := by decide +kernel
theorem dX8_knows_29 : decode YX8_knows.2.1 29 = .ok (.istore 6, 2) := by decide +kernel
theorem dX8_knows_31 : decode YX8_knows.2.1 31 = .ok (.aload_n 0, 1) := by decide +kernel
theorem dX8_knows_32 : decode YX8_knows.2.1 32 = .ok (.getfield 25, 3) := by decide +kernel
theorem dX8_knows_35 : decode YX8_knows.2.1 35 = .ok (.iload 6, 2) := by decide +kernel
theorem dX8_knows_37 : decode YX8_knows.2.1 37 = .ok (.iaload, 1) := by decide +kernel
theorem dX8_knows_38 : decode YX8_knows.2.1 38 = .ok (.ifCond .le 21, 3) := by decide +kernel
theorem dX8_knows_41 : decode YX8_knows.2.1 41 = .ok (.iload_n 2, 1) := by decide +kernel
theorem dX8_knows_42 : decode YX8_knows.2.1 42 = .ok (.ifCond .eq 14, 3) := by decide +kernel
theorem dX8_knows_45 : decode YX8_knows.2.1 45 = .ok (.aload_n 0, 1) := by decide +kernel
theorem dX8_knows_46 : decode YX8_knows.2.1 46 = .ok (.iload 6, 2) := by decide +kernel
theorem dX8_knows_48 : decode YX8_knows.2.1 48 = .ok (.iload 4, 2) := by decide +kernel
theorem dX8_knows_50 : decode YX8_knows.2.1 50 = .ok (.invokevirtual 159, 3) := by decide +kernel
theorem dX8_knows_53 : decode YX8_knows.2.1 53 = .ok (.ifCond .eq 6, 3) := by decide +kernel
theorem dX8_knows_56 : decode YX8_knows.2.1 56 = .ok (.iinc 3 1, 3) := by decide +kernel
theorem dX8_knows_59 : decode YX8_knows.2.1 59 = .ok (.iinc 5 1, 3) := by decide +kernel
theorem dX8_knows_62 : decode YX8_knows.2.1 62 = .ok (.goto (-47), 3) := by decide +kernel
theorem dX8_knows_65 : decode YX8_knows.2.1 65 = .ok (.iinc 4 1, 3) := by decide +kernel
theorem dX8_knows_68 : decode YX8_knows.2.1 68 = .ok (.goto (-63), 3) := by decide +kernel
theorem dX8_knows_71 : decode YX8_knows.2.1 71 = .ok (.iload_n 3, 1) := by decide +kernel
theorem dX8_knows_72 : decode YX8_knows.2.1 72 = .ok (.ireturn, 1) := by decide +kernel
theorem dX8_router_0 : decode YX8_router.2.1 0 = .ok (.iload_n 1, 1) := by decide +kernel
theorem dX8_router_1 : decode YX8_router.2.1 1 = .ok (.invokestatic 141, 3) := by decide +kernel
theorem dX8_router_4 : decode YX8_router.2.1 4 = .ok (.ifCond .eq 12, 3) := by decide +kernel
theorem dX8_router_7 : decode YX8_router.2.1 7 = .ok (.iload_n 2, 1) := by decide +kernel
theorem dX8_router_8 : decode YX8_router.2.1 8 = .ok (.iconst 0, 1) := by decide +kernel
theorem dX8_router_9 : decode YX8_router.2.1 9 = .ok (.iconst 3, 1) := by decide +kernel
theorem dX8_router_10 : decode YX8_router.2.1 10 = .ok (.invokestatic 125, 3) := by decide +kernel
theorem dX8_router_13 : decode YX8_router.2.1 13 = .ok (.ifCond .ne 6, 3) := by decide +kernel
theorem dX8_router_16 : decode YX8_router.2.1 16 = .ok (.bipush (-2), 2) := by decide +kernel
theorem dX8_router_18 : decode YX8_router.2.1 18 = .ok (.ireturn, 1) := by decide +kernel
theorem dX8_router_19 : decode YX8_router.2.1 19 = .ok (.iload_n 2, 1) := by decide +kernel
theorem dX8_router_20 : decode YX8_router.2.1 20 = .ok (.ifCond .ne 11, 3) := by decide +kernel
theorem dX8_router_23 : decode YX8_router.2.1 23 = .ok (.aload_n 0, 1) := by decide +kernel
theorem dX8_router_24 : decode YX8_router.2.1 24 = .ok (.iload_n 1, 1) := by decide +kernel
theorem dX8_router_25 : decode YX8_router.2.1 25 = .ok (.invokevirtual 137, 3) := by decide +kernel
theorem dX8_router_28 : decode YX8_router.2.1 28 = .ok (.goto 39, 3) := by decide +kernel
theorem dX8_router_31 : decode YX8_router.2.1 31 = .ok (.iload_n 2, 1) := by decide +kernel
theorem dX8_router_32 : decode YX8_router.2.1 32 = .ok (.iconst 1, 1) := by decide +kernel
theorem dX8_router_33 : decode YX8_router.2.1 33 = .ok (.if_icmp .ne 19, 3) := by decide +kernel
theorem dX8_router_36 : decode YX8_router.2.1 36 = .ok (.aload_n 0, 1) := by decide +kernel
theorem dX8_router_37 : decode YX8_router.2.1 37 = .ok (.iload_n 1, 1) := by decide +kernel
theorem dX8_router_38 : decode YX8_router.2.1 38 = .ok (.invokevirtual 162, 3) := by decide +kernel
theorem dX8_router_41 : decode YX8_router.2.1 41 = .ok (.ifCond .eq 7, 3) := by decide +kernel
theorem dX8_router_44 : decode YX8_router.2.1 44 = .ok (.iconst 1, 1) := by decide +kernel
theorem dX8_router_45 : decode YX8_router.2.1 45 = .ok (.goto 22, 3) := by decide +kernel
theorem dX8_router_48 : decode YX8_router.2.1 48 = .ok (.iconst 0, 1) := by decide +kernel
theorem dX8_router_49 : decode YX8_router.2.1 49 = .ok (.goto 18, 3) := by decide +kernel
theorem dX8_router_52 : decode YX8_router.2.1 52 = .ok (.aload_n 0, 1) := by decide +kernel
theorem dX8_router_53 : decode YX8_router.2.1 53 = .ok (.iload_n 1, 1) := by decide +kernel
theorem dX8_router_54 : decode YX8_router.2.1 54 = .ok (.iload_n 2, 1) := by decide +kernel
theorem dX8_router_55 : decode YX8_router.2.1 55 = .ok (.iconst 3, 1) := by decide +kernel
theorem dX8_router_56 : decode YX8_router.2.1 56 = .ok (.if_icmp .ne 7, 3) := by decide +kernel
theorem dX8_router_59 : decode YX8_router.2.1 59 = .ok (.iconst 1, 1) := by decide +kernel
theorem dX8_router_60 : decode YX8_router.2.1 60 = .ok (.goto 4, 3) := by decide +kernel
theorem dX8_router_63 : decode YX8_router.2.1 63 = .ok (.iconst 0, 1) := by decide +kernel
theorem dX8_router_64 : decode YX8_router.2.1 64 = .ok (.invokevirtual 165, 3) := by decide +kernel
theorem dX8_router_67 : decode YX8_router.2.1 67 = .ok (.ireturn, 1) := by decide +kernel
theorem dX8_taken_0 : decode YX8_taken.2.1 0 = .ok (.iload_n 1, 1) := by decide +kernel
theorem dX8_taken_1 : decode YX8_taken.2.1 1 = .ok (.invokestatic 141, 3) := by decide +kernel
theorem dX8_taken_4 : decode YX8_taken.2.1 4 = .ok (.ifCond .eq 12, 3) := by decide +kernel
theorem dX8_taken_7 : decode YX8_taken.2.1 7 = .ok (.iload_n 2, 1) := by decide +kernel
theorem dX8_taken_8 : decode YX8_taken.2.1 8 = .ok (.iconst 0, 1) := by decide +kernel
theorem dX8_taken_9 : decode YX8_taken.2.1 9 = .ok (.iconst 2, 1) := by decide +kernel
theorem dX8_taken_10 : decode YX8_taken.2.1 10 = .ok (.invokestatic 125, 3) := by decide +kernel
theorem dX8_taken_13 : decode YX8_taken.2.1 13 = .ok (.ifCond .ne 6, 3) := by decide +kernel
theorem dX8_taken_16 : decode YX8_taken.2.1 16 = .ok (.bipush (-2), 2) := by decide +kernel
theorem dX8_taken_18 : decode YX8_taken.2.1 18 = .ok (.ireturn, 1) := by decide +kernel
theorem dX8_taken_19 : decode YX8_taken.2.1 19 = .ok (.aload_n 0, 1) := by decide +kernel
theorem dX8_taken_20 : decode YX8_taken.2.1 20 = .ok (.iload_n 1, 1) := by decide +kernel
theorem dX8_taken_21 : decode YX8_taken.2.1 21 = .ok (.invokevirtual 137, 3) := by decide +kernel
theorem dX8_taken_24 : decode YX8_taken.2.1 24 = .ok (.istore_n 3, 1) := by decide +kernel
theorem dX8_taken_25 : decode YX8_taken.2.1 25 = .ok (.iload_n 2, 1) := by decide +kernel
theorem dX8_taken_26 : decode YX8_taken.2.1 26 = .ok (.ifCond .ne 15, 3) := by decide +kernel
theorem dX8_taken_29 : decode YX8_taken.2.1 29 = .ok (.iload_n 3, 1) := by decide +kernel
theorem dX8_taken_30 : decode YX8_taken.2.1 30 = .ok (.ifCond .eq 7, 3) := by decide +kernel
theorem dX8_taken_33 : decode YX8_taken.2.1 33 = .ok (.iconst 1, 1) := by decide +kernel
theorem dX8_taken_34 : decode YX8_taken.2.1 34 = .ok (.goto 30, 3) := by decide +kernel
theorem dX8_taken_37 : decode YX8_taken.2.1 37 = .ok (.iconst 0, 1) := by decide +kernel
theorem dX8_taken_38 : decode YX8_taken.2.1 38 = .ok (.goto 26, 3) := by decide +kernel
theorem dX8_taken_41 : decode YX8_taken.2.1 41 = .ok (.iload_n 2, 1) := by decide +kernel
theorem dX8_taken_42 : decode YX8_taken.2.1 42 = .ok (.iconst 1, 1) := by decide +kernel
theorem dX8_taken_43 : decode YX8_taken.2.1 43 = .ok (.if_icmp .ne 11, 3) := by decide +kernel
theorem dX8_taken_46 : decode YX8_taken.2.1 46 = .ok (.aload_n 0, 1) := by decide +kernel
theorem dX8_taken_47 : decode YX8_taken.2.1 47 = .ok (.iload_n 1, 1) := by decide +kernel
theorem dX8_taken_48 : decode YX8_taken.2.1 48 = .ok (.invokevirtual 162, 3) := by decide +kernel
theorem dX8_taken_51 : decode YX8_taken.2.1 51 = .ok (.goto 13, 3) := by decide +kernel
theorem dX8_taken_54 : decode YX8_taken.2.1 54 = .ok (.iload_n 3, 1) := by decide +kernel
theorem dX8_taken_55 : decode YX8_taken.2.1 55 = .ok (.iconst 1, 1) := by decide +kernel
theorem dX8_taken_56 : decode YX8_taken.2.1 56 = .ok (.if_icmp .ne 7, 3) := by decide +kernel
theorem dX8_taken_59 : decode YX8_taken.2.1 59 = .ok (.iconst 1, 1) := by decide +kernel
theorem dX8_taken_60 : decode YX8_taken.2.1 60 = .ok (.goto 4, 3) := by decide +kernel
theorem dX8_taken_63 : decode YX8_taken.2.1 63 = .ok (.iconst 0, 1) := by decide +kernel
theorem dX8_taken_64 : decode YX8_taken.2.1 64 = .ok (.istore 4, 2) := by decide +kernel
theorem dX8_taken_66 : decode YX8_taken.2.1 66 = .ok (.iconst 0, 1) := by decide +kernel
theorem dX8_taken_67 : decode YX8_taken.2.1 67 = .ok (.istore 5, 2) := by decide +kernel
theorem dX8_taken_69 : decode YX8_taken.2.1 69 = .ok (.iconst 0, 1) := by decide +kernel
theorem dX8_taken_70 : decode YX8_taken.2.1 70 = .ok (.istore 6, 2) := by decide +kernel
theorem dX8_taken_72 : decode YX8_taken.2.1 72 = .ok (.iload 6, 2) := by decide +kernel
theorem dX8_taken_74 : decode YX8_taken.2.1 74 = .ok (.aload_n 0, 1) := by decide +kernel
theorem dX8_taken_75 : decode YX8_taken.2.1 75 = .ok (.getfield 129, 3) := by decide +kernel
theorem dX8_taken_78 : decode YX8_taken.2.1 78 = .ok (.if_icmp .ge 33, 3) := by decide +kernel
theorem dX8_taken_81 : decode YX8_taken.2.1 81 = .ok (.aload_n 0, 1) := by decide +kernel
theorem dX8_taken_82 : decode YX8_taken.2.1 82 = .ok (.getfield 19, 3) := by decide +kernel
theorem dX8_taken_85 : decode YX8_taken.2.1 85 = .ok (.iload 6, 2) := by decide +kernel
theorem dX8_taken_87 : decode YX8_taken.2.1 87 = .ok (.iaload, 1) := by decide +kernel
theorem dX8_taken_88 : decode YX8_taken.2.1 88 = .ok (.iconst 1, 1) := by decide +kernel
theorem dX8_taken_89 : decode YX8_taken.2.1 89 = .ok (.if_icmp .ne 16, 3) := by decide +kernel
theorem dX8_taken_92 : decode YX8_taken.2.1 92 = .ok (.aload_n 0, 1) := by decide +kernel
theorem dX8_taken_93 : decode YX8_taken.2.1 93 = .ok (.iload 6, 2) := by decide +kernel
theorem dX8_taken_95 : decode YX8_taken.2.1 95 = .ok (.iload_n 1, 1) := by decide +kernel
theorem dX8_taken_96 : decode YX8_taken.2.1 96 = .ok (.invokevirtual 133, 3) := by decide +kernel
theorem dX8_taken_99 : decode YX8_taken.2.1 99 = .ok (.ifCond .eq 6, 3) := by decide +kernel
theorem dX8_taken_102 : decode YX8_taken.2.1 102 = .ok (.iinc 5 1, 3) := by decide +kernel
theorem dX8_taken_105 : decode YX8_taken.2.1 105 = .ok (.iinc 6 1, 3) := by decide +kernel
theorem dX8_taken_108 : decode YX8_taken.2.1 108 = .ok (.goto (-36), 3) := by decide +kernel
theorem dX8_taken_111 : decode YX8_taken.2.1 111 = .ok (.iload 4, 2) := by decide +kernel
theorem dX8_taken_113 : decode YX8_taken.2.1 113 = .ok (.ifCond .eq 8, 3) := by decide +kernel
theorem dX8_taken_116 : decode YX8_taken.2.1 116 = .ok (.iload 5, 2) := by decide +kernel
theorem dX8_taken_118 : decode YX8_taken.2.1 118 = .ok (.goto 5, 3) := by decide +kernel
theorem dX8_taken_121 : decode YX8_taken.2.1 121 = .ok (.bipush (-13), 2) := by decide +kernel
theorem dX8_taken_123 : decode YX8_taken.2.1 123 = .ok (.ireturn, 1) := by decide +kernel
theorem dX8_edge_0 : decode YX8_edge.2.1 0 = .ok (.iload_n 1, 1) := by decide +kernel
theorem dX8_edge_1 : decode YX8_edge.2.1 1 = .ok (.iload 4, 2) := by decide +kernel
theorem dX8_edge_3 : decode YX8_edge.2.1 3 = .ok (.iload_n 2, 1) := by decide +kernel
theorem dX8_edge_4 : decode YX8_edge.2.1 4 = .ok (.invokestatic 155, 3) := by decide +kernel
theorem dX8_edge_7 : decode YX8_edge.2.1 7 = .ok (.istore 5, 2) := by decide +kernel
theorem dX8_edge_9 : decode YX8_edge.2.1 9 = .ok (.iload_n 1, 1) := by decide +kernel
theorem dX8_edge_10 : decode YX8_edge.2.1 10 = .ok (.aload_n 0, 1) := by decide +kernel
theorem dX8_edge_11 : decode YX8_edge.2.1 11 = .ok (.iload_n 3, 1) := by decide +kernel
theorem dX8_edge_12 : decode YX8_edge.2.1 12 = .ok (.iload 4, 2) := by decide +kernel
theorem dX8_edge_14 : decode YX8_edge.2.1 14 = .ok (.invokevirtual 169, 3) := by decide +kernel
theorem dX8_edge_17 : decode YX8_edge.2.1 17 = .ok (.iload_n 2, 1) := by decide +kernel
theorem dX8_edge_18 : decode YX8_edge.2.1 18 = .ok (.invokestatic 155, 3) := by decide +kernel
theorem dX8_edge_21 : decode YX8_edge.2.1 21 = .ok (.istore 6, 2) := by decide +kernel
theorem dX8_edge_23 : decode YX8_edge.2.1 23 = .ok (.aload_n 0, 1) := by decide +kernel
theorem dX8_edge_24 : decode YX8_edge.2.1 24 = .ok (.getfield 25, 3) := by decide +kernel
theorem dX8_edge_27 : decode YX8_edge.2.1 27 = .ok (.iload 5, 2) := by decide +kernel
theorem dX8_edge_29 : decode YX8_edge.2.1 29 = .ok (.iaload, 1) := by decide +kernel
theorem dX8_edge_30 : decode YX8_edge.2.1 30 = .ok (.ifCond .le 37, 3) := by decide +kernel
theorem dX8_edge_33 : decode YX8_edge.2.1 33 = .ok (.aload_n 0, 1) := by decide +kernel
theorem dX8_edge_34 : decode YX8_edge.2.1 34 = .ok (.getfield 25, 3) := by decide +kernel
theorem dX8_edge_37 : decode YX8_edge.2.1 37 = .ok (.iload 6, 2) := by decide +kernel
theorem dX8_edge_39 : decode YX8_edge.2.1 39 = .ok (.iaload, 1) := by decide +kernel
theorem dX8_edge_40 : decode YX8_edge.2.1 40 = .ok (.ifCond .le 27, 3) := by decide +kernel
theorem dX8_edge_43 : decode YX8_edge.2.1 43 = .ok (.aload_n 0, 1) := by decide +kernel
theorem dX8_edge_44 : decode YX8_edge.2.1 44 = .ok (.getfield 39, 3) := by decide +kernel
theorem dX8_edge_47 : decode YX8_edge.2.1 47 = .ok (.iload 6, 2) := by decide +kernel
theorem dX8_edge_49 : decode YX8_edge.2.1 49 = .ok (.aaload, 1) := by decide +kernel
theorem dX8_edge_50 : decode YX8_edge.2.1 50 = .ok (.iload_n 3, 1) := by decide +kernel
theorem dX8_edge_51 : decode YX8_edge.2.1 51 = .ok (.iaload, 1) := by decide +kernel
theorem dX8_edge_52 : decode YX8_edge.2.1 52 = .ok (.ifCond .le 15, 3) := by decide +kernel
theorem dX8_edge_55 : decode YX8_edge.2.1 55 = .ok (.aload_n 0, 1) := by decide +kernel
theorem dX8_edge_56 : decode YX8_edge.2.1 56 = .ok (.getfield 39, 3) := by decide +kernel
theorem dX8_edge_59 : decode YX8_edge.2.1 59 = .ok (.iload 5, 2) := by decide +kernel
theorem dX8_edge_61 : decode YX8_edge.2.1 61 = .ok (.aaload, 1) := by decide +kernel
theorem dX8_edge_62 : decode YX8_edge.2.1 62 = .ok (.iload_n 3, 1) := by decide +kernel
theorem dX8_edge_63 : decode YX8_edge.2.1 63 = .ok (.iaload, 1) := by decide +kernel
theorem dX8_edge_64 : decode YX8_edge.2.1 64 = .ok (.goto 4, 3) := by decide +kernel
theorem dX8_edge_67 : decode YX8_edge.2.1 67 = .ok (.iconst 0, 1) := by decide +kernel
theorem dX8_edge_68 : decode YX8_edge.2.1 68 = .ok (.ireturn, 1) := by decide +kernel
theorem dX8_tellWithin_0 : decode YX8_tellWithin.2.1 0 = .ok (.iconst 0, 1) := by decide +kernel
theorem dX8_tellWithin_1 : decode YX8_tellWithin.2.1 1 = .ok (.istore_n 3, 1) := by decide +kernel
theorem dX8_tellWithin_2 : decode YX8_tellWithin.2.1 2 = .ok (.iload_n 3, 1) := by decide +kernel
theorem dX8_tellWithin_3 : decode YX8_tellWithin.2.1 3 = .ok (.bipush 8, 2) := by decide +kernel
theorem dX8_tellWithin_5 : decode YX8_tellWithin.2.1 5 = .ok (.if_icmp .ge 27, 3) := by decide +kernel
theorem dX8_tellWithin_8 : decode YX8_tellWithin.2.1 8 = .ok (.aload_n 0, 1) := by decide +kernel
theorem dX8_tellWithin_9 : decode YX8_tellWithin.2.1 9 = .ok (.getfield 69, 3) := by decide +kernel
theorem dX8_tellWithin_12 : decode YX8_tellWithin.2.1 12 = .ok (.iload_n 3, 1) := by decide +kernel
theorem dX8_tellWithin_13 : decode YX8_tellWithin.2.1 13 = .ok (.iload_n 3, 1) := by decide +kernel
theorem dX8_tellWithin_14 : decode YX8_tellWithin.2.1 14 = .ok (.iload_n 1, 1) := by decide +kernel
theorem dX8_tellWithin_15 : decode YX8_tellWithin.2.1 15 = .ok (.if_icmp .ne 7, 3) := by decide +kernel
theorem dX8_tellWithin_18 : decode YX8_tellWithin.2.1 18 = .ok (.iconst 0, 1) := by decide +kernel
theorem dX8_tellWithin_19 : decode YX8_tellWithin.2.1 19 = .ok (.goto 6, 3) := by decide +kernel
theorem dX8_tellWithin_22 : decode YX8_tellWithin.2.1 22 = .ok (.sipush 9999, 3) := by decide +kernel
theorem dX8_tellWithin_25 : decode YX8_tellWithin.2.1 25 = .ok (.iastore, 1) := by decide +kernel
theorem dX8_tellWithin_26 : decode YX8_tellWithin.2.1 26 = .ok (.iinc 3 1, 3) := by decide +kernel
theorem dX8_tellWithin_29 : decode YX8_tellWithin.2.1 29 = .ok (.goto (-27), 3) := by decide +kernel
theorem dX8_tellWithin_32 : decode YX8_tellWithin.2.1 32 = .ok (.iconst 0, 1) := by decide +kernel
theorem dX8_tellWithin_33 : decode YX8_tellWithin.2.1 33 = .ok (.istore_n 3, 1) := by decide +kernel
theorem dX8_tellWithin_34 : decode YX8_tellWithin.2.1 34 = .ok (.iload_n 3, 1) := by decide +kernel
theorem dX8_tellWithin_35 : decode YX8_tellWithin.2.1 35 = .ok (.bipush 8, 2) := by decide +kernel
theorem dX8_tellWithin_37 : decode YX8_tellWithin.2.1 37 = .ok (.if_icmp .ge 130, 3) := by decide +kernel
theorem dX8_tellWithin_40 : decode YX8_tellWithin.2.1 40 = .ok (.iconst 0, 1) := by decide +kernel
theorem dX8_tellWithin_41 : decode YX8_tellWithin.2.1 41 = .ok (.istore 4, 2) := by decide +kernel
theorem dX8_tellWithin_43 : decode YX8_tellWithin.2.1 43 = .ok (.iload 4, 2) := by decide +kernel
theorem dX8_tellWithin_45 : decode YX8_tellWithin.2.1 45 = .ok (.aload_n 0, 1) := by decide +kernel
theorem dX8_tellWithin_46 : decode YX8_tellWithin.2.1 46 = .ok (.getfield 129, 3) := by decide +kernel
theorem dX8_tellWithin_49 : decode YX8_tellWithin.2.1 49 = .ok (.if_icmp .ge 112, 3) := by decide +kernel
theorem dX8_tellWithin_52 : decode YX8_tellWithin.2.1 52 = .ok (.iconst 0, 1) := by decide +kernel
theorem dX8_tellWithin_53 : decode YX8_tellWithin.2.1 53 = .ok (.istore 5, 2) := by decide +kernel
theorem dX8_tellWithin_55 : decode YX8_tellWithin.2.1 55 = .ok (.iload 5, 2) := by decide +kernel
theorem dX8_tellWithin_57 : decode YX8_tellWithin.2.1 57 = .ok (.iconst 2, 1) := by decide +kernel
theorem dX8_tellWithin_58 : decode YX8_tellWithin.2.1 58 = .ok (.if_icmp .ge 97, 3) := by decide +kernel
theorem dX8_tellWithin_61 : decode YX8_tellWithin.2.1 61 = .ok (.iload 5, 2) := by decide +kernel
theorem dX8_tellWithin_63 : decode YX8_tellWithin.2.1 63 = .ok (.ifCond .ne 13, 3) := by decide +kernel
theorem dX8_tellWithin_66 : decode YX8_tellWithin.2.1 66 = .ok (.aload_n 0, 1) := by decide +kernel
theorem dX8_tellWithin_67 : decode YX8_tellWithin.2.1 67 = .ok (.getfield 9, 3) := by decide +kernel
theorem dX8_tellWithin_70 : decode YX8_tellWithin.2.1 70 = .ok (.iload 4, 2) := by decide +kernel
theorem dX8_tellWithin_72 : decode YX8_tellWithin.2.1 72 = .ok (.iaload, 1) := by decide +kernel
theorem dX8_tellWithin_73 : decode YX8_tellWithin.2.1 73 = .ok (.goto 10, 3) := by decide +kernel
theorem dX8_tellWithin_76 : decode YX8_tellWithin.2.1 76 = .ok (.aload_n 0, 1) := by decide +kernel
theorem dX8_tellWithin_77 : decode YX8_tellWithin.2.1 77 = .ok (.getfield 13, 3) := by decide +kernel
theorem dX8_tellWithin_80 : decode YX8_tellWithin.2.1 80 = .ok (.iload 4, 2) := by decide +kernel
theorem dX8_tellWithin_82 : decode YX8_tellWithin.2.1 82 = .ok (.iaload, 1) := by decide +kernel
theorem dX8_tellWithin_83 : decode YX8_tellWithin.2.1 83 = .ok (.istore 6, 2) := by decide +kernel
theorem dX8_tellWithin_85 : decode YX8_tellWithin.2.1 85 = .ok (.aload_n 0, 1) := by decide +kernel
theorem dX8_tellWithin_86 : decode YX8_tellWithin.2.1 86 = .ok (.iload 4, 2) := by decide +kernel
theorem dX8_tellWithin_88 : decode YX8_tellWithin.2.1 88 = .ok (.iload 6, 2) := by decide +kernel
theorem dX8_tellWithin_90 : decode YX8_tellWithin.2.1 90 = .ok (.invokevirtual 169, 3) := by decide +kernel
theorem dX8_tellWithin_93 : decode YX8_tellWithin.2.1 93 = .ok (.istore 7, 2) := by decide +kernel
theorem dX8_tellWithin_95 : decode YX8_tellWithin.2.1 95 = .ok (.aload_n 0, 1) := by decide +kernel
theorem dX8_tellWithin_96 : decode YX8_tellWithin.2.1 96 = .ok (.iload_n 1, 1) := by decide +kernel
theorem dX8_tellWithin_97 : decode YX8_tellWithin.2.1 97 = .ok (.iload_n 2, 1) := by decide +kernel
theorem dX8_tellWithin_98 : decode YX8_tellWithin.2.1 98 = .ok (.iload 4, 2) := by decide +kernel
theorem dX8_tellWithin_100 : decode YX8_tellWithin.2.1 100 = .ok (.iload 6, 2) := by decide +kernel
theorem dX8_tellWithin_102 : decode YX8_tellWithin.2.1 102 = .ok (.invokevirtual 172, 3) := by decide +kernel
theorem dX8_tellWithin_105 : decode YX8_tellWithin.2.1 105 = .ok (.istore 8, 2) := by decide +kernel
theorem dX8_tellWithin_107 : decode YX8_tellWithin.2.1 107 = .ok (.iload 8, 2) := by decide +kernel
theorem dX8_tellWithin_109 : decode YX8_tellWithin.2.1 109 = .ok (.ifCond .le 40, 3) := by decide +kernel
theorem dX8_tellWithin_112 : decode YX8_tellWithin.2.1 112 = .ok (.aload_n 0, 1) := by decide +kernel
theorem dX8_tellWithin_113 : decode YX8_tellWithin.2.1 113 = .ok (.getfield 69, 3) := by decide +kernel
theorem dX8_tellWithin_116 : decode YX8_tellWithin.2.1 116 = .ok (.iload 6, 2) := by decide +kernel
theorem dX8_tellWithin_118 : decode YX8_tellWithin.2.1 118 = .ok (.iaload, 1) := by decide +kernel
theorem dX8_tellWithin_119 : decode YX8_tellWithin.2.1 119 = .ok (.iload 8, 2) := by decide +kernel
theorem dX8_tellWithin_121 : decode YX8_tellWithin.2.1 121 = .ok (.iadd, 1) := by decide +kernel
theorem dX8_tellWithin_122 : decode YX8_tellWithin.2.1 122 = .ok (.aload_n 0, 1) := by decide +kernel
theorem dX8_tellWithin_123 : decode YX8_tellWithin.2.1 123 = .ok (.getfield 69, 3) := by decide +kernel
theorem dX8_tellWithin_126 : decode YX8_tellWithin.2.1 126 = .ok (.iload 7, 2) := by decide +kernel
theorem dX8_tellWithin_128 : decode YX8_tellWithin.2.1 128 = .ok (.iaload, 1) := by decide +kernel
theorem dX8_tellWithin_129 : decode YX8_tellWithin.2.1 129 = .ok (.if_icmp .ge 20, 3) := by decide +kernel
theorem dX8_tellWithin_132 : decode YX8_tellWithin.2.1 132 = .ok (.aload_n 0, 1) := by decide +kernel
theorem dX8_tellWithin_133 : decode YX8_tellWithin.2.1 133 = .ok (.getfield 69, 3) := by decide +kernel
theorem dX8_tellWithin_136 : decode YX8_tellWithin.2.1 136 = .ok (.iload 7, 2) := by decide +kernel
theorem dX8_tellWithin_138 : decode YX8_tellWithin.2.1 138 = .ok (.aload_n 0, 1) := by decide +kernel
theorem dX8_tellWithin_139 : decode YX8_tellWithin.2.1 139 = .ok (.getfield 69, 3) := by decide +kernel
theorem dX8_tellWithin_142 : decode YX8_tellWithin.2.1 142 = .ok (.iload 6, 2) := by decide +kernel
theorem dX8_tellWithin_144 : decode YX8_tellWithin.2.1 144 = .ok (.iaload, 1) := by decide +kernel
theorem dX8_tellWithin_145 : decode YX8_tellWithin.2.1 145 = .ok (.iload 8, 2) := by decide +kernel
theorem dX8_tellWithin_147 : decode YX8_tellWithin.2.1 147 = .ok (.iadd, 1) := by decide +kernel
theorem dX8_tellWithin_148 : decode YX8_tellWithin.2.1 148 = .ok (.iastore, 1) := by decide +kernel
theorem dX8_tellWithin_149 : decode YX8_tellWithin.2.1 149 = .ok (.iinc 5 1, 3) := by decide +kernel
theorem dX8_tellWithin_152 : decode YX8_tellWithin.2.1 152 = .ok (.goto (-97), 3) := by decide +kernel
theorem dX8_tellWithin_155 : decode YX8_tellWithin.2.1 155 = .ok (.iinc 4 1, 3) := by decide +kernel
theorem dX8_tellWithin_158 : decode YX8_tellWithin.2.1 158 = .ok (.goto (-115), 3) := by decide +kernel
theorem dX8_tellWithin_161 : decode YX8_tellWithin.2.1 161 = .ok (.iinc 3 1, 3) := by decide +kernel
theorem dX8_tellWithin_164 : decode YX8_tellWithin.2.1 164 = .ok (.goto (-130), 3) := by decide +kernel
theorem dX8_tellWithin_167 : decode YX8_tellWithin.2.1 167 = .ok (.iconst 0, 1) := by decide +kernel
theorem dX8_tellWithin_168 : decode YX8_tellWithin.2.1 168 = .ok (.istore_n 3, 1) := by decide +kernel
theorem dX8_tellWithin_169 : decode YX8_tellWithin.2.1 169 = .ok (.iload_n 3, 1) := by decide +kernel
theorem dX8_tellWithin_170 : decode YX8_tellWithin.2.1 170 = .ok (.bipush 8, 2) := by decide +kernel
theorem dX8_tellWithin_172 : decode YX8_tellWithin.2.1 172 = .ok (.if_icmp .ge 16, 3) := by decide +kernel
theorem dX8_tellWithin_175 : decode YX8_tellWithin.2.1 175 = .ok (.aload_n 0, 1) := by decide +kernel
theorem dX8_tellWithin_176 : decode YX8_tellWithin.2.1 176 = .ok (.getfield 72, 3) := by decide +kernel
theorem dX8_tellWithin_179 : decode YX8_tellWithin.2.1 179 = .ok (.iload_n 3, 1) := by decide +kernel
theorem dX8_tellWithin_180 : decode YX8_tellWithin.2.1 180 = .ok (.iconst (-1), 1) := by decide +kernel
theorem dX8_tellWithin_181 : decode YX8_tellWithin.2.1 181 = .ok (.iastore, 1) := by decide +kernel
theorem dX8_tellWithin_182 : decode YX8_tellWithin.2.1 182 = .ok (.iinc 3 1, 3) := by decide +kernel
theorem dX8_tellWithin_185 : decode YX8_tellWithin.2.1 185 = .ok (.goto (-16), 3) := by decide +kernel
theorem dX8_tellWithin_188 : decode YX8_tellWithin.2.1 188 = .ok (.bipush 7, 2) := by decide +kernel
theorem dX8_tellWithin_190 : decode YX8_tellWithin.2.1 190 = .ok (.istore_n 3, 1) := by decide +kernel
theorem dX8_tellWithin_191 : decode YX8_tellWithin.2.1 191 = .ok (.iload_n 3, 1) := by decide +kernel
theorem dX8_tellWithin_192 : decode YX8_tellWithin.2.1 192 = .ok (.ifCond .lt 26, 3) := by decide +kernel
theorem dX8_tellWithin_195 : decode YX8_tellWithin.2.1 195 = .ok (.aload_n 0, 1) := by decide +kernel
theorem dX8_tellWithin_196 : decode YX8_tellWithin.2.1 196 = .ok (.iload_n 1, 1) := by decide +kernel
theorem dX8_tellWithin_197 : decode YX8_tellWithin.2.1 197 = .ok (.iload_n 2, 1) := by decide +kernel
theorem dX8_tellWithin_198 : decode YX8_tellWithin.2.1 198 = .ok (.iload_n 3, 1) := by decide +kernel
theorem dX8_tellWithin_199 : decode YX8_tellWithin.2.1 199 = .ok (.invokevirtual 176, 3) := by decide +kernel
theorem dX8_tellWithin_202 : decode YX8_tellWithin.2.1 202 = .ok (.ifCond .eq 10, 3) := by decide +kernel
theorem dX8_tellWithin_205 : decode YX8_tellWithin.2.1 205 = .ok (.aload_n 0, 1) := by decide +kernel
theorem dX8_tellWithin_206 : decode YX8_tellWithin.2.1 206 = .ok (.iload_n 1, 1) := by decide +kernel
theorem dX8_tellWithin_207 : decode YX8_tellWithin.2.1 207 = .ok (.iload_n 2, 1) := by decide +kernel
theorem dX8_tellWithin_208 : decode YX8_tellWithin.2.1 208 = .ok (.iload_n 3, 1) := by decide +kernel
theorem dX8_tellWithin_209 : decode YX8_tellWithin.2.1 209 = .ok (.invokevirtual 179, 3) := by decide +kernel
theorem dX8_tellWithin_212 : decode YX8_tellWithin.2.1 212 = .ok (.iinc 3 (-1), 3) := by decide +kernel
theorem dX8_tellWithin_215 : decode YX8_tellWithin.2.1 215 = .ok (.goto (-24), 3) := by decide +kernel
theorem dX8_tellWithin_218 : decode YX8_tellWithin.2.1 218 = .ok (.return_, 1) := by decide +kernel
theorem dX8_isNext_0 : decode YX8_isNext.2.1 0 = .ok (.iconst 0, 1) := by decide +kernel
theorem dX8_isNext_1 : decode YX8_isNext.2.1 1 = .ok (.istore 4, 2) := by decide +kernel
theorem dX8_isNext_3 : decode YX8_isNext.2.1 3 = .ok (.iload 4, 2) := by decide +kernel
theorem dX8_isNext_5 : decode YX8_isNext.2.1 5 = .ok (.aload_n 0, 1) := by decide +kernel
theorem dX8_isNext_6 : decode YX8_isNext.2.1 6 = .ok (.getfield 129, 3) := by decide +kernel
theorem dX8_isNext_9 : decode YX8_isNext.2.1 9 = .ok (.if_icmp .ge 62, 3) := by decide +kernel
theorem dX8_isNext_12 : decode YX8_isNext.2.1 12 = .ok (.aload_n 0, 1) := by decide +kernel
theorem dX8_isNext_13 : decode YX8_isNext.2.1 13 = .ok (.iload 4, 2) := by decide +kernel
theorem dX8_isNext_15 : decode YX8_isNext.2.1 15 = .ok (.iload_n 1, 1) := by decide +kernel
theorem dX8_isNext_16 : decode YX8_isNext.2.1 16 = .ok (.invokevirtual 133, 3) := by decide +kernel
theorem dX8_isNext_19 : decode YX8_isNext.2.1 19 = .ok (.ifCond .eq 46, 3) := by decide +kernel
theorem dX8_isNext_22 : decode YX8_isNext.2.1 22 = .ok (.aload_n 0, 1) := by decide +kernel
theorem dX8_isNext_23 : decode YX8_isNext.2.1 23 = .ok (.iload 4, 2) := by decide +kernel
theorem dX8_isNext_25 : decode YX8_isNext.2.1 25 = .ok (.iload_n 1, 1) := by decide +kernel
theorem dX8_isNext_26 : decode YX8_isNext.2.1 26 = .ok (.invokevirtual 169, 3) := by decide +kernel
theorem dX8_isNext_29 : decode YX8_isNext.2.1 29 = .ok (.iload_n 3, 1) := by decide +kernel
theorem dX8_isNext_30 : decode YX8_isNext.2.1 30 = .ok (.if_icmp .ne 35, 3) := by decide +kernel
theorem dX8_isNext_33 : decode YX8_isNext.2.1 33 = .ok (.aload_n 0, 1) := by decide +kernel
theorem dX8_isNext_34 : decode YX8_isNext.2.1 34 = .ok (.iload_n 1, 1) := by decide +kernel
theorem dX8_isNext_35 : decode YX8_isNext.2.1 35 = .ok (.iload_n 2, 1) := by decide +kernel
theorem dX8_isNext_36 : decode YX8_isNext.2.1 36 = .ok (.iload 4, 2) := by decide +kernel
theorem dX8_isNext_38 : decode YX8_isNext.2.1 38 = .ok (.iload_n 1, 1) := by decide +kernel
theorem dX8_isNext_39 : decode YX8_isNext.2.1 39 = .ok (.invokevirtual 172, 3) := by decide +kernel
theorem dX8_isNext_42 : decode YX8_isNext.2.1 42 = .ok (.ifCond .le 23, 3) := by decide +kernel
theorem dX8_isNext_45 : decode YX8_isNext.2.1 45 = .ok (.aload_n 0, 1) := by decide +kernel
theorem dX8_isNext_46 : decode YX8_isNext.2.1 46 = .ok (.iload_n 1, 1) := by decide +kernel
theorem dX8_isNext_47 : decode YX8_isNext.2.1 47 = .ok (.iload_n 2, 1) := by decide +kernel
theorem dX8_isNext_48 : decode YX8_isNext.2.1 48 = .ok (.iload 4, 2) := by decide +kernel
theorem dX8_isNext_50 : decode YX8_isNext.2.1 50 = .ok (.iload_n 1, 1) := by decide +kernel
theorem dX8_isNext_51 : decode YX8_isNext.2.1 51 = .ok (.invokevirtual 172, 3) := by decide +kernel
theorem dX8_isNext_54 : decode YX8_isNext.2.1 54 = .ok (.aload_n 0, 1) := by decide +kernel
theorem dX8_isNext_55 : decode YX8_isNext.2.1 55 = .ok (.getfield 69, 3) := by decide +kernel
theorem dX8_isNext_58 : decode YX8_isNext.2.1 58 = .ok (.iload_n 3, 1) := by decide +kernel
theorem dX8_isNext_59 : decode YX8_isNext.2.1 59 = .ok (.iaload, 1) := by decide +kernel
theorem dX8_isNext_60 : decode YX8_isNext.2.1 60 = .ok (.if_icmp .ne 5, 3) := by decide +kernel
theorem dX8_isNext_63 : decode YX8_isNext.2.1 63 = .ok (.iconst 1, 1) := by decide +kernel
theorem dX8_isNext_64 : decode YX8_isNext.2.1 64 = .ok (.ireturn, 1) := by decide +kernel
theorem dX8_isNext_65 : decode YX8_isNext.2.1 65 = .ok (.iinc 4 1, 3) := by decide +kernel
theorem dX8_isNext_68 : decode YX8_isNext.2.1 68 = .ok (.goto (-65), 3) := by decide +kernel
theorem dX8_isNext_71 : decode YX8_isNext.2.1 71 = .ok (.iconst 0, 1) := by decide +kernel
theorem dX8_isNext_72 : decode YX8_isNext.2.1 72 = .ok (.ireturn, 1) := by decide +kernel
theorem dX8_handsOn_0 : decode YX8_handsOn.2.1 0 = .ok (.iconst 1, 1) := by decide +kernel
theorem dX8_handsOn_1 : decode YX8_handsOn.2.1 1 = .ok (.iload_n 3, 1) := by decide +kernel
theorem dX8_handsOn_2 : decode YX8_handsOn.2.1 2 = .ok (.ishl, 1) := by decide +kernel
theorem dX8_handsOn_3 : decode YX8_handsOn.2.1 3 = .ok (.istore 4, 2) := by decide +kernel
theorem dX8_handsOn_5 : decode YX8_handsOn.2.1 5 = .ok (.iconst 0, 1) := by decide +kernel
theorem dX8_handsOn_6 : decode YX8_handsOn.2.1 6 = .ok (.istore 5, 2) := by decide +kernel
theorem dX8_handsOn_8 : decode YX8_handsOn.2.1 8 = .ok (.iload 4, 2) := by decide +kernel
theorem dX8_handsOn_10 : decode YX8_handsOn.2.1 10 = .ok (.iload 5, 2) := by decide +kernel
theorem dX8_handsOn_12 : decode YX8_handsOn.2.1 12 = .ok (.if_icmp .eq 134, 3) := by decide +kernel
theorem dX8_handsOn_15 : decode YX8_handsOn.2.1 15 = .ok (.iload 4, 2) := by decide +kernel
theorem dX8_handsOn_17 : decode YX8_handsOn.2.1 17 = .ok (.istore 5, 2) := by decide +kernel
theorem dX8_handsOn_19 : decode YX8_handsOn.2.1 19 = .ok (.iconst 0, 1) := by decide +kernel
theorem dX8_handsOn_20 : decode YX8_handsOn.2.1 20 = .ok (.istore 6, 2) := by decide +kernel
theorem dX8_handsOn_22 : decode YX8_handsOn.2.1 22 = .ok (.iload 6, 2) := by decide +kernel
theorem dX8_handsOn_24 : decode YX8_handsOn.2.1 24 = .ok (.aload_n 0, 1) := by decide +kernel
theorem dX8_handsOn_25 : decode YX8_handsOn.2.1 25 = .ok (.getfield 129, 3) := by decide +kernel
theorem dX8_handsOn_28 : decode YX8_handsOn.2.1 28 = .ok (.if_icmp .ge 115, 3) := by decide +kernel
theorem dX8_handsOn_31 : decode YX8_handsOn.2.1 31 = .ok (.iconst 0, 1) := by decide +kernel
theorem dX8_handsOn_32 : decode YX8_handsOn.2.1 32 = .ok (.istore 7, 2) := by decide +kernel
theorem dX8_handsOn_34 : decode YX8_handsOn.2.1 34 = .ok (.iload 7, 2) := by decide +kernel
theorem dX8_handsOn_36 : decode YX8_handsOn.2.1 36 = .ok (.iconst 2, 1) := by decide +kernel
theorem dX8_handsOn_37 : decode YX8_handsOn.2.1 37 = .ok (.if_icmp .ge 100, 3) := by decide +kernel
theorem dX8_handsOn_40 : decode YX8_handsOn.2.1 40 = .ok (.iload 7, 2) := by decide +kernel
theorem dX8_handsOn_42 : decode YX8_handsOn.2.1 42 = .ok (.ifCond .ne 13, 3) := by decide +kernel
theorem dX8_handsOn_45 : decode YX8_handsOn.2.1 45 = .ok (.aload_n 0, 1) := by decide +kernel
theorem dX8_handsOn_46 : decode YX8_handsOn.2.1 46 = .ok (.getfield 9, 3) := by decide +kernel
theorem dX8_handsOn_49 : decode YX8_handsOn.2.1 49 = .ok (.iload 6, 2) := by decide +kernel
theorem dX8_handsOn_51 : decode YX8_handsOn.2.1 51 = .ok (.iaload, 1) := by decide +kernel
theorem dX8_handsOn_52 : decode YX8_handsOn.2.1 52 = .ok (.goto 10, 3) := by decide +kernel
theorem dX8_handsOn_55 : decode YX8_handsOn.2.1 55 = .ok (.aload_n 0, 1) := by decide +kernel
theorem dX8_handsOn_56 : decode YX8_handsOn.2.1 56 = .ok (.getfield 13, 3) := by decide +kernel
theorem dX8_handsOn_59 : decode YX8_handsOn.2.1 59 = .ok (.iload 6, 2) := by decide +kernel
theorem dX8_handsOn_61 : decode YX8_handsOn.2.1 61 = .ok (.iaload, 1) := by decide +kernel
theorem dX8_handsOn_62 : decode YX8_handsOn.2.1 62 = .ok (.istore 8, 2) := by decide +kernel
theorem dX8_handsOn_64 : decode YX8_handsOn.2.1 64 = .ok (.aload_n 0, 1) := by decide +kernel
theorem dX8_handsOn_65 : decode YX8_handsOn.2.1 65 = .ok (.iload 6, 2) := by decide +kernel
theorem dX8_handsOn_67 : decode YX8_handsOn.2.1 67 = .ok (.iload 8, 2) := by decide +kernel
theorem dX8_handsOn_69 : decode YX8_handsOn.2.1 69 = .ok (.invokevirtual 169, 3) := by decide +kernel
theorem dX8_handsOn_72 : decode YX8_handsOn.2.1 72 = .ok (.istore 9, 2) := by decide +kernel
theorem dX8_handsOn_74 : decode YX8_handsOn.2.1 74 = .ok (.aload_n 0, 1) := by decide +kernel
theorem dX8_handsOn_75 : decode YX8_handsOn.2.1 75 = .ok (.iload_n 1, 1) := by decide +kernel
theorem dX8_handsOn_76 : decode YX8_handsOn.2.1 76 = .ok (.iload_n 2, 1) := by decide +kernel
theorem dX8_handsOn_77 : decode YX8_handsOn.2.1 77 = .ok (.iload 6, 2) := by decide +kernel
theorem dX8_handsOn_79 : decode YX8_handsOn.2.1 79 = .ok (.iload 8, 2) := by decide +kernel
theorem dX8_handsOn_81 : decode YX8_handsOn.2.1 81 = .ok (.invokevirtual 172, 3) := by decide +kernel
theorem dX8_handsOn_84 : decode YX8_handsOn.2.1 84 = .ok (.istore 10, 2) := by decide +kernel
theorem dX8_handsOn_86 : decode YX8_handsOn.2.1 86 = .ok (.iload 4, 2) := by decide +kernel
theorem dX8_handsOn_88 : decode YX8_handsOn.2.1 88 = .ok (.iload 8, 2) := by decide +kernel
theorem dX8_handsOn_90 : decode YX8_handsOn.2.1 90 = .ok (.ishr, 1) := by decide +kernel
theorem dX8_handsOn_91 : decode YX8_handsOn.2.1 91 = .ok (.iconst 1, 1) := by decide +kernel
theorem dX8_handsOn_92 : decode YX8_handsOn.2.1 92 = .ok (.iand, 1) := by decide +kernel
theorem dX8_handsOn_93 : decode YX8_handsOn.2.1 93 = .ok (.iconst 1, 1) := by decide +kernel
theorem dX8_handsOn_94 : decode YX8_handsOn.2.1 94 = .ok (.if_icmp .ne 37, 3) := by decide +kernel
theorem dX8_handsOn_97 : decode YX8_handsOn.2.1 97 = .ok (.iload 10, 2) := by decide +kernel
theorem dX8_handsOn_99 : decode YX8_handsOn.2.1 99 = .ok (.ifCond .le 32, 3) := by decide +kernel
theorem dX8_handsOn_102 : decode YX8_handsOn.2.1 102 = .ok (.aload_n 0, 1) := by decide +kernel
theorem dX8_handsOn_103 : decode YX8_handsOn.2.1 103 = .ok (.getfield 69, 3) := by decide +kernel
theorem dX8_handsOn_106 : decode YX8_handsOn.2.1 106 = .ok (.iload 8, 2) := by decide +kernel
theorem dX8_handsOn_108 : decode YX8_handsOn.2.1 108 = .ok (.iaload, 1) := by decide +kernel
theorem dX8_handsOn_109 : decode YX8_handsOn.2.1 109 = .ok (.iload 10, 2) := by decide +kernel
theorem dX8_handsOn_111 : decode YX8_handsOn.2.1 111 = .ok (.iadd, 1) := by decide +kernel
theorem dX8_handsOn_112 : decode YX8_handsOn.2.1 112 = .ok (.aload_n 0, 1) := by decide +kernel
theorem dX8_handsOn_113 : decode YX8_handsOn.2.1 113 = .ok (.getfield 69, 3) := by decide +kernel
theorem dX8_handsOn_116 : decode YX8_handsOn.2.1 116 = .ok (.iload 9, 2) := by decide +kernel
theorem dX8_handsOn_118 : decode YX8_handsOn.2.1 118 = .ok (.iaload, 1) := by decide +kernel
theorem dX8_handsOn_119 : decode YX8_handsOn.2.1 119 = .ok (.if_icmp .ne 12, 3) := by decide +kernel
theorem dX8_handsOn_122 : decode YX8_handsOn.2.1 122 = .ok (.iload 4, 2) := by decide +kernel
theorem dX8_handsOn_124 : decode YX8_handsOn.2.1 124 = .ok (.iconst 1, 1) := by decide +kernel
theorem dX8_handsOn_125 : decode YX8_handsOn.2.1 125 = .ok (.iload 9, 2) := by decide +kernel
theorem dX8_handsOn_127 : decode YX8_handsOn.2.1 127 = .ok (.ishl, 1) := by decide +kernel
theorem dX8_handsOn_128 : decode YX8_handsOn.2.1 128 = .ok (.ior, 1) := by decide +kernel
theorem dX8_handsOn_129 : decode YX8_handsOn.2.1 129 = .ok (.istore 4, 2) := by decide +kernel
theorem dX8_handsOn_131 : decode YX8_handsOn.2.1 131 = .ok (.iinc 7 1, 3) := by decide +kernel
theorem dX8_handsOn_134 : decode YX8_handsOn.2.1 134 = .ok (.goto (-100), 3) := by decide +kernel
theorem dX8_handsOn_137 : decode YX8_handsOn.2.1 137 = .ok (.iinc 6 1, 3) := by decide +kernel
theorem dX8_handsOn_140 : decode YX8_handsOn.2.1 140 = .ok (.goto (-118), 3) := by decide +kernel
theorem dX8_handsOn_143 : decode YX8_handsOn.2.1 143 = .ok (.goto (-135), 3) := by decide +kernel
theorem dX8_handsOn_146 : decode YX8_handsOn.2.1 146 = .ok (.iconst 0, 1) := by decide +kernel
theorem dX8_handsOn_147 : decode YX8_handsOn.2.1 147 = .ok (.istore 6, 2) := by decide +kernel
theorem dX8_handsOn_149 : decode YX8_handsOn.2.1 149 = .ok (.iload 6, 2) := by decide +kernel
theorem dX8_handsOn_151 : decode YX8_handsOn.2.1 151 = .ok (.bipush 8, 2) := by decide +kernel
theorem dX8_handsOn_153 : decode YX8_handsOn.2.1 153 = .ok (.if_icmp .ge 34, 3) := by decide +kernel
theorem dX8_handsOn_156 : decode YX8_handsOn.2.1 156 = .ok (.iload 4, 2) := by decide +kernel
theorem dX8_handsOn_158 : decode YX8_handsOn.2.1 158 = .ok (.iload 6, 2) := by decide +kernel
theorem dX8_handsOn_160 : decode YX8_handsOn.2.1 160 = .ok (.ishr, 1) := by decide +kernel
theorem dX8_handsOn_161 : decode YX8_handsOn.2.1 161 = .ok (.iconst 1, 1) := by decide +kernel
theorem dX8_handsOn_162 : decode YX8_handsOn.2.1 162 = .ok (.iand, 1) := by decide +kernel
theorem dX8_handsOn_163 : decode YX8_handsOn.2.1 163 = .ok (.iconst 1, 1) := by decide +kernel
theorem dX8_handsOn_164 : decode YX8_handsOn.2.1 164 = .ok (.if_icmp .ne 17, 3) := by decide +kernel
theorem dX8_handsOn_167 : decode YX8_handsOn.2.1 167 = .ok (.iload 6, 2) := by decide +kernel
theorem dX8_handsOn_169 : decode YX8_handsOn.2.1 169 = .ok (.iload_n 1, 1) := by decide +kernel
theorem dX8_handsOn_170 : decode YX8_handsOn.2.1 170 = .ok (.if_icmp .eq 11, 3) := by decide +kernel
theorem dX8_handsOn_173 : decode YX8_handsOn.2.1 173 = .ok (.aload_n 0, 1) := by decide +kernel
theorem dX8_handsOn_174 : decode YX8_handsOn.2.1 174 = .ok (.getfield 72, 3) := by decide +kernel
theorem dX8_handsOn_177 : decode YX8_handsOn.2.1 177 = .ok (.iload 6, 2) := by decide +kernel
theorem dX8_handsOn_179 : decode YX8_handsOn.2.1 179 = .ok (.iload_n 3, 1) := by decide +kernel
theorem dX8_handsOn_180 : decode YX8_handsOn.2.1 180 = .ok (.iastore, 1) := by decide +kernel
theorem dX8_handsOn_181 : decode YX8_handsOn.2.1 181 = .ok (.iinc 6 1, 3) := by decide +kernel
theorem dX8_handsOn_184 : decode YX8_handsOn.2.1 184 = .ok (.goto (-35), 3) := by decide +kernel
theorem dX8_handsOn_187 : decode YX8_handsOn.2.1 187 = .ok (.return_, 1) := by decide +kernel
theorem dX8_noRoute_0 : decode YX8_noRoute.2.1 0 = .ok (.aload_n 0, 1) := by decide +kernel
theorem dX8_noRoute_1 : decode YX8_noRoute.2.1 1 = .ok (.sipush 9999, 3) := by decide +kernel
theorem dX8_noRoute_4 : decode YX8_noRoute.2.1 4 = .ok (.putfield 183, 3) := by decide +kernel
theorem dX8_noRoute_7 : decode YX8_noRoute.2.1 7 = .ok (.aload_n 0, 1) := by decide +kernel
theorem dX8_noRoute_8 : decode YX8_noRoute.2.1 8 = .ok (.iconst (-1), 1) := by decide +kernel
theorem dX8_noRoute_9 : decode YX8_noRoute.2.1 9 = .ok (.putfield 186, 3) := by decide +kernel
theorem dX8_noRoute_12 : decode YX8_noRoute.2.1 12 = .ok (.aload_n 0, 1) := by decide +kernel
theorem dX8_noRoute_13 : decode YX8_noRoute.2.1 13 = .ok (.iconst (-1), 1) := by decide +kernel
theorem dX8_noRoute_14 : decode YX8_noRoute.2.1 14 = .ok (.putfield 189, 3) := by decide +kernel
theorem dX8_noRoute_17 : decode YX8_noRoute.2.1 17 = .ok (.aload_n 0, 1) := by decide +kernel
theorem dX8_noRoute_18 : decode YX8_noRoute.2.1 18 = .ok (.iconst (-1), 1) := by decide +kernel
theorem dX8_noRoute_19 : decode YX8_noRoute.2.1 19 = .ok (.putfield 192, 3) := by decide +kernel
theorem dX8_noRoute_22 : decode YX8_noRoute.2.1 22 = .ok (.return_, 1) := by decide +kernel
theorem dX8_inside_0 : decode YX8_inside.2.1 0 = .ok (.aload_n 0, 1) := by decide +kernel
theorem dX8_inside_1 : decode YX8_inside.2.1 1 = .ok (.iload_n 1, 1) := by decide +kernel
theorem dX8_inside_2 : decode YX8_inside.2.1 2 = .ok (.invokevirtual 137, 3) := by decide +kernel
theorem dX8_inside_5 : decode YX8_inside.2.1 5 = .ok (.istore_n 3, 1) := by decide +kernel
theorem dX8_inside_6 : decode YX8_inside.2.1 6 = .ok (.iconst 0, 1) := by decide +kernel
theorem dX8_inside_7 : decode YX8_inside.2.1 7 = .ok (.istore 4, 2) := by decide +kernel
theorem dX8_inside_9 : decode YX8_inside.2.1 9 = .ok (.iload 4, 2) := by decide +kernel
theorem dX8_inside_11 : decode YX8_inside.2.1 11 = .ok (.iconst 3, 1) := by decide +kernel
theorem dX8_inside_12 : decode YX8_inside.2.1 12 = .ok (.if_icmp .ge 70, 3) := by decide +kernel
theorem dX8_inside_15 : decode YX8_inside.2.1 15 = .ok (.iload_n 3, 1) := by decide +kernel
theorem dX8_inside_16 : decode YX8_inside.2.1 16 = .ok (.iload 4, 2) := by decide +kernel
theorem dX8_inside_18 : decode YX8_inside.2.1 18 = .ok (.ishr, 1) := by decide +kernel
theorem dX8_inside_19 : decode YX8_inside.2.1 19 = .ok (.iconst 1, 1) := by decide +kernel
theorem dX8_inside_20 : decode YX8_inside.2.1 20 = .ok (.iand, 1) := by decide +kernel
theorem dX8_inside_21 : decode YX8_inside.2.1 21 = .ok (.ifCond .ne 6, 3) := by decide +kernel
theorem dX8_inside_24 : decode YX8_inside.2.1 24 = .ok (.goto 52, 3) := by decide +kernel
theorem dX8_inside_27 : decode YX8_inside.2.1 27 = .ok (.aload_n 0, 1) := by decide +kernel
theorem dX8_inside_28 : decode YX8_inside.2.1 28 = .ok (.iload_n 1, 1) := by decide +kernel
theorem dX8_inside_29 : decode YX8_inside.2.1 29 = .ok (.iload 4, 2) := by decide +kernel
theorem dX8_inside_31 : decode YX8_inside.2.1 31 = .ok (.invokevirtual 195, 3) := by decide +kernel
theorem dX8_inside_34 : decode YX8_inside.2.1 34 = .ok (.aload_n 0, 1) := by decide +kernel
theorem dX8_inside_35 : decode YX8_inside.2.1 35 = .ok (.getfield 69, 3) := by decide +kernel
theorem dX8_inside_38 : decode YX8_inside.2.1 38 = .ok (.iload_n 2, 1) := by decide +kernel
theorem dX8_inside_39 : decode YX8_inside.2.1 39 = .ok (.iaload, 1) := by decide +kernel
theorem dX8_inside_40 : decode YX8_inside.2.1 40 = .ok (.aload_n 0, 1) := by decide +kernel
theorem dX8_inside_41 : decode YX8_inside.2.1 41 = .ok (.getfield 183, 3) := by decide +kernel
theorem dX8_inside_44 : decode YX8_inside.2.1 44 = .ok (.if_icmp .lt 6, 3) := by decide +kernel
theorem dX8_inside_47 : decode YX8_inside.2.1 47 = .ok (.goto 29, 3) := by decide +kernel
theorem dX8_inside_50 : decode YX8_inside.2.1 50 = .ok (.aload_n 0, 1) := by decide +kernel
theorem dX8_inside_51 : decode YX8_inside.2.1 51 = .ok (.aload_n 0, 1) := by decide +kernel
theorem dX8_inside_52 : decode YX8_inside.2.1 52 = .ok (.getfield 69, 3) := by decide +kernel
theorem dX8_inside_55 : decode YX8_inside.2.1 55 = .ok (.iload_n 2, 1) := by decide +kernel
theorem dX8_inside_56 : decode YX8_inside.2.1 56 = .ok (.iaload, 1) := by decide +kernel
theorem dX8_inside_57 : decode YX8_inside.2.1 57 = .ok (.putfield 183, 3) := by decide +kernel
theorem dX8_inside_60 : decode YX8_inside.2.1 60 = .ok (.aload_n 0, 1) := by decide +kernel
theorem dX8_inside_61 : decode YX8_inside.2.1 61 = .ok (.aload_n 0, 1) := by decide +kernel
theorem dX8_inside_62 : decode YX8_inside.2.1 62 = .ok (.getfield 72, 3) := by decide +kernel
theorem dX8_inside_65 : decode YX8_inside.2.1 65 = .ok (.iload_n 2, 1) := by decide +kernel
theorem dX8_inside_66 : decode YX8_inside.2.1 66 = .ok (.iaload, 1) := by decide +kernel
theorem dX8_inside_67 : decode YX8_inside.2.1 67 = .ok (.putfield 186, 3) := by decide +kernel
theorem dX8_inside_70 : decode YX8_inside.2.1 70 = .ok (.aload_n 0, 1) := by decide +kernel
theorem dX8_inside_71 : decode YX8_inside.2.1 71 = .ok (.iload 4, 2) := by decide +kernel
theorem dX8_inside_73 : decode YX8_inside.2.1 73 = .ok (.putfield 189, 3) := by decide +kernel
theorem dX8_inside_76 : decode YX8_inside.2.1 76 = .ok (.iinc 4 1, 3) := by decide +kernel
theorem dX8_inside_79 : decode YX8_inside.2.1 79 = .ok (.goto (-70), 3) := by decide +kernel
theorem dX8_inside_82 : decode YX8_inside.2.1 82 = .ok (.return_, 1) := by decide +kernel
theorem dX8_across_0 : decode YX8_across.2.1 0 = .ok (.aload_n 0, 1) := by decide +kernel
theorem dX8_across_1 : decode YX8_across.2.1 1 = .ok (.iload_n 1, 1) := by decide +kernel
theorem dX8_across_2 : decode YX8_across.2.1 2 = .ok (.iload_n 3, 1) := by decide +kernel
theorem dX8_across_3 : decode YX8_across.2.1 3 = .ok (.invokevirtual 195, 3) := by decide +kernel
theorem dX8_across_6 : decode YX8_across.2.1 6 = .ok (.iconst 0, 1) := by decide +kernel
theorem dX8_across_7 : decode YX8_across.2.1 7 = .ok (.istore 4, 2) := by decide +kernel
theorem dX8_across_9 : decode YX8_across.2.1 9 = .ok (.iload 4, 2) := by decide +kernel
theorem dX8_across_11 : decode YX8_across.2.1 11 = .ok (.bipush 8, 2) := by decide +kernel
theorem dX8_across_13 : decode YX8_across.2.1 13 = .ok (.if_icmp .ge 132, 3) := by decide +kernel
theorem dX8_across_16 : decode YX8_across.2.1 16 = .ok (.iload_n 1, 1) := by decide +kernel
theorem dX8_across_17 : decode YX8_across.2.1 17 = .ok (.iload 4, 2) := by decide +kernel
theorem dX8_across_19 : decode YX8_across.2.1 19 = .ok (.iload_n 3, 1) := by decide +kernel
theorem dX8_across_20 : decode YX8_across.2.1 20 = .ok (.invokestatic 155, 3) := by decide +kernel
theorem dX8_across_23 : decode YX8_across.2.1 23 = .ok (.istore 5, 2) := by decide +kernel
theorem dX8_across_25 : decode YX8_across.2.1 25 = .ok (.iload 4, 2) := by decide +kernel
theorem dX8_across_27 : decode YX8_across.2.1 27 = .ok (.iload_n 1, 1) := by decide +kernel
theorem dX8_across_28 : decode YX8_across.2.1 28 = .ok (.if_icmp .eq 111, 3) := by decide +kernel
theorem dX8_across_31 : decode YX8_across.2.1 31 = .ok (.aload_n 0, 1) := by decide +kernel
theorem dX8_across_32 : decode YX8_across.2.1 32 = .ok (.getfield 25, 3) := by decide +kernel
theorem dX8_across_35 : decode YX8_across.2.1 35 = .ok (.iload 5, 2) := by decide +kernel
theorem dX8_across_37 : decode YX8_across.2.1 37 = .ok (.iaload, 1) := by decide +kernel
theorem dX8_across_38 : decode YX8_across.2.1 38 = .ok (.ifCond .eq 101, 3) := by decide +kernel
theorem dX8_across_41 : decode YX8_across.2.1 41 = .ok (.aload_n 0, 1) := by decide +kernel
theorem dX8_across_42 : decode YX8_across.2.1 42 = .ok (.getfield 42, 3) := by decide +kernel
theorem dX8_across_45 : decode YX8_across.2.1 45 = .ok (.iload 5, 2) := by decide +kernel
theorem dX8_across_47 : decode YX8_across.2.1 47 = .ok (.aaload, 1) := by decide +kernel
theorem dX8_across_48 : decode YX8_across.2.1 48 = .ok (.iload_n 2, 1) := by decide +kernel
theorem dX8_across_49 : decode YX8_across.2.1 49 = .ok (.iaload, 1) := by decide +kernel
theorem dX8_across_50 : decode YX8_across.2.1 50 = .ok (.sipush 9999, 3) := by decide +kernel
theorem dX8_across_53 : decode YX8_across.2.1 53 = .ok (.if_icmp .eq 86, 3) := by decide +kernel
theorem dX8_across_56 : decode YX8_across.2.1 56 = .ok (.aload_n 0, 1) := by decide +kernel
theorem dX8_across_57 : decode YX8_across.2.1 57 = .ok (.getfield 69, 3) := by decide +kernel
theorem dX8_across_60 : decode YX8_across.2.1 60 = .ok (.iload 4, 2) := by decide +kernel
theorem dX8_across_62 : decode YX8_across.2.1 62 = .ok (.iaload, 1) := by decide +kernel
theorem dX8_across_63 : decode YX8_across.2.1 63 = .ok (.sipush 9999, 3) := by decide +kernel
theorem dX8_across_66 : decode YX8_across.2.1 66 = .ok (.if_icmp .eq 73, 3) := by decide +kernel
theorem dX8_across_69 : decode YX8_across.2.1 69 = .ok (.aload_n 0, 1) := by decide +kernel
theorem dX8_across_70 : decode YX8_across.2.1 70 = .ok (.getfield 69, 3) := by decide +kernel
theorem dX8_across_73 : decode YX8_across.2.1 73 = .ok (.iload 4, 2) := by decide +kernel
theorem dX8_across_75 : decode YX8_across.2.1 75 = .ok (.iaload, 1) := by decide +kernel
theorem dX8_across_76 : decode YX8_across.2.1 76 = .ok (.aload_n 0, 1) := by decide +kernel
theorem dX8_across_77 : decode YX8_across.2.1 77 = .ok (.getfield 42, 3) := by decide +kernel
theorem dX8_across_80 : decode YX8_across.2.1 80 = .ok (.iload 5, 2) := by decide +kernel
theorem dX8_across_82 : decode YX8_across.2.1 82 = .ok (.aaload, 1) := by decide +kernel
theorem dX8_across_83 : decode YX8_across.2.1 83 = .ok (.iload_n 2, 1) := by decide +kernel
theorem dX8_across_84 : decode YX8_across.2.1 84 = .ok (.iaload, 1) := by decide +kernel
theorem dX8_across_85 : decode YX8_across.2.1 85 = .ok (.iadd, 1) := by decide +kernel
theorem dX8_across_86 : decode YX8_across.2.1 86 = .ok (.aload_n 0, 1) := by decide +kernel
theorem dX8_across_87 : decode YX8_across.2.1 87 = .ok (.getfield 183, 3) := by decide +kernel
theorem dX8_across_90 : decode YX8_across.2.1 90 = .ok (.if_icmp .lt 6, 3) := by decide +kernel
theorem dX8_across_93 : decode YX8_across.2.1 93 = .ok (.goto 46, 3) := by decide +kernel
theorem dX8_across_96 : decode YX8_across.2.1 96 = .ok (.aload_n 0, 1) := by decide +kernel
theorem dX8_across_97 : decode YX8_across.2.1 97 = .ok (.aload_n 0, 1) := by decide +kernel
theorem dX8_across_98 : decode YX8_across.2.1 98 = .ok (.getfield 69, 3) := by decide +kernel
theorem dX8_across_101 : decode YX8_across.2.1 101 = .ok (.iload 4, 2) := by decide +kernel
theorem dX8_across_103 : decode YX8_across.2.1 103 = .ok (.iaload, 1) := by decide +kernel
theorem dX8_across_104 : decode YX8_across.2.1 104 = .ok (.aload_n 0, 1) := by decide +kernel
theorem dX8_across_105 : decode YX8_across.2.1 105 = .ok (.getfield 42, 3) := by decide +kernel
theorem dX8_across_108 : decode YX8_across.2.1 108 = .ok (.iload 5, 2) := by decide +kernel
theorem dX8_across_110 : decode YX8_across.2.1 110 = .ok (.aaload, 1) := by decide +kernel
theorem dX8_across_111 : decode YX8_across.2.1 111 = .ok (.iload_n 2, 1) := by decide +kernel
theorem dX8_across_112 : decode YX8_across.2.1 112 = .ok (.iaload, 1) := by decide +kernel
theorem dX8_across_113 : decode YX8_across.2.1 113 = .ok (.iadd, 1) := by decide +kernel
theorem dX8_across_114 : decode YX8_across.2.1 114 = .ok (.putfield 183, 3) := by decide +kernel
theorem dX8_across_117 : decode YX8_across.2.1 117 = .ok (.aload_n 0, 1) := by decide +kernel
theorem dX8_across_118 : decode YX8_across.2.1 118 = .ok (.aload_n 0, 1) := by decide +kernel
theorem dX8_across_119 : decode YX8_across.2.1 119 = .ok (.getfield 72, 3) := by decide +kernel
theorem dX8_across_122 : decode YX8_across.2.1 122 = .ok (.iload 4, 2) := by decide +kernel
theorem dX8_across_124 : decode YX8_across.2.1 124 = .ok (.iaload, 1) := by decide +kernel
theorem dX8_across_125 : decode YX8_across.2.1 125 = .ok (.putfield 186, 3) := by decide +kernel
theorem dX8_across_128 : decode YX8_across.2.1 128 = .ok (.aload_n 0, 1) := by decide +kernel
theorem dX8_across_129 : decode YX8_across.2.1 129 = .ok (.iload_n 3, 1) := by decide +kernel
theorem dX8_across_130 : decode YX8_across.2.1 130 = .ok (.putfield 189, 3) := by decide +kernel
theorem dX8_across_133 : decode YX8_across.2.1 133 = .ok (.aload_n 0, 1) := by decide +kernel
theorem dX8_across_134 : decode YX8_across.2.1 134 = .ok (.iload 4, 2) := by decide +kernel
theorem dX8_across_136 : decode YX8_across.2.1 136 = .ok (.putfield 192, 3) := by decide +kernel
theorem dX8_across_139 : decode YX8_across.2.1 139 = .ok (.iinc 4 1, 3) := by decide +kernel
theorem dX8_across_142 : decode YX8_across.2.1 142 = .ok (.goto (-133), 3) := by decide +kernel
theorem dX8_across_145 : decode YX8_across.2.1 145 = .ok (.return_, 1) := by decide +kernel
theorem dX8_tellRoute_0 : decode YX8_tellRoute.2.1 0 = .ok (.aload_n 0, 1) := by decide +kernel
theorem dX8_tellRoute_1 : decode YX8_tellRoute.2.1 1 = .ok (.invokevirtual 199, 3) := by decide +kernel
theorem dX8_tellRoute_4 : decode YX8_tellRoute.2.1 4 = .ok (.aload_n 0, 1) := by decide +kernel
theorem dX8_tellRoute_5 : decode YX8_tellRoute.2.1 5 = .ok (.iload_n 1, 1) := by decide +kernel
theorem dX8_tellRoute_6 : decode YX8_tellRoute.2.1 6 = .ok (.iload_n 2, 1) := by decide +kernel
theorem dX8_tellRoute_7 : decode YX8_tellRoute.2.1 7 = .ok (.invokevirtual 202, 3) := by decide +kernel
theorem dX8_tellRoute_10 : decode YX8_tellRoute.2.1 10 = .ok (.aload_n 0, 1) := by decide +kernel
theorem dX8_tellRoute_11 : decode YX8_tellRoute.2.1 11 = .ok (.getfield 183, 3) := by decide +kernel
theorem dX8_tellRoute_14 : decode YX8_tellRoute.2.1 14 = .ok (.sipush 9999, 3) := by decide +kernel
theorem dX8_tellRoute_17 : decode YX8_tellRoute.2.1 17 = .ok (.if_icmp .ge 4, 3) := by decide +kernel
theorem dX8_tellRoute_20 : decode YX8_tellRoute.2.1 20 = .ok (.return_, 1) := by decide +kernel
theorem dX8_tellRoute_21 : decode YX8_tellRoute.2.1 21 = .ok (.aload_n 0, 1) := by decide +kernel
theorem dX8_tellRoute_22 : decode YX8_tellRoute.2.1 22 = .ok (.iload_n 1, 1) := by decide +kernel
theorem dX8_tellRoute_23 : decode YX8_tellRoute.2.1 23 = .ok (.invokevirtual 162, 3) := by decide +kernel
theorem dX8_tellRoute_26 : decode YX8_tellRoute.2.1 26 = .ok (.ifCond .eq 7, 3) := by decide +kernel
theorem dX8_tellRoute_29 : decode YX8_tellRoute.2.1 29 = .ok (.iconst 1, 1) := by decide +kernel
theorem dX8_tellRoute_30 : decode YX8_tellRoute.2.1 30 = .ok (.goto 8, 3) := by decide +kernel
theorem dX8_tellRoute_33 : decode YX8_tellRoute.2.1 33 = .ok (.aload_n 0, 1) := by decide +kernel
theorem dX8_tellRoute_34 : decode YX8_tellRoute.2.1 34 = .ok (.iload_n 1, 1) := by decide +kernel
theorem dX8_tellRoute_35 : decode YX8_tellRoute.2.1 35 = .ok (.invokevirtual 137, 3) := by decide +kernel
theorem dX8_tellRoute_38 : decode YX8_tellRoute.2.1 38 = .ok (.istore_n 3, 1) := by decide +kernel
theorem dX8_tellRoute_39 : decode YX8_tellRoute.2.1 39 = .ok (.iconst 0, 1) := by decide +kernel
theorem dX8_tellRoute_40 : decode YX8_tellRoute.2.1 40 = .ok (.istore 4, 2) := by decide +kernel
theorem dX8_tellRoute_42 : decode YX8_tellRoute.2.1 42 = .ok (.iload 4, 2) := by decide +kernel
theorem dX8_tellRoute_44 : decode YX8_tellRoute.2.1 44 = .ok (.iconst 3, 1) := by decide +kernel
theorem dX8_tellRoute_45 : decode YX8_tellRoute.2.1 45 = .ok (.if_icmp .ge 27, 3) := by decide +kernel
theorem dX8_tellRoute_48 : decode YX8_tellRoute.2.1 48 = .ok (.iload_n 3, 1) := by decide +kernel
theorem dX8_tellRoute_49 : decode YX8_tellRoute.2.1 49 = .ok (.iload 4, 2) := by decide +kernel
theorem dX8_tellRoute_51 : decode YX8_tellRoute.2.1 51 = .ok (.ishr, 1) := by decide +kernel
theorem dX8_tellRoute_52 : decode YX8_tellRoute.2.1 52 = .ok (.iconst 1, 1) := by decide +kernel
theorem dX8_tellRoute_53 : decode YX8_tellRoute.2.1 53 = .ok (.iand, 1) := by decide +kernel
theorem dX8_tellRoute_54 : decode YX8_tellRoute.2.1 54 = .ok (.iconst 1, 1) := by decide +kernel
theorem dX8_tellRoute_55 : decode YX8_tellRoute.2.1 55 = .ok (.if_icmp .ne 11, 3) := by decide +kernel
theorem dX8_tellRoute_58 : decode YX8_tellRoute.2.1 58 = .ok (.aload_n 0, 1) := by decide +kernel
theorem dX8_tellRoute_59 : decode YX8_tellRoute.2.1 59 = .ok (.iload_n 1, 1) := by decide +kernel
theorem dX8_tellRoute_60 : decode YX8_tellRoute.2.1 60 = .ok (.iload_n 2, 1) := by decide +kernel
theorem dX8_tellRoute_61 : decode YX8_tellRoute.2.1 61 = .ok (.iload 4, 2) := by decide +kernel
theorem dX8_tellRoute_63 : decode YX8_tellRoute.2.1 63 = .ok (.invokevirtual 205, 3) := by decide +kernel
theorem dX8_tellRoute_66 : decode YX8_tellRoute.2.1 66 = .ok (.iinc 4 1, 3) := by decide +kernel
theorem dX8_tellRoute_69 : decode YX8_tellRoute.2.1 69 = .ok (.goto (-27), 3) := by decide +kernel
theorem dX8_tellRoute_72 : decode YX8_tellRoute.2.1 72 = .ok (.return_, 1) := by decide +kernel
theorem dX8_sumOf_0 : decode YX8_sumOf.2.1 0 = .ok (.iload_n 2, 1) := by decide +kernel
theorem dX8_sumOf_1 : decode YX8_sumOf.2.1 1 = .ok (.iload_n 1, 1) := by decide +kernel
theorem dX8_sumOf_2 : decode YX8_sumOf.2.1 2 = .ok (.if_icmp .eq 11, 3) := by decide +kernel
theorem dX8_sumOf_5 : decode YX8_sumOf.2.1 5 = .ok (.aload_n 0, 1) := by decide +kernel
theorem dX8_sumOf_6 : decode YX8_sumOf.2.1 6 = .ok (.iload_n 1, 1) := by decide +kernel
theorem dX8_sumOf_7 : decode YX8_sumOf.2.1 7 = .ok (.invokevirtual 162, 3) := by decide +kernel
theorem dX8_sumOf_10 : decode YX8_sumOf.2.1 10 = .ok (.ifCond .ne 7, 3) := by decide +kernel
theorem dX8_sumOf_13 : decode YX8_sumOf.2.1 13 = .ok (.sipush 9999, 3) := by decide +kernel
theorem dX8_sumOf_16 : decode YX8_sumOf.2.1 16 = .ok (.ireturn, 1) := by decide +kernel
theorem dX8_sumOf_17 : decode YX8_sumOf.2.1 17 = .ok (.sipush 9999, 3) := by decide +kernel
theorem dX8_sumOf_20 : decode YX8_sumOf.2.1 20 = .ok (.istore 4, 2) := by decide +kernel
theorem dX8_sumOf_22 : decode YX8_sumOf.2.1 22 = .ok (.aload_n 0, 1) := by decide +kernel
theorem dX8_sumOf_23 : decode YX8_sumOf.2.1 23 = .ok (.iload_n 1, 1) := by decide +kernel
theorem dX8_sumOf_24 : decode YX8_sumOf.2.1 24 = .ok (.invokevirtual 137, 3) := by decide +kernel
theorem dX8_sumOf_27 : decode YX8_sumOf.2.1 27 = .ok (.istore 5, 2) := by decide +kernel
theorem dX8_sumOf_29 : decode YX8_sumOf.2.1 29 = .ok (.iload_n 3, 1) := by decide +kernel
theorem dX8_sumOf_30 : decode YX8_sumOf.2.1 30 = .ok (.ifCond .ne 54, 3) := by decide +kernel
theorem dX8_sumOf_33 : decode YX8_sumOf.2.1 33 = .ok (.iconst 1, 1) := by decide +kernel
theorem dX8_sumOf_34 : decode YX8_sumOf.2.1 34 = .ok (.istore 6, 2) := by decide +kernel
theorem dX8_sumOf_36 : decode YX8_sumOf.2.1 36 = .ok (.iload 6, 2) := by decide +kernel
theorem dX8_sumOf_38 : decode YX8_sumOf.2.1 38 = .ok (.iconst 3, 1) := by decide +kernel
theorem dX8_sumOf_39 : decode YX8_sumOf.2.1 39 = .ok (.if_icmp .ge 42, 3) := by decide +kernel
theorem dX8_sumOf_42 : decode YX8_sumOf.2.1 42 = .ok (.iload 5, 2) := by decide +kernel
theorem dX8_sumOf_44 : decode YX8_sumOf.2.1 44 = .ok (.iload 6, 2) := by decide +kernel
theorem dX8_sumOf_46 : decode YX8_sumOf.2.1 46 = .ok (.ishr, 1) := by decide +kernel
theorem dX8_sumOf_47 : decode YX8_sumOf.2.1 47 = .ok (.iconst 1, 1) := by decide +kernel
theorem dX8_sumOf_48 : decode YX8_sumOf.2.1 48 = .ok (.iand, 1) := by decide +kernel
theorem dX8_sumOf_49 : decode YX8_sumOf.2.1 49 = .ok (.ifCond .ne 6, 3) := by decide +kernel
theorem dX8_sumOf_52 : decode YX8_sumOf.2.1 52 = .ok (.goto 23, 3) := by decide +kernel
theorem dX8_sumOf_55 : decode YX8_sumOf.2.1 55 = .ok (.aload_n 0, 1) := by decide +kernel
theorem dX8_sumOf_56 : decode YX8_sumOf.2.1 56 = .ok (.iload_n 1, 1) := by decide +kernel
theorem dX8_sumOf_57 : decode YX8_sumOf.2.1 57 = .ok (.iload 6, 2) := by decide +kernel
theorem dX8_sumOf_59 : decode YX8_sumOf.2.1 59 = .ok (.invokevirtual 195, 3) := by decide +kernel
theorem dX8_sumOf_62 : decode YX8_sumOf.2.1 62 = .ok (.iload 4, 2) := by decide +kernel
theorem dX8_sumOf_64 : decode YX8_sumOf.2.1 64 = .ok (.aload_n 0, 1) := by decide +kernel
theorem dX8_sumOf_65 : decode YX8_sumOf.2.1 65 = .ok (.getfield 69, 3) := by decide +kernel
theorem dX8_sumOf_68 : decode YX8_sumOf.2.1 68 = .ok (.iload_n 2, 1) := by decide +kernel
theorem dX8_sumOf_69 : decode YX8_sumOf.2.1 69 = .ok (.iaload, 1) := by decide +kernel
theorem dX8_sumOf_70 : decode YX8_sumOf.2.1 70 = .ok (.invokestatic 208, 3) := by decide +kernel
theorem dX8_sumOf_73 : decode YX8_sumOf.2.1 73 = .ok (.istore 4, 2) := by decide +kernel
theorem dX8_sumOf_75 : decode YX8_sumOf.2.1 75 = .ok (.iinc 6 1, 3) := by decide +kernel
theorem dX8_sumOf_78 : decode YX8_sumOf.2.1 78 = .ok (.goto (-42), 3) := by decide +kernel
theorem dX8_sumOf_81 : decode YX8_sumOf.2.1 81 = .ok (.iload 4, 2) := by decide +kernel
theorem dX8_sumOf_83 : decode YX8_sumOf.2.1 83 = .ok (.ireturn, 1) := by decide +kernel
theorem dX8_sumOf_84 : decode YX8_sumOf.2.1 84 = .ok (.aload_n 0, 1) := by decide +kernel
theorem dX8_sumOf_85 : decode YX8_sumOf.2.1 85 = .ok (.iload_n 1, 1) := by decide +kernel
theorem dX8_sumOf_86 : decode YX8_sumOf.2.1 86 = .ok (.iconst 0, 1) := by decide +kernel
theorem dX8_sumOf_87 : decode YX8_sumOf.2.1 87 = .ok (.invokevirtual 195, 3) := by decide +kernel
theorem dX8_sumOf_90 : decode YX8_sumOf.2.1 90 = .ok (.aload_n 0, 1) := by decide +kernel
theorem dX8_sumOf_91 : decode YX8_sumOf.2.1 91 = .ok (.getfield 69, 3) := by decide +kernel
theorem dX8_sumOf_94 : decode YX8_sumOf.2.1 94 = .ok (.iload_n 2, 1) := by decide +kernel
theorem dX8_sumOf_95 : decode YX8_sumOf.2.1 95 = .ok (.iaload, 1) := by decide +kernel
theorem dX8_sumOf_96 : decode YX8_sumOf.2.1 96 = .ok (.sipush 9999, 3) := by decide +kernel
theorem dX8_sumOf_99 : decode YX8_sumOf.2.1 99 = .ok (.if_icmp .ge 10, 3) := by decide +kernel
theorem dX8_sumOf_102 : decode YX8_sumOf.2.1 102 = .ok (.aload_n 0, 1) := by decide +kernel
theorem dX8_sumOf_103 : decode YX8_sumOf.2.1 103 = .ok (.getfield 69, 3) := by decide +kernel
theorem dX8_sumOf_106 : decode YX8_sumOf.2.1 106 = .ok (.iload_n 2, 1) := by decide +kernel
theorem dX8_sumOf_107 : decode YX8_sumOf.2.1 107 = .ok (.iaload, 1) := by decide +kernel
theorem dX8_sumOf_108 : decode YX8_sumOf.2.1 108 = .ok (.ireturn, 1) := by decide +kernel
theorem dX8_sumOf_109 : decode YX8_sumOf.2.1 109 = .ok (.aload_n 0, 1) := by decide +kernel
theorem dX8_sumOf_110 : decode YX8_sumOf.2.1 110 = .ok (.invokevirtual 199, 3) := by decide +kernel
theorem dX8_sumOf_113 : decode YX8_sumOf.2.1 113 = .ok (.aload_n 0, 1) := by decide +kernel
theorem dX8_sumOf_114 : decode YX8_sumOf.2.1 114 = .ok (.iload_n 1, 1) := by decide +kernel
theorem dX8_sumOf_115 : decode YX8_sumOf.2.1 115 = .ok (.iload_n 2, 1) := by decide +kernel
theorem dX8_sumOf_116 : decode YX8_sumOf.2.1 116 = .ok (.iconst 0, 1) := by decide +kernel
theorem dX8_sumOf_117 : decode YX8_sumOf.2.1 117 = .ok (.invokevirtual 205, 3) := by decide +kernel
theorem dX8_sumOf_120 : decode YX8_sumOf.2.1 120 = .ok (.aload_n 0, 1) := by decide +kernel
theorem dX8_sumOf_121 : decode YX8_sumOf.2.1 121 = .ok (.getfield 183, 3) := by decide +kernel
theorem dX8_sumOf_124 : decode YX8_sumOf.2.1 124 = .ok (.ireturn, 1) := by decide +kernel
theorem dX8_arrives_0 : decode YX8_arrives.2.1 0 = .ok (.aload_n 0, 1) := by decide +kernel
theorem dX8_arrives_1 : decode YX8_arrives.2.1 1 = .ok (.getfield 45, 3) := by decide +kernel
theorem dX8_arrives_4 : decode YX8_arrives.2.1 4 = .ok (.iload_n 1, 1) := by decide +kernel
theorem dX8_arrives_5 : decode YX8_arrives.2.1 5 = .ok (.iaload, 1) := by decide +kernel
theorem dX8_arrives_6 : decode YX8_arrives.2.1 6 = .ok (.istore_n 2, 1) := by decide +kernel
theorem dX8_arrives_7 : decode YX8_arrives.2.1 7 = .ok (.aload_n 0, 1) := by decide +kernel
theorem dX8_arrives_8 : decode YX8_arrives.2.1 8 = .ok (.getfield 48, 3) := by decide +kernel
theorem dX8_arrives_11 : decode YX8_arrives.2.1 11 = .ok (.iload_n 1, 1) := by decide +kernel
theorem dX8_arrives_12 : decode YX8_arrives.2.1 12 = .ok (.iaload, 1) := by decide +kernel
theorem dX8_arrives_13 : decode YX8_arrives.2.1 13 = .ok (.istore_n 3, 1) := by decide +kernel
theorem dX8_arrives_14 : decode YX8_arrives.2.1 14 = .ok (.aload_n 0, 1) := by decide +kernel
theorem dX8_arrives_15 : decode YX8_arrives.2.1 15 = .ok (.getfield 19, 3) := by decide +kernel
theorem dX8_arrives_18 : decode YX8_arrives.2.1 18 = .ok (.iload_n 2, 1) := by decide +kernel
theorem dX8_arrives_19 : decode YX8_arrives.2.1 19 = .ok (.iaload, 1) := by decide +kernel
theorem dX8_arrives_20 : decode YX8_arrives.2.1 20 = .ok (.ifCond .eq 13, 3) := by decide +kernel
theorem dX8_arrives_23 : decode YX8_arrives.2.1 23 = .ok (.aload_n 0, 1) := by decide +kernel
theorem dX8_arrives_24 : decode YX8_arrives.2.1 24 = .ok (.getfield 51, 3) := by decide +kernel
theorem dX8_arrives_27 : decode YX8_arrives.2.1 27 = .ok (.iload_n 1, 1) := by decide +kernel
theorem dX8_arrives_28 : decode YX8_arrives.2.1 28 = .ok (.iaload, 1) := by decide +kernel
theorem dX8_arrives_29 : decode YX8_arrives.2.1 29 = .ok (.iload_n 3, 1) := by decide +kernel
theorem dX8_arrives_30 : decode YX8_arrives.2.1 30 = .ok (.if_icmp .ne 4, 3) := by decide +kernel
theorem dX8_arrives_33 : decode YX8_arrives.2.1 33 = .ok (.return_, 1) := by decide +kernel
theorem dX8_arrives_34 : decode YX8_arrives.2.1 34 = .ok (.iload_n 3, 1) := by decide +kernel
theorem dX8_arrives_35 : decode YX8_arrives.2.1 35 = .ok (.aload_n 0, 1) := by decide +kernel
theorem dX8_arrives_36 : decode YX8_arrives.2.1 36 = .ok (.getfield 51, 3) := by decide +kernel
theorem dX8_arrives_39 : decode YX8_arrives.2.1 39 = .ok (.iload_n 1, 1) := by decide +kernel
theorem dX8_arrives_40 : decode YX8_arrives.2.1 40 = .ok (.iaload, 1) := by decide +kernel
theorem dX8_arrives_41 : decode YX8_arrives.2.1 41 = .ok (.aload_n 0, 1) := by decide +kernel
theorem dX8_arrives_42 : decode YX8_arrives.2.1 42 = .ok (.getfield 54, 3) := by decide +kernel
theorem dX8_arrives_45 : decode YX8_arrives.2.1 45 = .ok (.iload_n 1, 1) := by decide +kernel
theorem dX8_arrives_46 : decode YX8_arrives.2.1 46 = .ok (.iaload, 1) := by decide +kernel
theorem dX8_arrives_47 : decode YX8_arrives.2.1 47 = .ok (.invokestatic 155, 3) := by decide +kernel
theorem dX8_arrives_50 : decode YX8_arrives.2.1 50 = .ok (.istore 4, 2) := by decide +kernel
theorem dX8_arrives_52 : decode YX8_arrives.2.1 52 = .ok (.aload_n 0, 1) := by decide +kernel
theorem dX8_arrives_53 : decode YX8_arrives.2.1 53 = .ok (.getfield 25, 3) := by decide +kernel
theorem dX8_arrives_56 : decode YX8_arrives.2.1 56 = .ok (.iload 4, 2) := by decide +kernel
theorem dX8_arrives_58 : decode YX8_arrives.2.1 58 = .ok (.iaload, 1) := by decide +kernel
theorem dX8_arrives_59 : decode YX8_arrives.2.1 59 = .ok (.aload_n 0, 1) := by decide +kernel
theorem dX8_arrives_60 : decode YX8_arrives.2.1 60 = .ok (.getfield 57, 3) := by decide +kernel
theorem dX8_arrives_63 : decode YX8_arrives.2.1 63 = .ok (.iload_n 1, 1) := by decide +kernel
theorem dX8_arrives_64 : decode YX8_arrives.2.1 64 = .ok (.iaload, 1) := by decide +kernel
theorem dX8_arrives_65 : decode YX8_arrives.2.1 65 = .ok (.if_icmp .ne 27, 3) := by decide +kernel
theorem dX8_arrives_68 : decode YX8_arrives.2.1 68 = .ok (.aload_n 0, 1) := by decide +kernel
theorem dX8_arrives_69 : decode YX8_arrives.2.1 69 = .ok (.getfield 31, 3) := by decide +kernel
theorem dX8_arrives_72 : decode YX8_arrives.2.1 72 = .ok (.iload 4, 2) := by decide +kernel
theorem dX8_arrives_74 : decode YX8_arrives.2.1 74 = .ok (.iaload, 1) := by decide +kernel
theorem dX8_arrives_75 : decode YX8_arrives.2.1 75 = .ok (.iconst 1, 1) := by decide +kernel
theorem dX8_arrives_76 : decode YX8_arrives.2.1 76 = .ok (.if_icmp .ne 16, 3) := by decide +kernel
theorem dX8_arrives_79 : decode YX8_arrives.2.1 79 = .ok (.aload_n 0, 1) := by decide +kernel
theorem dX8_arrives_80 : decode YX8_arrives.2.1 80 = .ok (.getfield 34, 3) := by decide +kernel
theorem dX8_arrives_83 : decode YX8_arrives.2.1 83 = .ok (.iload 4, 2) := by decide +kernel
theorem dX8_arrives_85 : decode YX8_arrives.2.1 85 = .ok (.dup2, 1) := by decide +kernel
theorem dX8_arrives_86 : decode YX8_arrives.2.1 86 = .ok (.iaload, 1) := by decide +kernel
theorem dX8_arrives_87 : decode YX8_arrives.2.1 87 = .ok (.iconst 1, 1) := by decide +kernel
theorem dX8_arrives_88 : decode YX8_arrives.2.1 88 = .ok (.iload_n 2, 1) := by decide +kernel
theorem dX8_arrives_89 : decode YX8_arrives.2.1 89 = .ok (.ishl, 1) := by decide +kernel
theorem dX8_arrives_90 : decode YX8_arrives.2.1 90 = .ok (.ior, 1) := by decide +kernel
theorem dX8_arrives_91 : decode YX8_arrives.2.1 91 = .ok (.iastore, 1) := by decide +kernel
theorem dX8_arrives_92 : decode YX8_arrives.2.1 92 = .ok (.aload_n 0, 1) := by decide +kernel
theorem dX8_arrives_93 : decode YX8_arrives.2.1 93 = .ok (.getfield 25, 3) := by decide +kernel
theorem dX8_arrives_96 : decode YX8_arrives.2.1 96 = .ok (.iload 4, 2) := by decide +kernel
theorem dX8_arrives_98 : decode YX8_arrives.2.1 98 = .ok (.iaload, 1) := by decide +kernel
theorem dX8_arrives_99 : decode YX8_arrives.2.1 99 = .ok (.aload_n 0, 1) := by decide +kernel
theorem dX8_arrives_100 : decode YX8_arrives.2.1 100 = .ok (.getfield 57, 3) := by decide +kernel
theorem dX8_arrives_103 : decode YX8_arrives.2.1 103 = .ok (.iload_n 1, 1) := by decide +kernel
theorem dX8_arrives_104 : decode YX8_arrives.2.1 104 = .ok (.iaload, 1) := by decide +kernel
theorem dX8_arrives_105 : decode YX8_arrives.2.1 105 = .ok (.if_icmp .lt 4, 3) := by decide +kernel
theorem dX8_arrives_108 : decode YX8_arrives.2.1 108 = .ok (.return_, 1) := by decide +kernel
theorem dX8_arrives_109 : decode YX8_arrives.2.1 109 = .ok (.aload_n 0, 1) := by decide +kernel
theorem dX8_arrives_110 : decode YX8_arrives.2.1 110 = .ok (.getfield 25, 3) := by decide +kernel
theorem dX8_arrives_113 : decode YX8_arrives.2.1 113 = .ok (.iload 4, 2) := by decide +kernel
theorem dX8_arrives_115 : decode YX8_arrives.2.1 115 = .ok (.aload_n 0, 1) := by decide +kernel
theorem dX8_arrives_116 : decode YX8_arrives.2.1 116 = .ok (.getfield 57, 3) := by decide +kernel
theorem dX8_arrives_119 : decode YX8_arrives.2.1 119 = .ok (.iload_n 1, 1) := by decide +kernel
theorem dX8_arrives_120 : decode YX8_arrives.2.1 120 = .ok (.iaload, 1) := by decide +kernel
theorem dX8_arrives_121 : decode YX8_arrives.2.1 121 = .ok (.iastore, 1) := by decide +kernel
theorem dX8_arrives_122 : decode YX8_arrives.2.1 122 = .ok (.aload_n 0, 1) := by decide +kernel
theorem dX8_arrives_123 : decode YX8_arrives.2.1 123 = .ok (.getfield 28, 3) := by decide +kernel
theorem dX8_arrives_126 : decode YX8_arrives.2.1 126 = .ok (.iload 4, 2) := by decide +kernel
theorem dX8_arrives_128 : decode YX8_arrives.2.1 128 = .ok (.aload_n 0, 1) := by decide +kernel
theorem dX8_arrives_129 : decode YX8_arrives.2.1 129 = .ok (.getfield 60, 3) := by decide +kernel
theorem dX8_arrives_132 : decode YX8_arrives.2.1 132 = .ok (.iload_n 1, 1) := by decide +kernel
theorem dX8_arrives_133 : decode YX8_arrives.2.1 133 = .ok (.iaload, 1) := by decide +kernel
theorem dX8_arrives_134 : decode YX8_arrives.2.1 134 = .ok (.iastore, 1) := by decide +kernel
theorem dX8_arrives_135 : decode YX8_arrives.2.1 135 = .ok (.aload_n 0, 1) := by decide +kernel
theorem dX8_arrives_136 : decode YX8_arrives.2.1 136 = .ok (.getfield 31, 3) := by decide +kernel
theorem dX8_arrives_139 : decode YX8_arrives.2.1 139 = .ok (.iload 4, 2) := by decide +kernel
theorem dX8_arrives_141 : decode YX8_arrives.2.1 141 = .ok (.iconst 1, 1) := by decide +kernel
theorem dX8_arrives_142 : decode YX8_arrives.2.1 142 = .ok (.iastore, 1) := by decide +kernel
theorem dX8_arrives_143 : decode YX8_arrives.2.1 143 = .ok (.aload_n 0, 1) := by decide +kernel
theorem dX8_arrives_144 : decode YX8_arrives.2.1 144 = .ok (.getfield 34, 3) := by decide +kernel
theorem dX8_arrives_147 : decode YX8_arrives.2.1 147 = .ok (.iload 4, 2) := by decide +kernel
theorem dX8_arrives_149 : decode YX8_arrives.2.1 149 = .ok (.iconst 1, 1) := by decide +kernel
theorem dX8_arrives_150 : decode YX8_arrives.2.1 150 = .ok (.iload_n 2, 1) := by decide +kernel
theorem dX8_arrives_151 : decode YX8_arrives.2.1 151 = .ok (.ishl, 1) := by decide +kernel
theorem dX8_arrives_152 : decode YX8_arrives.2.1 152 = .ok (.iastore, 1) := by decide +kernel
theorem dX8_arrives_153 : decode YX8_arrives.2.1 153 = .ok (.aload_n 0, 1) := by decide +kernel
theorem dX8_arrives_154 : decode YX8_arrives.2.1 154 = .ok (.getfield 63, 3) := by decide +kernel
theorem dX8_arrives_157 : decode YX8_arrives.2.1 157 = .ok (.iload_n 1, 1) := by decide +kernel
theorem dX8_arrives_158 : decode YX8_arrives.2.1 158 = .ok (.aaload, 1) := by decide +kernel
theorem dX8_arrives_159 : decode YX8_arrives.2.1 159 = .ok (.iconst 0, 1) := by decide +kernel
theorem dX8_arrives_160 : decode YX8_arrives.2.1 160 = .ok (.aload_n 0, 1) := by decide +kernel
theorem dX8_arrives_161 : decode YX8_arrives.2.1 161 = .ok (.getfield 39, 3) := by decide +kernel
theorem dX8_arrives_164 : decode YX8_arrives.2.1 164 = .ok (.iload 4, 2) := by decide +kernel
theorem dX8_arrives_166 : decode YX8_arrives.2.1 166 = .ok (.aaload, 1) := by decide +kernel
theorem dX8_arrives_167 : decode YX8_arrives.2.1 167 = .ok (.iconst 0, 1) := by decide +kernel
theorem dX8_arrives_168 : decode YX8_arrives.2.1 168 = .ok (.bipush 12, 2) := by decide +kernel
theorem dX8_arrives_170 : decode YX8_arrives.2.1 170 = .ok (.invokestatic 213, 3) := by decide +kernel
theorem dX8_arrives_173 : decode YX8_arrives.2.1 173 = .ok (.aload_n 0, 1) := by decide +kernel
theorem dX8_arrives_174 : decode YX8_arrives.2.1 174 = .ok (.getfield 66, 3) := by decide +kernel
theorem dX8_arrives_177 : decode YX8_arrives.2.1 177 = .ok (.iload_n 1, 1) := by decide +kernel
theorem dX8_arrives_178 : decode YX8_arrives.2.1 178 = .ok (.aaload, 1) := by decide +kernel
theorem dX8_arrives_179 : decode YX8_arrives.2.1 179 = .ok (.iconst 0, 1) := by decide +kernel
theorem dX8_arrives_180 : decode YX8_arrives.2.1 180 = .ok (.aload_n 0, 1) := by decide +kernel
theorem dX8_arrives_181 : decode YX8_arrives.2.1 181 = .ok (.getfield 42, 3) := by decide +kernel
theorem dX8_arrives_184 : decode YX8_arrives.2.1 184 = .ok (.iload 4, 2) := by decide +kernel
theorem dX8_arrives_186 : decode YX8_arrives.2.1 186 = .ok (.aaload, 1) := by decide +kernel
theorem dX8_arrives_187 : decode YX8_arrives.2.1 187 = .ok (.iconst 0, 1) := by decide +kernel
theorem dX8_arrives_188 : decode YX8_arrives.2.1 188 = .ok (.bipush 8, 2) := by decide +kernel
theorem dX8_arrives_190 : decode YX8_arrives.2.1 190 = .ok (.invokestatic 213, 3) := by decide +kernel
theorem dX8_arrives_193 : decode YX8_arrives.2.1 193 = .ok (.return_, 1) := by decide +kernel
theorem dX8_grows_0 : decode YX8_grows.2.1 0 = .ok (.iconst 0, 1) := by decide +kernel
theorem dX8_grows_1 : decode YX8_grows.2.1 1 = .ok (.istore_n 1, 1) := by decide +kernel
theorem dX8_grows_2 : decode YX8_grows.2.1 2 = .ok (.iload_n 1, 1) := by decide +kernel
theorem dX8_grows_3 : decode YX8_grows.2.1 3 = .ok (.bipush 8, 2) := by decide +kernel
theorem dX8_grows_5 : decode YX8_grows.2.1 5 = .ok (.if_icmp .ge 104, 3) := by decide +kernel
theorem dX8_grows_8 : decode YX8_grows.2.1 8 = .ok (.iconst 0, 1) := by decide +kernel
theorem dX8_grows_9 : decode YX8_grows.2.1 9 = .ok (.istore_n 2, 1) := by decide +kernel
theorem dX8_grows_10 : decode YX8_grows.2.1 10 = .ok (.iload_n 2, 1) := by decide +kernel
theorem dX8_grows_11 : decode YX8_grows.2.1 11 = .ok (.bipush 8, 2) := by decide +kernel
theorem dX8_grows_13 : decode YX8_grows.2.1 13 = .ok (.if_icmp .ge 90, 3) := by decide +kernel
theorem dX8_grows_16 : decode YX8_grows.2.1 16 = .ok (.iconst 0, 1) := by decide +kernel
theorem dX8_grows_17 : decode YX8_grows.2.1 17 = .ok (.istore_n 3, 1) := by decide +kernel
theorem dX8_grows_18 : decode YX8_grows.2.1 18 = .ok (.iload_n 3, 1) := by decide +kernel
theorem dX8_grows_19 : decode YX8_grows.2.1 19 = .ok (.iconst 3, 1) := by decide +kernel
theorem dX8_grows_20 : decode YX8_grows.2.1 20 = .ok (.if_icmp .ge 77, 3) := by decide +kernel
theorem dX8_grows_23 : decode YX8_grows.2.1 23 = .ok (.iload_n 1, 1) := by decide +kernel
theorem dX8_grows_24 : decode YX8_grows.2.1 24 = .ok (.iload_n 2, 1) := by decide +kernel
theorem dX8_grows_25 : decode YX8_grows.2.1 25 = .ok (.iload_n 3, 1) := by decide +kernel
theorem dX8_grows_26 : decode YX8_grows.2.1 26 = .ok (.invokestatic 155, 3) := by decide +kernel
theorem dX8_grows_29 : decode YX8_grows.2.1 29 = .ok (.istore 4, 2) := by decide +kernel
theorem dX8_grows_31 : decode YX8_grows.2.1 31 = .ok (.aload_n 0, 1) := by decide +kernel
theorem dX8_grows_32 : decode YX8_grows.2.1 32 = .ok (.getfield 25, 3) := by decide +kernel
theorem dX8_grows_35 : decode YX8_grows.2.1 35 = .ok (.iload 4, 2) := by decide +kernel
theorem dX8_grows_37 : decode YX8_grows.2.1 37 = .ok (.iaload, 1) := by decide +kernel
theorem dX8_grows_38 : decode YX8_grows.2.1 38 = .ok (.ifCond .ne 6, 3) := by decide +kernel
theorem dX8_grows_41 : decode YX8_grows.2.1 41 = .ok (.goto 50, 3) := by decide +kernel
theorem dX8_grows_44 : decode YX8_grows.2.1 44 = .ok (.aload_n 0, 1) := by decide +kernel
theorem dX8_grows_45 : decode YX8_grows.2.1 45 = .ok (.getfield 28, 3) := by decide +kernel
theorem dX8_grows_48 : decode YX8_grows.2.1 48 = .ok (.iload 4, 2) := by decide +kernel
theorem dX8_grows_50 : decode YX8_grows.2.1 50 = .ok (.dup2, 1) := by decide +kernel
theorem dX8_grows_51 : decode YX8_grows.2.1 51 = .ok (.iaload, 1) := by decide +kernel
theorem dX8_grows_52 : decode YX8_grows.2.1 52 = .ok (.iconst 1, 1) := by decide +kernel
theorem dX8_grows_53 : decode YX8_grows.2.1 53 = .ok (.iadd, 1) := by decide +kernel
theorem dX8_grows_54 : decode YX8_grows.2.1 54 = .ok (.iastore, 1) := by decide +kernel
theorem dX8_grows_55 : decode YX8_grows.2.1 55 = .ok (.aload_n 0, 1) := by decide +kernel
theorem dX8_grows_56 : decode YX8_grows.2.1 56 = .ok (.getfield 28, 3) := by decide +kernel
theorem dX8_grows_59 : decode YX8_grows.2.1 59 = .ok (.iload 4, 2) := by decide +kernel
theorem dX8_grows_61 : decode YX8_grows.2.1 61 = .ok (.iaload, 1) := by decide +kernel
theorem dX8_grows_62 : decode YX8_grows.2.1 62 = .ok (.bipush 60, 2) := by decide +kernel
theorem dX8_grows_64 : decode YX8_grows.2.1 64 = .ok (.if_icmp .lt 27, 3) := by decide +kernel
theorem dX8_grows_67 : decode YX8_grows.2.1 67 = .ok (.iload_n 1, 1) := by decide +kernel
theorem dX8_grows_68 : decode YX8_grows.2.1 68 = .ok (.iload_n 2, 1) := by decide +kernel
theorem dX8_grows_69 : decode YX8_grows.2.1 69 = .ok (.if_icmp .ne 6, 3) := by decide +kernel
theorem dX8_grows_72 : decode YX8_grows.2.1 72 = .ok (.goto 19, 3) := by decide +kernel
theorem dX8_grows_75 : decode YX8_grows.2.1 75 = .ok (.aload_n 0, 1) := by decide +kernel
theorem dX8_grows_76 : decode YX8_grows.2.1 76 = .ok (.getfield 25, 3) := by decide +kernel
theorem dX8_grows_79 : decode YX8_grows.2.1 79 = .ok (.iload 4, 2) := by decide +kernel
theorem dX8_grows_81 : decode YX8_grows.2.1 81 = .ok (.iconst 0, 1) := by decide +kernel
theorem dX8_grows_82 : decode YX8_grows.2.1 82 = .ok (.iastore, 1) := by decide +kernel
theorem dX8_grows_83 : decode YX8_grows.2.1 83 = .ok (.aload_n 0, 1) := by decide +kernel
theorem dX8_grows_84 : decode YX8_grows.2.1 84 = .ok (.getfield 31, 3) := by decide +kernel
theorem dX8_grows_87 : decode YX8_grows.2.1 87 = .ok (.iload 4, 2) := by decide +kernel
theorem dX8_grows_89 : decode YX8_grows.2.1 89 = .ok (.iconst 0, 1) := by decide +kernel
theorem dX8_grows_90 : decode YX8_grows.2.1 90 = .ok (.iastore, 1) := by decide +kernel
theorem dX8_grows_91 : decode YX8_grows.2.1 91 = .ok (.iinc 3 1, 3) := by decide +kernel
theorem dX8_grows_94 : decode YX8_grows.2.1 94 = .ok (.goto (-76), 3) := by decide +kernel
theorem dX8_grows_97 : decode YX8_grows.2.1 97 = .ok (.iinc 2 1, 3) := by decide +kernel
theorem dX8_grows_100 : decode YX8_grows.2.1 100 = .ok (.goto (-90), 3) := by decide +kernel
theorem dX8_grows_103 : decode YX8_grows.2.1 103 = .ok (.iinc 1 1, 3) := by decide +kernel
theorem dX8_grows_106 : decode YX8_grows.2.1 106 = .ok (.goto (-104), 3) := by decide +kernel
theorem dX8_grows_109 : decode YX8_grows.2.1 109 = .ok (.return_, 1) := by decide +kernel
theorem dX8_isOther_0 : decode YX8_isOther.2.1 0 = .ok (.iconst 0, 1) := by decide +kernel
theorem dX8_isOther_1 : decode YX8_isOther.2.1 1 = .ok (.istore_n 2, 1) := by decide +kernel
theorem dX8_isOther_2 : decode YX8_isOther.2.1 2 = .ok (.iload_n 2, 1) := by decide +kernel
theorem dX8_isOther_3 : decode YX8_isOther.2.1 3 = .ok (.bipush 12, 2) := by decide +kernel
theorem dX8_isOther_5 : decode YX8_isOther.2.1 5 = .ok (.if_icmp .ge 28, 3) := by decide +kernel
theorem dX8_isOther_8 : decode YX8_isOther.2.1 8 = .ok (.aload_n 0, 1) := by decide +kernel
theorem dX8_isOther_9 : decode YX8_isOther.2.1 9 = .ok (.getfield 39, 3) := by decide +kernel
theorem dX8_isOther_12 : decode YX8_isOther.2.1 12 = .ok (.iload_n 1, 1) := by decide +kernel
theorem dX8_isOther_13 : decode YX8_isOther.2.1 13 = .ok (.aaload, 1) := by decide +kernel
theorem dX8_isOther_14 : decode YX8_isOther.2.1 14 = .ok (.iload_n 2, 1) := by decide +kernel
theorem dX8_isOther_15 : decode YX8_isOther.2.1 15 = .ok (.iaload, 1) := by decide +kernel
theorem dX8_isOther_16 : decode YX8_isOther.2.1 16 = .ok (.aload_n 0, 1) := by decide +kernel
theorem dX8_isOther_17 : decode YX8_isOther.2.1 17 = .ok (.getfield 75, 3) := by decide +kernel
theorem dX8_isOther_20 : decode YX8_isOther.2.1 20 = .ok (.iload_n 2, 1) := by decide +kernel
theorem dX8_isOther_21 : decode YX8_isOther.2.1 21 = .ok (.iaload, 1) := by decide +kernel
theorem dX8_isOther_22 : decode YX8_isOther.2.1 22 = .ok (.if_icmp .eq 5, 3) := by decide +kernel
theorem dX8_isOther_25 : decode YX8_isOther.2.1 25 = .ok (.iconst 1, 1) := by decide +kernel
theorem dX8_isOther_26 : decode YX8_isOther.2.1 26 = .ok (.ireturn, 1) := by decide +kernel
theorem dX8_isOther_27 : decode YX8_isOther.2.1 27 = .ok (.iinc 2 1, 3) := by decide +kernel
theorem dX8_isOther_30 : decode YX8_isOther.2.1 30 = .ok (.goto (-28), 3) := by decide +kernel
theorem dX8_isOther_33 : decode YX8_isOther.2.1 33 = .ok (.iconst 0, 1) := by decide +kernel
theorem dX8_isOther_34 : decode YX8_isOther.2.1 34 = .ok (.istore_n 2, 1) := by decide +kernel
theorem dX8_isOther_35 : decode YX8_isOther.2.1 35 = .ok (.iload_n 2, 1) := by decide +kernel
theorem dX8_isOther_36 : decode YX8_isOther.2.1 36 = .ok (.bipush 8, 2) := by decide +kernel
theorem dX8_isOther_38 : decode YX8_isOther.2.1 38 = .ok (.if_icmp .ge 28, 3) := by decide +kernel
theorem dX8_isOther_41 : decode YX8_isOther.2.1 41 = .ok (.aload_n 0, 1) := by decide +kernel
theorem dX8_isOther_42 : decode YX8_isOther.2.1 42 = .ok (.getfield 42, 3) := by decide +kernel
theorem dX8_isOther_45 : decode YX8_isOther.2.1 45 = .ok (.iload_n 1, 1) := by decide +kernel
theorem dX8_isOther_46 : decode YX8_isOther.2.1 46 = .ok (.aaload, 1) := by decide +kernel
theorem dX8_isOther_47 : decode YX8_isOther.2.1 47 = .ok (.iload_n 2, 1) := by decide +kernel
theorem dX8_isOther_48 : decode YX8_isOther.2.1 48 = .ok (.iaload, 1) := by decide +kernel
theorem dX8_isOther_49 : decode YX8_isOther.2.1 49 = .ok (.aload_n 0, 1) := by decide +kernel
theorem dX8_isOther_50 : decode YX8_isOther.2.1 50 = .ok (.getfield 78, 3) := by decide +kernel
theorem dX8_isOther_53 : decode YX8_isOther.2.1 53 = .ok (.iload_n 2, 1) := by decide +kernel
theorem dX8_isOther_54 : decode YX8_isOther.2.1 54 = .ok (.iaload, 1) := by decide +kernel
theorem dX8_isOther_55 : decode YX8_isOther.2.1 55 = .ok (.if_icmp .eq 5, 3) := by decide +kernel
theorem dX8_isOther_58 : decode YX8_isOther.2.1 58 = .ok (.iconst 1, 1) := by decide +kernel
theorem dX8_isOther_59 : decode YX8_isOther.2.1 59 = .ok (.ireturn, 1) := by decide +kernel
theorem dX8_isOther_60 : decode YX8_isOther.2.1 60 = .ok (.iinc 2 1, 3) := by decide +kernel
theorem dX8_isOther_63 : decode YX8_isOther.2.1 63 = .ok (.goto (-28), 3) := by decide +kernel
theorem dX8_isOther_66 : decode YX8_isOther.2.1 66 = .ok (.iconst 0, 1) := by decide +kernel
theorem dX8_isOther_67 : decode YX8_isOther.2.1 67 = .ok (.ireturn, 1) := by decide +kernel
theorem dX8_tells_0 : decode YX8_tells.2.1 0 = .ok (.iload_n 1, 1) := by decide +kernel
theorem dX8_tells_1 : decode YX8_tells.2.1 1 = .ok (.iload_n 1, 1) := by decide +kernel
theorem dX8_tells_2 : decode YX8_tells.2.1 2 = .ok (.iload_n 2, 1) := by decide +kernel
theorem dX8_tells_3 : decode YX8_tells.2.1 3 = .ok (.invokestatic 155, 3) := by decide +kernel
theorem dX8_tells_6 : decode YX8_tells.2.1 6 = .ok (.istore_n 3, 1) := by decide +kernel
theorem dX8_tells_7 : decode YX8_tells.2.1 7 = .ok (.aload_n 0, 1) := by decide +kernel
theorem dX8_tells_8 : decode YX8_tells.2.1 8 = .ok (.getfield 25, 3) := by decide +kernel
theorem dX8_tells_11 : decode YX8_tells.2.1 11 = .ok (.iload_n 3, 1) := by decide +kernel
theorem dX8_tells_12 : decode YX8_tells.2.1 12 = .ok (.iaload, 1) := by decide +kernel
theorem dX8_tells_13 : decode YX8_tells.2.1 13 = .ok (.ifCond .ne 16, 3) := by decide +kernel
theorem dX8_tells_16 : decode YX8_tells.2.1 16 = .ok (.aload_n 0, 1) := by decide +kernel
theorem dX8_tells_17 : decode YX8_tells.2.1 17 = .ok (.iload_n 1, 1) := by decide +kernel
theorem dX8_tells_18 : decode YX8_tells.2.1 18 = .ok (.invokevirtual 137, 3) := by decide +kernel
theorem dX8_tells_21 : decode YX8_tells.2.1 21 = .ok (.iload_n 2, 1) := by decide +kernel
theorem dX8_tells_22 : decode YX8_tells.2.1 22 = .ok (.ishr, 1) := by decide +kernel
theorem dX8_tells_23 : decode YX8_tells.2.1 23 = .ok (.iconst 1, 1) := by decide +kernel
theorem dX8_tells_24 : decode YX8_tells.2.1 24 = .ok (.iand, 1) := by decide +kernel
theorem dX8_tells_25 : decode YX8_tells.2.1 25 = .ok (.ifCond .ne 4, 3) := by decide +kernel
theorem dX8_tells_28 : decode YX8_tells.2.1 28 = .ok (.return_, 1) := by decide +kernel
theorem dX8_tells_29 : decode YX8_tells.2.1 29 = .ok (.iconst 0, 1) := by decide +kernel
theorem dX8_tells_30 : decode YX8_tells.2.1 30 = .ok (.istore 4, 2) := by decide +kernel
theorem dX8_tells_32 : decode YX8_tells.2.1 32 = .ok (.iload 4, 2) := by decide +kernel
theorem dX8_tells_34 : decode YX8_tells.2.1 34 = .ok (.bipush 12, 2) := by decide +kernel
theorem dX8_tells_36 : decode YX8_tells.2.1 36 = .ok (.if_icmp .ge 68, 3) := by decide +kernel
theorem dX8_tells_39 : decode YX8_tells.2.1 39 = .ok (.aload_n 0, 1) := by decide +kernel
theorem dX8_tells_40 : decode YX8_tells.2.1 40 = .ok (.getfield 75, 3) := by decide +kernel
theorem dX8_tells_43 : decode YX8_tells.2.1 43 = .ok (.iload 4, 2) := by decide +kernel
theorem dX8_tells_45 : decode YX8_tells.2.1 45 = .ok (.iload 4, 2) := by decide +kernel
theorem dX8_tells_47 : decode YX8_tells.2.1 47 = .ok (.aload_n 0, 1) := by decide +kernel
theorem dX8_tells_48 : decode YX8_tells.2.1 48 = .ok (.getfield 129, 3) := by decide +kernel
theorem dX8_tells_51 : decode YX8_tells.2.1 51 = .ok (.if_icmp .ge 45, 3) := by decide +kernel
theorem dX8_tells_54 : decode YX8_tells.2.1 54 = .ok (.aload_n 0, 1) := by decide +kernel
theorem dX8_tells_55 : decode YX8_tells.2.1 55 = .ok (.getfield 16, 3) := by decide +kernel
theorem dX8_tells_58 : decode YX8_tells.2.1 58 = .ok (.iload 4, 2) := by decide +kernel
theorem dX8_tells_60 : decode YX8_tells.2.1 60 = .ok (.iaload, 1) := by decide +kernel
theorem dX8_tells_61 : decode YX8_tells.2.1 61 = .ok (.iload_n 2, 1) := by decide +kernel
theorem dX8_tells_62 : decode YX8_tells.2.1 62 = .ok (.if_icmp .ne 34, 3) := by decide +kernel
theorem dX8_tells_65 : decode YX8_tells.2.1 65 = .ok (.aload_n 0, 1) := by decide +kernel
theorem dX8_tells_66 : decode YX8_tells.2.1 66 = .ok (.getfield 19, 3) := by decide +kernel
theorem dX8_tells_69 : decode YX8_tells.2.1 69 = .ok (.iload 4, 2) := by decide +kernel
theorem dX8_tells_71 : decode YX8_tells.2.1 71 = .ok (.iaload, 1) := by decide +kernel
theorem dX8_tells_72 : decode YX8_tells.2.1 72 = .ok (.iconst 1, 1) := by decide +kernel
theorem dX8_tells_73 : decode YX8_tells.2.1 73 = .ok (.if_icmp .ne 23, 3) := by decide +kernel
theorem dX8_tells_76 : decode YX8_tells.2.1 76 = .ok (.aload_n 0, 1) := by decide +kernel
theorem dX8_tells_77 : decode YX8_tells.2.1 77 = .ok (.iload 4, 2) := by decide +kernel
theorem dX8_tells_79 : decode YX8_tells.2.1 79 = .ok (.iload_n 1, 1) := by decide +kernel
theorem dX8_tells_80 : decode YX8_tells.2.1 80 = .ok (.invokevirtual 133, 3) := by decide +kernel
theorem dX8_tells_83 : decode YX8_tells.2.1 83 = .ok (.ifCond .eq 13, 3) := by decide +kernel
theorem dX8_tells_86 : decode YX8_tells.2.1 86 = .ok (.aload_n 0, 1) := by decide +kernel
theorem dX8_tells_87 : decode YX8_tells.2.1 87 = .ok (.iload 4, 2) := by decide +kernel
theorem dX8_tells_89 : decode YX8_tells.2.1 89 = .ok (.iload_n 1, 1) := by decide +kernel
theorem dX8_tells_90 : decode YX8_tells.2.1 90 = .ok (.invokevirtual 151, 3) := by decide +kernel
theorem dX8_tells_93 : decode YX8_tells.2.1 93 = .ok (.goto 4, 3) := by decide +kernel
theorem dX8_tells_96 : decode YX8_tells.2.1 96 = .ok (.iconst 0, 1) := by decide +kernel
theorem dX8_tells_97 : decode YX8_tells.2.1 97 = .ok (.iastore, 1) := by decide +kernel
theorem dX8_tells_98 : decode YX8_tells.2.1 98 = .ok (.iinc 4 1, 3) := by decide +kernel
theorem dX8_tells_101 : decode YX8_tells.2.1 101 = .ok (.goto (-69), 3) := by decide +kernel
theorem dX8_tells_104 : decode YX8_tells.2.1 104 = .ok (.iconst 0, 1) := by decide +kernel
theorem dX8_tells_105 : decode YX8_tells.2.1 105 = .ok (.istore 4, 2) := by decide +kernel
theorem dX8_tells_107 : decode YX8_tells.2.1 107 = .ok (.iload 4, 2) := by decide +kernel
theorem dX8_tells_109 : decode YX8_tells.2.1 109 = .ok (.bipush 8, 2) := by decide +kernel
theorem dX8_tells_111 : decode YX8_tells.2.1 111 = .ok (.if_icmp .ge 24, 3) := by decide +kernel
theorem dX8_tells_114 : decode YX8_tells.2.1 114 = .ok (.aload_n 0, 1) := by decide +kernel
theorem dX8_tells_115 : decode YX8_tells.2.1 115 = .ok (.getfield 78, 3) := by decide +kernel
theorem dX8_tells_118 : decode YX8_tells.2.1 118 = .ok (.iload 4, 2) := by decide +kernel
theorem dX8_tells_120 : decode YX8_tells.2.1 120 = .ok (.aload_n 0, 1) := by decide +kernel
theorem dX8_tells_121 : decode YX8_tells.2.1 121 = .ok (.iload_n 1, 1) := by decide +kernel
theorem dX8_tells_122 : decode YX8_tells.2.1 122 = .ok (.iload 4, 2) := by decide +kernel
theorem dX8_tells_124 : decode YX8_tells.2.1 124 = .ok (.iload_n 2, 1) := by decide +kernel
theorem dX8_tells_125 : decode YX8_tells.2.1 125 = .ok (.invokevirtual 219, 3) := by decide +kernel
theorem dX8_tells_128 : decode YX8_tells.2.1 128 = .ok (.iastore, 1) := by decide +kernel
theorem dX8_tells_129 : decode YX8_tells.2.1 129 = .ok (.iinc 4 1, 3) := by decide +kernel
theorem dX8_tells_132 : decode YX8_tells.2.1 132 = .ok (.goto (-25), 3) := by decide +kernel
theorem dX8_tells_135 : decode YX8_tells.2.1 135 = .ok (.aload_n 0, 1) := by decide +kernel
theorem dX8_tells_136 : decode YX8_tells.2.1 136 = .ok (.getfield 25, 3) := by decide +kernel
theorem dX8_tells_139 : decode YX8_tells.2.1 139 = .ok (.iload_n 3, 1) := by decide +kernel
theorem dX8_tells_140 : decode YX8_tells.2.1 140 = .ok (.iaload, 1) := by decide +kernel
theorem dX8_tells_141 : decode YX8_tells.2.1 141 = .ok (.ifCond .le 23, 3) := by decide +kernel
theorem dX8_tells_144 : decode YX8_tells.2.1 144 = .ok (.aload_n 0, 1) := by decide +kernel
theorem dX8_tells_145 : decode YX8_tells.2.1 145 = .ok (.getfield 28, 3) := by decide +kernel
theorem dX8_tells_148 : decode YX8_tells.2.1 148 = .ok (.iload_n 3, 1) := by decide +kernel
theorem dX8_tells_149 : decode YX8_tells.2.1 149 = .ok (.iaload, 1) := by decide +kernel
theorem dX8_tells_150 : decode YX8_tells.2.1 150 = .ok (.bipush 20, 2) := by decide +kernel
theorem dX8_tells_152 : decode YX8_tells.2.1 152 = .ok (.if_icmp .ge 12, 3) := by decide +kernel
theorem dX8_tells_155 : decode YX8_tells.2.1 155 = .ok (.aload_n 0, 1) := by decide +kernel
theorem dX8_tells_156 : decode YX8_tells.2.1 156 = .ok (.iload_n 3, 1) := by decide +kernel
theorem dX8_tells_157 : decode YX8_tells.2.1 157 = .ok (.invokevirtual 222, 3) := by decide +kernel
theorem dX8_tells_160 : decode YX8_tells.2.1 160 = .ok (.ifCond .ne 4, 3) := by decide +kernel
theorem dX8_tells_163 : decode YX8_tells.2.1 163 = .ok (.return_, 1) := by decide +kernel
theorem dX8_tells_164 : decode YX8_tells.2.1 164 = .ok (.aload_n 0, 1) := by decide +kernel
theorem dX8_tells_165 : decode YX8_tells.2.1 165 = .ok (.getfield 25, 3) := by decide +kernel
theorem dX8_tells_168 : decode YX8_tells.2.1 168 = .ok (.iload_n 3, 1) := by decide +kernel
theorem dX8_tells_169 : decode YX8_tells.2.1 169 = .ok (.dup2, 1) := by decide +kernel
theorem dX8_tells_170 : decode YX8_tells.2.1 170 = .ok (.iaload, 1) := by decide +kernel
theorem dX8_tells_171 : decode YX8_tells.2.1 171 = .ok (.iconst 1, 1) := by decide +kernel
theorem dX8_tells_172 : decode YX8_tells.2.1 172 = .ok (.iadd, 1) := by decide +kernel
theorem dX8_tells_173 : decode YX8_tells.2.1 173 = .ok (.iastore, 1) := by decide +kernel
theorem dX8_tells_174 : decode YX8_tells.2.1 174 = .ok (.aload_n 0, 1) := by decide +kernel
theorem dX8_tells_175 : decode YX8_tells.2.1 175 = .ok (.getfield 28, 3) := by decide +kernel
theorem dX8_tells_178 : decode YX8_tells.2.1 178 = .ok (.iload_n 3, 1) := by decide +kernel
theorem dX8_tells_179 : decode YX8_tells.2.1 179 = .ok (.iconst 0, 1) := by decide +kernel
theorem dX8_tells_180 : decode YX8_tells.2.1 180 = .ok (.iastore, 1) := by decide +kernel
theorem dX8_tells_181 : decode YX8_tells.2.1 181 = .ok (.aload_n 0, 1) := by decide +kernel
theorem dX8_tells_182 : decode YX8_tells.2.1 182 = .ok (.getfield 31, 3) := by decide +kernel
theorem dX8_tells_185 : decode YX8_tells.2.1 185 = .ok (.iload_n 3, 1) := by decide +kernel
theorem dX8_tells_186 : decode YX8_tells.2.1 186 = .ok (.iconst 1, 1) := by decide +kernel
theorem dX8_tells_187 : decode YX8_tells.2.1 187 = .ok (.iastore, 1) := by decide +kernel
theorem dX8_tells_188 : decode YX8_tells.2.1 188 = .ok (.aload_n 0, 1) := by decide +kernel
theorem dX8_tells_189 : decode YX8_tells.2.1 189 = .ok (.getfield 34, 3) := by decide +kernel
theorem dX8_tells_192 : decode YX8_tells.2.1 192 = .ok (.iload_n 3, 1) := by decide +kernel
theorem dX8_tells_193 : decode YX8_tells.2.1 193 = .ok (.iconst 0, 1) := by decide +kernel
theorem dX8_tells_194 : decode YX8_tells.2.1 194 = .ok (.iastore, 1) := by decide +kernel
theorem dX8_tells_195 : decode YX8_tells.2.1 195 = .ok (.aload_n 0, 1) := by decide +kernel
theorem dX8_tells_196 : decode YX8_tells.2.1 196 = .ok (.getfield 75, 3) := by decide +kernel
theorem dX8_tells_199 : decode YX8_tells.2.1 199 = .ok (.iconst 0, 1) := by decide +kernel
theorem dX8_tells_200 : decode YX8_tells.2.1 200 = .ok (.aload_n 0, 1) := by decide +kernel
theorem dX8_tells_201 : decode YX8_tells.2.1 201 = .ok (.getfield 39, 3) := by decide +kernel
theorem dX8_tells_204 : decode YX8_tells.2.1 204 = .ok (.iload_n 3, 1) := by decide +kernel
theorem dX8_tells_205 : decode YX8_tells.2.1 205 = .ok (.aaload, 1) := by decide +kernel
theorem dX8_tells_206 : decode YX8_tells.2.1 206 = .ok (.iconst 0, 1) := by decide +kernel
theorem dX8_tells_207 : decode YX8_tells.2.1 207 = .ok (.bipush 12, 2) := by decide +kernel
theorem dX8_tells_209 : decode YX8_tells.2.1 209 = .ok (.invokestatic 213, 3) := by decide +kernel
theorem dX8_tells_212 : decode YX8_tells.2.1 212 = .ok (.aload_n 0, 1) := by decide +kernel
theorem dX8_tells_213 : decode YX8_tells.2.1 213 = .ok (.getfield 78, 3) := by decide +kernel
theorem dX8_tells_216 : decode YX8_tells.2.1 216 = .ok (.iconst 0, 1) := by decide +kernel
theorem dX8_tells_217 : decode YX8_tells.2.1 217 = .ok (.aload_n 0, 1) := by decide +kernel
theorem dX8_tells_218 : decode YX8_tells.2.1 218 = .ok (.getfield 42, 3) := by decide +kernel
theorem dX8_tells_221 : decode YX8_tells.2.1 221 = .ok (.iload_n 3, 1) := by decide +kernel
theorem dX8_tells_222 : decode YX8_tells.2.1 222 = .ok (.aaload, 1) := by decide +kernel
theorem dX8_tells_223 : decode YX8_tells.2.1 223 = .ok (.iconst 0, 1) := by decide +kernel
theorem dX8_tells_224 : decode YX8_tells.2.1 224 = .ok (.bipush 8, 2) := by decide +kernel
theorem dX8_tells_226 : decode YX8_tells.2.1 226 = .ok (.invokestatic 213, 3) := by decide +kernel
theorem dX8_tells_229 : decode YX8_tells.2.1 229 = .ok (.return_, 1) := by decide +kernel
theorem dX8_sends_0 : decode YX8_sends.2.1 0 = .ok (.iload_n 1, 1) := by decide +kernel
theorem dX8_sends_1 : decode YX8_sends.2.1 1 = .ok (.iload_n 2, 1) := by decide +kernel
theorem dX8_sends_2 : decode YX8_sends.2.1 2 = .ok (.iload_n 3, 1) := by decide +kernel
theorem dX8_sends_3 : decode YX8_sends.2.1 3 = .ok (.invokestatic 155, 3) := by decide +kernel
theorem dX8_sends_6 : decode YX8_sends.2.1 6 = .ok (.istore 4, 2) := by decide +kernel
theorem dX8_sends_8 : decode YX8_sends.2.1 8 = .ok (.aload_n 0, 1) := by decide +kernel
theorem dX8_sends_9 : decode YX8_sends.2.1 9 = .ok (.getfield 25, 3) := by decide +kernel
theorem dX8_sends_12 : decode YX8_sends.2.1 12 = .ok (.iload 4, 2) := by decide +kernel
theorem dX8_sends_14 : decode YX8_sends.2.1 14 = .ok (.iaload, 1) := by decide +kernel
theorem dX8_sends_15 : decode YX8_sends.2.1 15 = .ok (.ifCond .eq 13, 3) := by decide +kernel
theorem dX8_sends_18 : decode YX8_sends.2.1 18 = .ok (.aload_n 0, 1) := by decide +kernel
theorem dX8_sends_19 : decode YX8_sends.2.1 19 = .ok (.getfield 31, 3) := by decide +kernel
theorem dX8_sends_22 : decode YX8_sends.2.1 22 = .ok (.iload 4, 2) := by decide +kernel
theorem dX8_sends_24 : decode YX8_sends.2.1 24 = .ok (.iaload, 1) := by decide +kernel
theorem dX8_sends_25 : decode YX8_sends.2.1 25 = .ok (.ifCond .ne 4, 3) := by decide +kernel
theorem dX8_sends_28 : decode YX8_sends.2.1 28 = .ok (.return_, 1) := by decide +kernel
theorem dX8_sends_29 : decode YX8_sends.2.1 29 = .ok (.iconst 0, 1) := by decide +kernel
theorem dX8_sends_30 : decode YX8_sends.2.1 30 = .ok (.istore 5, 2) := by decide +kernel
theorem dX8_sends_32 : decode YX8_sends.2.1 32 = .ok (.iload 5, 2) := by decide +kernel
theorem dX8_sends_34 : decode YX8_sends.2.1 34 = .ok (.aload_n 0, 1) := by decide +kernel
theorem dX8_sends_35 : decode YX8_sends.2.1 35 = .ok (.getfield 129, 3) := by decide +kernel
theorem dX8_sends_38 : decode YX8_sends.2.1 38 = .ok (.if_icmp .ge 194, 3) := by decide +kernel
theorem dX8_sends_41 : decode YX8_sends.2.1 41 = .ok (.aload_n 0, 1) := by decide +kernel
theorem dX8_sends_42 : decode YX8_sends.2.1 42 = .ok (.getfield 16, 3) := by decide +kernel
theorem dX8_sends_45 : decode YX8_sends.2.1 45 = .ok (.iload 5, 2) := by decide +kernel
theorem dX8_sends_47 : decode YX8_sends.2.1 47 = .ok (.iaload, 1) := by decide +kernel
theorem dX8_sends_48 : decode YX8_sends.2.1 48 = .ok (.iload_n 3, 1) := by decide +kernel
theorem dX8_sends_49 : decode YX8_sends.2.1 49 = .ok (.if_icmp .ne 177, 3) := by decide +kernel
theorem dX8_sends_52 : decode YX8_sends.2.1 52 = .ok (.aload_n 0, 1) := by decide +kernel
theorem dX8_sends_53 : decode YX8_sends.2.1 53 = .ok (.getfield 19, 3) := by decide +kernel
theorem dX8_sends_56 : decode YX8_sends.2.1 56 = .ok (.iload 5, 2) := by decide +kernel
theorem dX8_sends_58 : decode YX8_sends.2.1 58 = .ok (.iaload, 1) := by decide +kernel
theorem dX8_sends_59 : decode YX8_sends.2.1 59 = .ok (.ifCond .eq 167, 3) := by decide +kernel
theorem dX8_sends_62 : decode YX8_sends.2.1 62 = .ok (.aload_n 0, 1) := by decide +kernel
theorem dX8_sends_63 : decode YX8_sends.2.1 63 = .ok (.iload 5, 2) := by decide +kernel
theorem dX8_sends_65 : decode YX8_sends.2.1 65 = .ok (.iload_n 1, 1) := by decide +kernel
theorem dX8_sends_66 : decode YX8_sends.2.1 66 = .ok (.invokevirtual 133, 3) := by decide +kernel
theorem dX8_sends_69 : decode YX8_sends.2.1 69 = .ok (.ifCond .eq 157, 3) := by decide +kernel
theorem dX8_sends_72 : decode YX8_sends.2.1 72 = .ok (.aload_n 0, 1) := by decide +kernel
theorem dX8_sends_73 : decode YX8_sends.2.1 73 = .ok (.getfield 34, 3) := by decide +kernel
theorem dX8_sends_76 : decode YX8_sends.2.1 76 = .ok (.iload 4, 2) := by decide +kernel
theorem dX8_sends_78 : decode YX8_sends.2.1 78 = .ok (.iaload, 1) := by decide +kernel
theorem dX8_sends_79 : decode YX8_sends.2.1 79 = .ok (.iload 5, 2) := by decide +kernel
theorem dX8_sends_81 : decode YX8_sends.2.1 81 = .ok (.ishr, 1) := by decide +kernel
theorem dX8_sends_82 : decode YX8_sends.2.1 82 = .ok (.iconst 1, 1) := by decide +kernel
theorem dX8_sends_83 : decode YX8_sends.2.1 83 = .ok (.iand, 1) := by decide +kernel
theorem dX8_sends_84 : decode YX8_sends.2.1 84 = .ok (.iconst 1, 1) := by decide +kernel
theorem dX8_sends_85 : decode YX8_sends.2.1 85 = .ok (.if_icmp .ne 6, 3) := by decide +kernel
theorem dX8_sends_88 : decode YX8_sends.2.1 88 = .ok (.goto 138, 3) := by decide +kernel
theorem dX8_sends_91 : decode YX8_sends.2.1 91 = .ok (.aload_n 0, 1) := by decide +kernel
theorem dX8_sends_92 : decode YX8_sends.2.1 92 = .ok (.getfield 45, 3) := by decide +kernel
theorem dX8_sends_95 : decode YX8_sends.2.1 95 = .ok (.aload_n 0, 1) := by decide +kernel
theorem dX8_sends_96 : decode YX8_sends.2.1 96 = .ok (.getfield 225, 3) := by decide +kernel
theorem dX8_sends_99 : decode YX8_sends.2.1 99 = .ok (.iload 5, 2) := by decide +kernel
theorem dX8_sends_101 : decode YX8_sends.2.1 101 = .ok (.iastore, 1) := by decide +kernel
theorem dX8_sends_102 : decode YX8_sends.2.1 102 = .ok (.aload_n 0, 1) := by decide +kernel
theorem dX8_sends_103 : decode YX8_sends.2.1 103 = .ok (.getfield 48, 3) := by decide +kernel
theorem dX8_sends_106 : decode YX8_sends.2.1 106 = .ok (.aload_n 0, 1) := by decide +kernel
theorem dX8_sends_107 : decode YX8_sends.2.1 107 = .ok (.getfield 225, 3) := by decide +kernel
theorem dX8_sends_110 : decode YX8_sends.2.1 110 = .ok (.aload_n 0, 1) := by decide +kernel
theorem dX8_sends_111 : decode YX8_sends.2.1 111 = .ok (.iload 5, 2) := by decide +kernel
theorem dX8_sends_113 : decode YX8_sends.2.1 113 = .ok (.iload_n 1, 1) := by decide +kernel
theorem dX8_sends_114 : decode YX8_sends.2.1 114 = .ok (.invokevirtual 169, 3) := by decide +kernel
theorem dX8_sends_117 : decode YX8_sends.2.1 117 = .ok (.iastore, 1) := by decide +kernel
theorem dX8_sends_118 : decode YX8_sends.2.1 118 = .ok (.aload_n 0, 1) := by decide +kernel
theorem dX8_sends_119 : decode YX8_sends.2.1 119 = .ok (.getfield 51, 3) := by decide +kernel
theorem dX8_sends_122 : decode YX8_sends.2.1 122 = .ok (.aload_n 0, 1) := by decide +kernel
theorem dX8_sends_123 : decode YX8_sends.2.1 123 = .ok (.getfield 225, 3) := by decide +kernel
theorem dX8_sends_126 : decode YX8_sends.2.1 126 = .ok (.iload_n 2, 1) := by decide +kernel
theorem dX8_sends_127 : decode YX8_sends.2.1 127 = .ok (.iastore, 1) := by decide +kernel
theorem dX8_sends_128 : decode YX8_sends.2.1 128 = .ok (.aload_n 0, 1) := by decide +kernel
theorem dX8_sends_129 : decode YX8_sends.2.1 129 = .ok (.getfield 54, 3) := by decide +kernel
theorem dX8_sends_132 : decode YX8_sends.2.1 132 = .ok (.aload_n 0, 1) := by decide +kernel
theorem dX8_sends_133 : decode YX8_sends.2.1 133 = .ok (.getfield 225, 3) := by decide +kernel
theorem dX8_sends_136 : decode YX8_sends.2.1 136 = .ok (.iload_n 3, 1) := by decide +kernel
theorem dX8_sends_137 : decode YX8_sends.2.1 137 = .ok (.iastore, 1) := by decide +kernel
theorem dX8_sends_138 : decode YX8_sends.2.1 138 = .ok (.aload_n 0, 1) := by decide +kernel
theorem dX8_sends_139 : decode YX8_sends.2.1 139 = .ok (.getfield 57, 3) := by decide +kernel
theorem dX8_sends_142 : decode YX8_sends.2.1 142 = .ok (.aload_n 0, 1) := by decide +kernel
theorem dX8_sends_143 : decode YX8_sends.2.1 143 = .ok (.getfield 225, 3) := by decide +kernel
theorem dX8_sends_146 : decode YX8_sends.2.1 146 = .ok (.aload_n 0, 1) := by decide +kernel
theorem dX8_sends_147 : decode YX8_sends.2.1 147 = .ok (.getfield 25, 3) := by decide +kernel
theorem dX8_sends_150 : decode YX8_sends.2.1 150 = .ok (.iload 4, 2) := by decide +kernel
theorem dX8_sends_152 : decode YX8_sends.2.1 152 = .ok (.iaload, 1) := by decide +kernel
theorem dX8_sends_153 : decode YX8_sends.2.1 153 = .ok (.iastore, 1) := by decide +kernel
theorem dX8_sends_154 : decode YX8_sends.2.1 154 = .ok (.aload_n 0, 1) := by decide +kernel
theorem dX8_sends_155 : decode YX8_sends.2.1 155 = .ok (.getfield 60, 3) := by decide +kernel
theorem dX8_sends_158 : decode YX8_sends.2.1 158 = .ok (.aload_n 0, 1) := by decide +kernel
theorem dX8_sends_159 : decode YX8_sends.2.1 159 = .ok (.getfield 225, 3) := by decide +kernel
theorem dX8_sends_162 : decode YX8_sends.2.1 162 = .ok (.aload_n 0, 1) := by decide +kernel
theorem dX8_sends_163 : decode YX8_sends.2.1 163 = .ok (.getfield 28, 3) := by decide +kernel
theorem dX8_sends_166 : decode YX8_sends.2.1 166 = .ok (.iload 4, 2) := by decide +kernel
theorem dX8_sends_168 : decode YX8_sends.2.1 168 = .ok (.iaload, 1) := by decide +kernel
theorem dX8_sends_169 : decode YX8_sends.2.1 169 = .ok (.iastore, 1) := by decide +kernel
theorem dX8_sends_170 : decode YX8_sends.2.1 170 = .ok (.aload_n 0, 1) := by decide +kernel
theorem dX8_sends_171 : decode YX8_sends.2.1 171 = .ok (.getfield 39, 3) := by decide +kernel
theorem dX8_sends_174 : decode YX8_sends.2.1 174 = .ok (.iload 4, 2) := by decide +kernel
theorem dX8_sends_176 : decode YX8_sends.2.1 176 = .ok (.aaload, 1) := by decide +kernel
theorem dX8_sends_177 : decode YX8_sends.2.1 177 = .ok (.iconst 0, 1) := by decide +kernel
theorem dX8_sends_178 : decode YX8_sends.2.1 178 = .ok (.aload_n 0, 1) := by decide +kernel
theorem dX8_sends_179 : decode YX8_sends.2.1 179 = .ok (.getfield 63, 3) := by decide +kernel
theorem dX8_sends_182 : decode YX8_sends.2.1 182 = .ok (.aload_n 0, 1) := by decide +kernel
theorem dX8_sends_183 : decode YX8_sends.2.1 183 = .ok (.getfield 225, 3) := by decide +kernel
theorem dX8_sends_186 : decode YX8_sends.2.1 186 = .ok (.aaload, 1) := by decide +kernel
theorem dX8_sends_187 : decode YX8_sends.2.1 187 = .ok (.iconst 0, 1) := by decide +kernel
theorem dX8_sends_188 : decode YX8_sends.2.1 188 = .ok (.bipush 12, 2) := by decide +kernel
theorem dX8_sends_190 : decode YX8_sends.2.1 190 = .ok (.invokestatic 213, 3) := by decide +kernel
theorem dX8_sends_193 : decode YX8_sends.2.1 193 = .ok (.aload_n 0, 1) := by decide +kernel
theorem dX8_sends_194 : decode YX8_sends.2.1 194 = .ok (.getfield 42, 3) := by decide +kernel
theorem dX8_sends_197 : decode YX8_sends.2.1 197 = .ok (.iload 4, 2) := by decide +kernel
theorem dX8_sends_199 : decode YX8_sends.2.1 199 = .ok (.aaload, 1) := by decide +kernel
theorem dX8_sends_200 : decode YX8_sends.2.1 200 = .ok (.iconst 0, 1) := by decide +kernel
theorem dX8_sends_201 : decode YX8_sends.2.1 201 = .ok (.aload_n 0, 1) := by decide +kernel
theorem dX8_sends_202 : decode YX8_sends.2.1 202 = .ok (.getfield 66, 3) := by decide +kernel
theorem dX8_sends_205 : decode YX8_sends.2.1 205 = .ok (.aload_n 0, 1) := by decide +kernel
theorem dX8_sends_206 : decode YX8_sends.2.1 206 = .ok (.getfield 225, 3) := by decide +kernel
theorem dX8_sends_209 : decode YX8_sends.2.1 209 = .ok (.aaload, 1) := by decide +kernel
theorem dX8_sends_210 : decode YX8_sends.2.1 210 = .ok (.iconst 0, 1) := by decide +kernel
theorem dX8_sends_211 : decode YX8_sends.2.1 211 = .ok (.bipush 8, 2) := by decide +kernel
theorem dX8_sends_213 : decode YX8_sends.2.1 213 = .ok (.invokestatic 213, 3) := by decide +kernel
theorem dX8_sends_216 : decode YX8_sends.2.1 216 = .ok (.aload_n 0, 1) := by decide +kernel
theorem dX8_sends_217 : decode YX8_sends.2.1 217 = .ok (.dup, 1) := by decide +kernel
theorem dX8_sends_218 : decode YX8_sends.2.1 218 = .ok (.getfield 225, 3) := by decide +kernel
theorem dX8_sends_221 : decode YX8_sends.2.1 221 = .ok (.iconst 1, 1) := by decide +kernel
theorem dX8_sends_222 : decode YX8_sends.2.1 222 = .ok (.iadd, 1) := by decide +kernel
theorem dX8_sends_223 : decode YX8_sends.2.1 223 = .ok (.putfield 225, 3) := by decide +kernel
theorem dX8_sends_226 : decode YX8_sends.2.1 226 = .ok (.iinc 5 1, 3) := by decide +kernel
theorem dX8_sends_229 : decode YX8_sends.2.1 229 = .ok (.goto (-197), 3) := by decide +kernel
theorem dX8_sends_232 : decode YX8_sends.2.1 232 = .ok (.return_, 1) := by decide +kernel
theorem dX8_goes_0 : decode YX8_goes.2.1 0 = .ok (.iconst 0, 1) := by decide +kernel
theorem dX8_goes_1 : decode YX8_goes.2.1 1 = .ok (.istore_n 1, 1) := by decide +kernel
theorem dX8_goes_2 : decode YX8_goes.2.1 2 = .ok (.iload_n 1, 1) := by decide +kernel
theorem dX8_goes_3 : decode YX8_goes.2.1 3 = .ok (.aload_n 0, 1) := by decide +kernel
theorem dX8_goes_4 : decode YX8_goes.2.1 4 = .ok (.getfield 225, 3) := by decide +kernel
theorem dX8_goes_7 : decode YX8_goes.2.1 7 = .ok (.if_icmp .ge 14, 3) := by decide +kernel
theorem dX8_goes_10 : decode YX8_goes.2.1 10 = .ok (.aload_n 0, 1) := by decide +kernel
theorem dX8_goes_11 : decode YX8_goes.2.1 11 = .ok (.iload_n 1, 1) := by decide +kernel
theorem dX8_goes_12 : decode YX8_goes.2.1 12 = .ok (.invokevirtual 228, 3) := by decide +kernel
theorem dX8_goes_15 : decode YX8_goes.2.1 15 = .ok (.iinc 1 1, 3) := by decide +kernel
theorem dX8_goes_18 : decode YX8_goes.2.1 18 = .ok (.goto (-16), 3) := by decide +kernel
theorem dX8_goes_21 : decode YX8_goes.2.1 21 = .ok (.aload_n 0, 1) := by decide +kernel
theorem dX8_goes_22 : decode YX8_goes.2.1 22 = .ok (.iconst 0, 1) := by decide +kernel
theorem dX8_goes_23 : decode YX8_goes.2.1 23 = .ok (.putfield 225, 3) := by decide +kernel
theorem dX8_goes_26 : decode YX8_goes.2.1 26 = .ok (.aload_n 0, 1) := by decide +kernel
theorem dX8_goes_27 : decode YX8_goes.2.1 27 = .ok (.invokevirtual 232, 3) := by decide +kernel
theorem dX8_goes_30 : decode YX8_goes.2.1 30 = .ok (.iconst 0, 1) := by decide +kernel
theorem dX8_goes_31 : decode YX8_goes.2.1 31 = .ok (.istore_n 1, 1) := by decide +kernel
theorem dX8_goes_32 : decode YX8_goes.2.1 32 = .ok (.iload_n 1, 1) := by decide +kernel
theorem dX8_goes_33 : decode YX8_goes.2.1 33 = .ok (.bipush 8, 2) := by decide +kernel
theorem dX8_goes_35 : decode YX8_goes.2.1 35 = .ok (.if_icmp .ge 28, 3) := by decide +kernel
theorem dX8_goes_38 : decode YX8_goes.2.1 38 = .ok (.iconst 0, 1) := by decide +kernel
theorem dX8_goes_39 : decode YX8_goes.2.1 39 = .ok (.istore_n 2, 1) := by decide +kernel
theorem dX8_goes_40 : decode YX8_goes.2.1 40 = .ok (.iload_n 2, 1) := by decide +kernel
theorem dX8_goes_41 : decode YX8_goes.2.1 41 = .ok (.iconst 3, 1) := by decide +kernel
theorem dX8_goes_42 : decode YX8_goes.2.1 42 = .ok (.if_icmp .ge 15, 3) := by decide +kernel
theorem dX8_goes_45 : decode YX8_goes.2.1 45 = .ok (.aload_n 0, 1) := by decide +kernel
theorem dX8_goes_46 : decode YX8_goes.2.1 46 = .ok (.iload_n 1, 1) := by decide +kernel
theorem dX8_goes_47 : decode YX8_goes.2.1 47 = .ok (.iload_n 2, 1) := by decide +kernel
theorem dX8_goes_48 : decode YX8_goes.2.1 48 = .ok (.invokevirtual 235, 3) := by decide +kernel
theorem dX8_goes_51 : decode YX8_goes.2.1 51 = .ok (.iinc 2 1, 3) := by decide +kernel
theorem dX8_goes_54 : decode YX8_goes.2.1 54 = .ok (.goto (-14), 3) := by decide +kernel
theorem dX8_goes_57 : decode YX8_goes.2.1 57 = .ok (.iinc 1 1, 3) := by decide +kernel
theorem dX8_goes_60 : decode YX8_goes.2.1 60 = .ok (.goto (-28), 3) := by decide +kernel
theorem dX8_goes_63 : decode YX8_goes.2.1 63 = .ok (.iconst 0, 1) := by decide +kernel
theorem dX8_goes_64 : decode YX8_goes.2.1 64 = .ok (.istore_n 1, 1) := by decide +kernel
theorem dX8_goes_65 : decode YX8_goes.2.1 65 = .ok (.iload_n 1, 1) := by decide +kernel
theorem dX8_goes_66 : decode YX8_goes.2.1 66 = .ok (.bipush 8, 2) := by decide +kernel
theorem dX8_goes_68 : decode YX8_goes.2.1 68 = .ok (.if_icmp .ge 43, 3) := by decide +kernel
theorem dX8_goes_71 : decode YX8_goes.2.1 71 = .ok (.iconst 0, 1) := by decide +kernel
theorem dX8_goes_72 : decode YX8_goes.2.1 72 = .ok (.istore_n 2, 1) := by decide +kernel
theorem dX8_goes_73 : decode YX8_goes.2.1 73 = .ok (.iload_n 2, 1) := by decide +kernel
theorem dX8_goes_74 : decode YX8_goes.2.1 74 = .ok (.iconst 3, 1) := by decide +kernel
theorem dX8_goes_75 : decode YX8_goes.2.1 75 = .ok (.if_icmp .ge 30, 3) := by decide +kernel
theorem dX8_goes_78 : decode YX8_goes.2.1 78 = .ok (.iconst 0, 1) := by decide +kernel
theorem dX8_goes_79 : decode YX8_goes.2.1 79 = .ok (.istore_n 3, 1) := by decide +kernel
theorem dX8_goes_80 : decode YX8_goes.2.1 80 = .ok (.iload_n 3, 1) := by decide +kernel
theorem dX8_goes_81 : decode YX8_goes.2.1 81 = .ok (.bipush 8, 2) := by decide +kernel
theorem dX8_goes_83 : decode YX8_goes.2.1 83 = .ok (.if_icmp .ge 16, 3) := by decide +kernel
theorem dX8_goes_86 : decode YX8_goes.2.1 86 = .ok (.aload_n 0, 1) := by decide +kernel
theorem dX8_goes_87 : decode YX8_goes.2.1 87 = .ok (.iload_n 1, 1) := by decide +kernel
theorem dX8_goes_88 : decode YX8_goes.2.1 88 = .ok (.iload_n 3, 1) := by decide +kernel
theorem dX8_goes_89 : decode YX8_goes.2.1 89 = .ok (.iload_n 2, 1) := by decide +kernel
theorem dX8_goes_90 : decode YX8_goes.2.1 90 = .ok (.invokevirtual 238, 3) := by decide +kernel
theorem dX8_goes_93 : decode YX8_goes.2.1 93 = .ok (.iinc 3 1, 3) := by decide +kernel
theorem dX8_goes_96 : decode YX8_goes.2.1 96 = .ok (.goto (-16), 3) := by decide +kernel
theorem dX8_goes_99 : decode YX8_goes.2.1 99 = .ok (.iinc 2 1, 3) := by decide +kernel
theorem dX8_goes_102 : decode YX8_goes.2.1 102 = .ok (.goto (-29), 3) := by decide +kernel
theorem dX8_goes_105 : decode YX8_goes.2.1 105 = .ok (.iinc 1 1, 3) := by decide +kernel
theorem dX8_goes_108 : decode YX8_goes.2.1 108 = .ok (.goto (-43), 3) := by decide +kernel
theorem dX8_goes_111 : decode YX8_goes.2.1 111 = .ok (.iconst 0, 1) := by decide +kernel
theorem dX8_goes_112 : decode YX8_goes.2.1 112 = .ok (.istore_n 1, 1) := by decide +kernel
theorem dX8_goes_113 : decode YX8_goes.2.1 113 = .ok (.iload_n 1, 1) := by decide +kernel
theorem dX8_goes_114 : decode YX8_goes.2.1 114 = .ok (.sipush 192, 3) := by decide +kernel
theorem dX8_goes_117 : decode YX8_goes.2.1 117 = .ok (.if_icmp .ge 16, 3) := by decide +kernel
theorem dX8_goes_120 : decode YX8_goes.2.1 120 = .ok (.aload_n 0, 1) := by decide +kernel
theorem dX8_goes_121 : decode YX8_goes.2.1 121 = .ok (.getfield 31, 3) := by decide +kernel
theorem dX8_goes_124 : decode YX8_goes.2.1 124 = .ok (.iload_n 1, 1) := by decide +kernel
theorem dX8_goes_125 : decode YX8_goes.2.1 125 = .ok (.iconst 0, 1) := by decide +kernel
theorem dX8_goes_126 : decode YX8_goes.2.1 126 = .ok (.iastore, 1) := by decide +kernel
theorem dX8_goes_127 : decode YX8_goes.2.1 127 = .ok (.iinc 1 1, 3) := by decide +kernel
theorem dX8_goes_130 : decode YX8_goes.2.1 130 = .ok (.goto (-17), 3) := by decide +kernel
theorem dX8_goes_133 : decode YX8_goes.2.1 133 = .ok (.aload_n 0, 1) := by decide +kernel
theorem dX8_goes_134 : decode YX8_goes.2.1 134 = .ok (.dup, 1) := by decide +kernel
theorem dX8_goes_135 : decode YX8_goes.2.1 135 = .ok (.getfield 241, 3) := by decide +kernel
theorem dX8_goes_138 : decode YX8_goes.2.1 138 = .ok (.iconst 1, 1) := by decide +kernel
theorem dX8_goes_139 : decode YX8_goes.2.1 139 = .ok (.iadd, 1) := by decide +kernel
theorem dX8_goes_140 : decode YX8_goes.2.1 140 = .ok (.putfield 241, 3) := by decide +kernel
theorem dX8_goes_143 : decode YX8_goes.2.1 143 = .ok (.aload_n 0, 1) := by decide +kernel
theorem dX8_goes_144 : decode YX8_goes.2.1 144 = .ok (.dup, 1) := by decide +kernel
theorem dX8_goes_145 : decode YX8_goes.2.1 145 = .ok (.getfield 244, 3) := by decide +kernel
theorem dX8_goes_148 : decode YX8_goes.2.1 148 = .ok (.aload_n 0, 1) := by decide +kernel
theorem dX8_goes_149 : decode YX8_goes.2.1 149 = .ok (.getfield 225, 3) := by decide +kernel
theorem dX8_goes_152 : decode YX8_goes.2.1 152 = .ok (.iadd, 1) := by decide +kernel
theorem dX8_goes_153 : decode YX8_goes.2.1 153 = .ok (.putfield 244, 3) := by decide +kernel
theorem dX8_goes_156 : decode YX8_goes.2.1 156 = .ok (.aload_n 0, 1) := by decide +kernel
theorem dX8_goes_157 : decode YX8_goes.2.1 157 = .ok (.getfield 225, 3) := by decide +kernel
theorem dX8_goes_160 : decode YX8_goes.2.1 160 = .ok (.ireturn, 1) := by decide +kernel
theorem dX8_tick_0 : decode YX8_tick.2.1 0 = .ok (.aload_n 0, 1) := by decide +kernel
theorem dX8_tick_1 : decode YX8_tick.2.1 1 = .ok (.invokevirtual 247, 3) := by decide +kernel
theorem dX8_tick_4 : decode YX8_tick.2.1 4 = .ok (.ireturn, 1) := by decide +kernel
theorem dX8_ticks_0 : decode YX8_ticks.2.1 0 = .ok (.iload_n 1, 1) := by decide +kernel
theorem dX8_ticks_1 : decode YX8_ticks.2.1 1 = .ok (.iconst 0, 1) := by decide +kernel
theorem dX8_ticks_2 : decode YX8_ticks.2.1 2 = .ok (.bipush 80, 2) := by decide +kernel
theorem dX8_ticks_4 : decode YX8_ticks.2.1 4 = .ok (.invokestatic 125, 3) := by decide +kernel
theorem dX8_ticks_7 : decode YX8_ticks.2.1 7 = .ok (.ifCond .ne 6, 3) := by decide +kernel
theorem dX8_ticks_10 : decode YX8_ticks.2.1 10 = .ok (.bipush (-2), 2) := by decide +kernel
theorem dX8_ticks_12 : decode YX8_ticks.2.1 12 = .ok (.ireturn, 1) := by decide +kernel
theorem dX8_ticks_13 : decode YX8_ticks.2.1 13 = .ok (.iconst 0, 1) := by decide +kernel
theorem dX8_ticks_14 : decode YX8_ticks.2.1 14 = .ok (.istore_n 2, 1) := by decide +kernel
theorem dX8_ticks_15 : decode YX8_ticks.2.1 15 = .ok (.iconst 0, 1) := by decide +kernel
theorem dX8_ticks_16 : decode YX8_ticks.2.1 16 = .ok (.istore_n 3, 1) := by decide +kernel
theorem dX8_ticks_17 : decode YX8_ticks.2.1 17 = .ok (.iload_n 3, 1) := by decide +kernel
theorem dX8_ticks_18 : decode YX8_ticks.2.1 18 = .ok (.iload_n 1, 1) := by decide +kernel
theorem dX8_ticks_19 : decode YX8_ticks.2.1 19 = .ok (.if_icmp .ge 16, 3) := by decide +kernel
theorem dX8_ticks_22 : decode YX8_ticks.2.1 22 = .ok (.iload_n 2, 1) := by decide +kernel
theorem dX8_ticks_23 : decode YX8_ticks.2.1 23 = .ok (.aload_n 0, 1) := by decide +kernel
theorem dX8_ticks_24 : decode YX8_ticks.2.1 24 = .ok (.invokevirtual 247, 3) := by decide +kernel
theorem dX8_ticks_27 : decode YX8_ticks.2.1 27 = .ok (.iadd, 1) := by decide +kernel
theorem dX8_ticks_28 : decode YX8_ticks.2.1 28 = .ok (.istore_n 2, 1) := by decide +kernel
theorem dX8_ticks_29 : decode YX8_ticks.2.1 29 = .ok (.iinc 3 1, 3) := by decide +kernel
theorem dX8_ticks_32 : decode YX8_ticks.2.1 32 = .ok (.goto (-15), 3) := by decide +kernel
theorem dX8_ticks_35 : decode YX8_ticks.2.1 35 = .ok (.iload_n 2, 1) := by decide +kernel
theorem dX8_ticks_36 : decode YX8_ticks.2.1 36 = .ok (.ireturn, 1) := by decide +kernel
theorem dX8_linksTold_0 : decode YX8_linksTold.2.1 0 = .ok (.iconst 0, 1) := by decide +kernel
theorem dX8_linksTold_1 : decode YX8_linksTold.2.1 1 = .ok (.istore_n 2, 1) := by decide +kernel
theorem dX8_linksTold_2 : decode YX8_linksTold.2.1 2 = .ok (.iconst 0, 1) := by decide +kernel
theorem dX8_linksTold_3 : decode YX8_linksTold.2.1 3 = .ok (.istore_n 3, 1) := by decide +kernel
theorem dX8_linksTold_4 : decode YX8_linksTold.2.1 4 = .ok (.iload_n 3, 1) := by decide +kernel
theorem dX8_linksTold_5 : decode YX8_linksTold.2.1 5 = .ok (.bipush 12, 2) := by decide +kernel
theorem dX8_linksTold_7 : decode YX8_linksTold.2.1 7 = .ok (.if_icmp .ge 26, 3) := by decide +kernel
theorem dX8_linksTold_10 : decode YX8_linksTold.2.1 10 = .ok (.aload_n 0, 1) := by decide +kernel
theorem dX8_linksTold_11 : decode YX8_linksTold.2.1 11 = .ok (.getfield 39, 3) := by decide +kernel
theorem dX8_linksTold_14 : decode YX8_linksTold.2.1 14 = .ok (.iload_n 1, 1) := by decide +kernel
theorem dX8_linksTold_15 : decode YX8_linksTold.2.1 15 = .ok (.aaload, 1) := by decide +kernel
theorem dX8_linksTold_16 : decode YX8_linksTold.2.1 16 = .ok (.iload_n 3, 1) := by decide +kernel
theorem dX8_linksTold_17 : decode YX8_linksTold.2.1 17 = .ok (.iaload, 1) := by decide +kernel
theorem dX8_linksTold_18 : decode YX8_linksTold.2.1 18 = .ok (.ifCond .le 9, 3) := by decide +kernel
theorem dX8_linksTold_21 : decode YX8_linksTold.2.1 21 = .ok (.iload_n 2, 1) := by decide +kernel
theorem dX8_linksTold_22 : decode YX8_linksTold.2.1 22 = .ok (.iconst 1, 1) := by decide +kernel
theorem dX8_linksTold_23 : decode YX8_linksTold.2.1 23 = .ok (.iload_n 3, 1) := by decide +kernel
theorem dX8_linksTold_24 : decode YX8_linksTold.2.1 24 = .ok (.ishl, 1) := by decide +kernel
theorem dX8_linksTold_25 : decode YX8_linksTold.2.1 25 = .ok (.ior, 1) := by decide +kernel
theorem dX8_linksTold_26 : decode YX8_linksTold.2.1 26 = .ok (.istore_n 2, 1) := by decide +kernel
theorem dX8_linksTold_27 : decode YX8_linksTold.2.1 27 = .ok (.iinc 3 1, 3) := by decide +kernel
theorem dX8_linksTold_30 : decode YX8_linksTold.2.1 30 = .ok (.goto (-26), 3) := by decide +kernel
theorem dX8_linksTold_33 : decode YX8_linksTold.2.1 33 = .ok (.iload_n 2, 1) := by decide +kernel
theorem dX8_linksTold_34 : decode YX8_linksTold.2.1 34 = .ok (.ireturn, 1) := by decide +kernel
theorem dX8_advert_0 : decode YX8_advert.2.1 0 = .ok (.iload_n 1, 1) := by decide +kernel
theorem dX8_advert_1 : decode YX8_advert.2.1 1 = .ok (.invokestatic 141, 3) := by decide +kernel
theorem dX8_advert_4 : decode YX8_advert.2.1 4 = .ok (.ifCond .eq 51, 3) := by decide +kernel
theorem dX8_advert_7 : decode YX8_advert.2.1 7 = .ok (.iload_n 2, 1) := by decide +kernel
theorem dX8_advert_8 : decode YX8_advert.2.1 8 = .ok (.invokestatic 141, 3) := by decide +kernel
theorem dX8_advert_11 : decode YX8_advert.2.1 11 = .ok (.ifCond .eq 44, 3) := by decide +kernel
theorem dX8_advert_14 : decode YX8_advert.2.1 14 = .ok (.iload_n 3, 1) := by decide +kernel
theorem dX8_advert_15 : decode YX8_advert.2.1 15 = .ok (.invokestatic 145, 3) := by decide +kernel
theorem dX8_advert_18 : decode YX8_advert.2.1 18 = .ok (.ifCond .eq 37, 3) := by decide +kernel
theorem dX8_advert_21 : decode YX8_advert.2.1 21 = .ok (.iload 4, 2) := by decide +kernel
theorem dX8_advert_23 : decode YX8_advert.2.1 23 = .ok (.iconst 0, 1) := by decide +kernel
theorem dX8_advert_24 : decode YX8_advert.2.1 24 = .ok (.iconst 2, 1) := by decide +kernel
theorem dX8_advert_25 : decode YX8_advert.2.1 25 = .ok (.invokestatic 125, 3) := by decide +kernel
theorem dX8_advert_28 : decode YX8_advert.2.1 28 = .ok (.ifCond .ne 30, 3) := by decide +kernel
theorem dX8_advert_31 : decode YX8_advert.2.1 31 = .ok (.iload 4, 2) := by decide +kernel
theorem dX8_advert_33 : decode YX8_advert.2.1 33 = .ok (.bipush 10, 2) := by decide +kernel
theorem dX8_advert_35 : decode YX8_advert.2.1 35 = .ok (.bipush 21, 2) := by decide +kernel
theorem dX8_advert_37 : decode YX8_advert.2.1 37 = .ok (.invokestatic 125, 3) := by decide +kernel
theorem dX8_advert_40 : decode YX8_advert.2.1 40 = .ok (.ifCond .ne 18, 3) := by decide +kernel
theorem dX8_advert_43 : decode YX8_advert.2.1 43 = .ok (.iload 4, 2) := by decide +kernel
theorem dX8_advert_45 : decode YX8_advert.2.1 45 = .ok (.bipush 30, 2) := by decide +kernel
theorem dX8_advert_47 : decode YX8_advert.2.1 47 = .ok (.bipush 37, 2) := by decide +kernel
theorem dX8_advert_49 : decode YX8_advert.2.1 49 = .ok (.invokestatic 125, 3) := by decide +kernel
theorem dX8_advert_52 : decode YX8_advert.2.1 52 = .ok (.ifCond .ne 6, 3) := by decide +kernel
theorem dX8_advert_55 : decode YX8_advert.2.1 55 = .ok (.bipush (-2), 2) := by decide +kernel
theorem dX8_advert_57 : decode YX8_advert.2.1 57 = .ok (.ireturn, 1) := by decide +kernel
theorem dX8_advert_58 : decode YX8_advert.2.1 58 = .ok (.iload_n 1, 1) := by decide +kernel
theorem dX8_advert_59 : decode YX8_advert.2.1 59 = .ok (.iload_n 2, 1) := by decide +kernel
theorem dX8_advert_60 : decode YX8_advert.2.1 60 = .ok (.iload_n 3, 1) := by decide +kernel
theorem dX8_advert_61 : decode YX8_advert.2.1 61 = .ok (.invokestatic 155, 3) := by decide +kernel
theorem dX8_advert_64 : decode YX8_advert.2.1 64 = .ok (.istore 5, 2) := by decide +kernel
theorem dX8_advert_66 : decode YX8_advert.2.1 66 = .ok (.aload_n 0, 1) := by decide +kernel
theorem dX8_advert_67 : decode YX8_advert.2.1 67 = .ok (.getfield 25, 3) := by decide +kernel
theorem dX8_advert_70 : decode YX8_advert.2.1 70 = .ok (.iload 5, 2) := by decide +kernel
theorem dX8_advert_72 : decode YX8_advert.2.1 72 = .ok (.iaload, 1) := by decide +kernel
theorem dX8_advert_73 : decode YX8_advert.2.1 73 = .ok (.ifCond .ne 6, 3) := by decide +kernel
theorem dX8_advert_76 : decode YX8_advert.2.1 76 = .ok (.bipush (-3), 2) := by decide +kernel
theorem dX8_advert_78 : decode YX8_advert.2.1 78 = .ok (.ireturn, 1) := by decide +kernel
theorem dX8_advert_79 : decode YX8_advert.2.1 79 = .ok (.iload 4, 2) := by decide +kernel
theorem dX8_advert_81 : decode YX8_advert.2.1 81 = .ok (.iconst 2, 1) := by decide +kernel
theorem dX8_advert_82 : decode YX8_advert.2.1 82 = .ok (.if_icmp .ge 26, 3) := by decide +kernel
theorem dX8_advert_85 : decode YX8_advert.2.1 85 = .ok (.iload 4, 2) := by decide +kernel
theorem dX8_advert_87 : decode YX8_advert.2.1 87 = .ok (.ifCond .ne 13, 3) := by decide +kernel
theorem dX8_advert_90 : decode YX8_advert.2.1 90 = .ok (.aload_n 0, 1) := by decide +kernel
theorem dX8_advert_91 : decode YX8_advert.2.1 91 = .ok (.getfield 25, 3) := by decide +kernel
theorem dX8_advert_94 : decode YX8_advert.2.1 94 = .ok (.iload 5, 2) := by decide +kernel
theorem dX8_advert_96 : decode YX8_advert.2.1 96 = .ok (.iaload, 1) := by decide +kernel
theorem dX8_advert_97 : decode YX8_advert.2.1 97 = .ok (.goto 10, 3) := by decide +kernel
theorem dX8_advert_100 : decode YX8_advert.2.1 100 = .ok (.aload_n 0, 1) := by decide +kernel
theorem dX8_advert_101 : decode YX8_advert.2.1 101 = .ok (.getfield 28, 3) := by decide +kernel
theorem dX8_advert_104 : decode YX8_advert.2.1 104 = .ok (.iload 5, 2) := by decide +kernel
theorem dX8_advert_106 : decode YX8_advert.2.1 106 = .ok (.iaload, 1) := by decide +kernel
theorem dX8_advert_107 : decode YX8_advert.2.1 107 = .ok (.ireturn, 1) := by decide +kernel
theorem dX8_advert_108 : decode YX8_advert.2.1 108 = .ok (.iload 4, 2) := by decide +kernel
theorem dX8_advert_110 : decode YX8_advert.2.1 110 = .ok (.iconst 2, 1) := by decide +kernel
theorem dX8_advert_111 : decode YX8_advert.2.1 111 = .ok (.if_icmp .ne 10, 3) := by decide +kernel
theorem dX8_advert_114 : decode YX8_advert.2.1 114 = .ok (.aload_n 0, 1) := by decide +kernel
theorem dX8_advert_115 : decode YX8_advert.2.1 115 = .ok (.iload 5, 2) := by decide +kernel
theorem dX8_advert_117 : decode YX8_advert.2.1 117 = .ok (.invokevirtual 251, 3) := by decide +kernel
theorem dX8_advert_120 : decode YX8_advert.2.1 120 = .ok (.ireturn, 1) := by decide +kernel
theorem dX8_advert_121 : decode YX8_advert.2.1 121 = .ok (.iload 4, 2) := by decide +kernel
theorem dX8_advert_123 : decode YX8_advert.2.1 123 = .ok (.bipush 30, 2) := by decide +kernel
theorem dX8_advert_125 : decode YX8_advert.2.1 125 = .ok (.if_icmp .lt 17, 3) := by decide +kernel
theorem dX8_advert_128 : decode YX8_advert.2.1 128 = .ok (.aload_n 0, 1) := by decide +kernel
theorem dX8_advert_129 : decode YX8_advert.2.1 129 = .ok (.getfield 42, 3) := by decide +kernel
theorem dX8_advert_132 : decode YX8_advert.2.1 132 = .ok (.iload 5, 2) := by decide +kernel
theorem dX8_advert_134 : decode YX8_advert.2.1 134 = .ok (.aaload, 1) := by decide +kernel
theorem dX8_advert_135 : decode YX8_advert.2.1 135 = .ok (.iload 4, 2) := by decide +kernel
theorem dX8_advert_137 : decode YX8_advert.2.1 137 = .ok (.bipush 30, 2) := by decide +kernel
theorem dX8_advert_139 : decode YX8_advert.2.1 139 = .ok (.isub, 1) := by decide +kernel
theorem dX8_advert_140 : decode YX8_advert.2.1 140 = .ok (.iaload, 1) := by decide +kernel
theorem dX8_advert_141 : decode YX8_advert.2.1 141 = .ok (.ireturn, 1) := by decide +kernel
theorem dX8_advert_142 : decode YX8_advert.2.1 142 = .ok (.aload_n 0, 1) := by decide +kernel
theorem dX8_advert_143 : decode YX8_advert.2.1 143 = .ok (.getfield 39, 3) := by decide +kernel
theorem dX8_advert_146 : decode YX8_advert.2.1 146 = .ok (.iload 5, 2) := by decide +kernel
theorem dX8_advert_148 : decode YX8_advert.2.1 148 = .ok (.aaload, 1) := by decide +kernel
theorem dX8_advert_149 : decode YX8_advert.2.1 149 = .ok (.iload 4, 2) := by decide +kernel
theorem dX8_advert_151 : decode YX8_advert.2.1 151 = .ok (.bipush 10, 2) := by decide +kernel
theorem dX8_advert_153 : decode YX8_advert.2.1 153 = .ok (.isub, 1) := by decide +kernel
theorem dX8_advert_154 : decode YX8_advert.2.1 154 = .ok (.iaload, 1) := by decide +kernel
theorem dX8_advert_155 : decode YX8_advert.2.1 155 = .ok (.ifCond .le 19, 3) := by decide +kernel
theorem dX8_advert_158 : decode YX8_advert.2.1 158 = .ok (.aload_n 0, 1) := by decide +kernel
theorem dX8_advert_159 : decode YX8_advert.2.1 159 = .ok (.getfield 39, 3) := by decide +kernel
theorem dX8_advert_162 : decode YX8_advert.2.1 162 = .ok (.iload 5, 2) := by decide +kernel
theorem dX8_advert_164 : decode YX8_advert.2.1 164 = .ok (.aaload, 1) := by decide +kernel
theorem dX8_advert_165 : decode YX8_advert.2.1 165 = .ok (.iload 4, 2) := by decide +kernel
theorem dX8_advert_167 : decode YX8_advert.2.1 167 = .ok (.bipush 10, 2) := by decide +kernel
theorem dX8_advert_169 : decode YX8_advert.2.1 169 = .ok (.isub, 1) := by decide +kernel
theorem dX8_advert_170 : decode YX8_advert.2.1 170 = .ok (.iaload, 1) := by decide +kernel
theorem dX8_advert_171 : decode YX8_advert.2.1 171 = .ok (.goto 4, 3) := by decide +kernel
theorem dX8_advert_174 : decode YX8_advert.2.1 174 = .ok (.iconst (-1), 1) := by decide +kernel
theorem dX8_advert_175 : decode YX8_advert.2.1 175 = .ok (.ireturn, 1) := by decide +kernel
theorem dX8_message_0 : decode YX8_message.2.1 0 = .ok (.iload_n 2, 1) := by decide +kernel
theorem dX8_message_1 : decode YX8_message.2.1 1 = .ok (.iconst 0, 1) := by decide +kernel
theorem dX8_message_2 : decode YX8_message.2.1 2 = .ok (.iconst 4, 1) := by decide +kernel
theorem dX8_message_3 : decode YX8_message.2.1 3 = .ok (.invokestatic 125, 3) := by decide +kernel
theorem dX8_message_6 : decode YX8_message.2.1 6 = .ok (.ifCond .ne 6, 3) := by decide +kernel
theorem dX8_message_9 : decode YX8_message.2.1 9 = .ok (.bipush (-2), 2) := by decide +kernel
theorem dX8_message_11 : decode YX8_message.2.1 11 = .ok (.ireturn, 1) := by decide +kernel
theorem dX8_message_12 : decode YX8_message.2.1 12 = .ok (.iload_n 1, 1) := by decide +kernel
theorem dX8_message_13 : decode YX8_message.2.1 13 = .ok (.iconst 0, 1) := by decide +kernel
theorem dX8_message_14 : decode YX8_message.2.1 14 = .ok (.aload_n 0, 1) := by decide +kernel
theorem dX8_message_15 : decode YX8_message.2.1 15 = .ok (.getfield 225, 3) := by decide +kernel
theorem dX8_message_18 : decode YX8_message.2.1 18 = .ok (.iconst 1, 1) := by decide +kernel
theorem dX8_message_19 : decode YX8_message.2.1 19 = .ok (.isub, 1) := by decide +kernel
theorem dX8_message_20 : decode YX8_message.2.1 20 = .ok (.invokestatic 125, 3) := by decide +kernel
theorem dX8_message_23 : decode YX8_message.2.1 23 = .ok (.ifCond .ne 6, 3) := by decide +kernel
theorem dX8_message_26 : decode YX8_message.2.1 26 = .ok (.bipush (-12), 2) := by decide +kernel
theorem dX8_message_28 : decode YX8_message.2.1 28 = .ok (.ireturn, 1) := by decide +kernel
theorem dX8_message_29 : decode YX8_message.2.1 29 = .ok (.iload_n 2, 1) := by decide +kernel
theorem dX8_message_30 : decode YX8_message.2.1 30 = .ok (.ifCond .ne 12, 3) := by decide +kernel
theorem dX8_message_33 : decode YX8_message.2.1 33 = .ok (.aload_n 0, 1) := by decide +kernel
theorem dX8_message_34 : decode YX8_message.2.1 34 = .ok (.getfield 45, 3) := by decide +kernel
theorem dX8_message_37 : decode YX8_message.2.1 37 = .ok (.iload_n 1, 1) := by decide +kernel
theorem dX8_message_38 : decode YX8_message.2.1 38 = .ok (.iaload, 1) := by decide +kernel
theorem dX8_message_39 : decode YX8_message.2.1 39 = .ok (.goto 51, 3) := by decide +kernel
theorem dX8_message_42 : decode YX8_message.2.1 42 = .ok (.iload_n 2, 1) := by decide +kernel
theorem dX8_message_43 : decode YX8_message.2.1 43 = .ok (.iconst 1, 1) := by decide +kernel
theorem dX8_message_44 : decode YX8_message.2.1 44 = .ok (.if_icmp .ne 12, 3) := by decide +kernel
theorem dX8_message_47 : decode YX8_message.2.1 47 = .ok (.aload_n 0, 1) := by decide +kernel
theorem dX8_message_48 : decode YX8_message.2.1 48 = .ok (.getfield 48, 3) := by decide +kernel
theorem dX8_message_51 : decode YX8_message.2.1 51 = .ok (.iload_n 1, 1) := by decide +kernel
theorem dX8_message_52 : decode YX8_message.2.1 52 = .ok (.iaload, 1) := by decide +kernel
theorem dX8_message_53 : decode YX8_message.2.1 53 = .ok (.goto 37, 3) := by decide +kernel
theorem dX8_message_56 : decode YX8_message.2.1 56 = .ok (.iload_n 2, 1) := by decide +kernel
theorem dX8_message_57 : decode YX8_message.2.1 57 = .ok (.iconst 2, 1) := by decide +kernel
theorem dX8_message_58 : decode YX8_message.2.1 58 = .ok (.if_icmp .ne 12, 3) := by decide +kernel
theorem dX8_message_61 : decode YX8_message.2.1 61 = .ok (.aload_n 0, 1) := by decide +kernel
theorem dX8_message_62 : decode YX8_message.2.1 62 = .ok (.getfield 51, 3) := by decide +kernel
theorem dX8_message_65 : decode YX8_message.2.1 65 = .ok (.iload_n 1, 1) := by decide +kernel
theorem dX8_message_66 : decode YX8_message.2.1 66 = .ok (.iaload, 1) := by decide +kernel
theorem dX8_message_67 : decode YX8_message.2.1 67 = .ok (.goto 23, 3) := by decide +kernel
theorem dX8_message_70 : decode YX8_message.2.1 70 = .ok (.iload_n 2, 1) := by decide +kernel
theorem dX8_message_71 : decode YX8_message.2.1 71 = .ok (.iconst 3, 1) := by decide +kernel
theorem dX8_message_72 : decode YX8_message.2.1 72 = .ok (.if_icmp .ne 12, 3) := by decide +kernel
theorem dX8_message_75 : decode YX8_message.2.1 75 = .ok (.aload_n 0, 1) := by decide +kernel
theorem dX8_message_76 : decode YX8_message.2.1 76 = .ok (.getfield 54, 3) := by decide +kernel
theorem dX8_message_79 : decode YX8_message.2.1 79 = .ok (.iload_n 1, 1) := by decide +kernel
theorem dX8_message_80 : decode YX8_message.2.1 80 = .ok (.iaload, 1) := by decide +kernel
theorem dX8_message_81 : decode YX8_message.2.1 81 = .ok (.goto 9, 3) := by decide +kernel
theorem dX8_message_84 : decode YX8_message.2.1 84 = .ok (.aload_n 0, 1) := by decide +kernel
theorem dX8_message_85 : decode YX8_message.2.1 85 = .ok (.getfield 57, 3) := by decide +kernel
theorem dX8_message_88 : decode YX8_message.2.1 88 = .ok (.iload_n 1, 1) := by decide +kernel
theorem dX8_message_89 : decode YX8_message.2.1 89 = .ok (.iaload, 1) := by decide +kernel
theorem dX8_message_90 : decode YX8_message.2.1 90 = .ok (.ireturn, 1) := by decide +kernel
theorem dX8_within_0 : decode YX8_within.2.1 0 = .ok (.iload_n 1, 1) := by decide +kernel
theorem dX8_within_1 : decode YX8_within.2.1 1 = .ok (.invokestatic 141, 3) := by decide +kernel
theorem dX8_within_4 : decode YX8_within.2.1 4 = .ok (.ifCond .eq 27, 3) := by decide +kernel
theorem dX8_within_7 : decode YX8_within.2.1 7 = .ok (.iload_n 2, 1) := by decide +kernel
theorem dX8_within_8 : decode YX8_within.2.1 8 = .ok (.invokestatic 141, 3) := by decide +kernel
theorem dX8_within_11 : decode YX8_within.2.1 11 = .ok (.ifCond .eq 20, 3) := by decide +kernel
theorem dX8_within_14 : decode YX8_within.2.1 14 = .ok (.iload_n 3, 1) := by decide +kernel
theorem dX8_within_15 : decode YX8_within.2.1 15 = .ok (.invokestatic 145, 3) := by decide +kernel
theorem dX8_within_18 : decode YX8_within.2.1 18 = .ok (.ifCond .eq 13, 3) := by decide +kernel
theorem dX8_within_21 : decode YX8_within.2.1 21 = .ok (.iload 4, 2) := by decide +kernel
theorem dX8_within_23 : decode YX8_within.2.1 23 = .ok (.iconst 0, 1) := by decide +kernel
theorem dX8_within_24 : decode YX8_within.2.1 24 = .ok (.iconst 1, 1) := by decide +kernel
theorem dX8_within_25 : decode YX8_within.2.1 25 = .ok (.invokestatic 125, 3) := by decide +kernel
theorem dX8_within_28 : decode YX8_within.2.1 28 = .ok (.ifCond .ne 6, 3) := by decide +kernel
theorem dX8_within_31 : decode YX8_within.2.1 31 = .ok (.bipush (-2), 2) := by decide +kernel
theorem dX8_within_33 : decode YX8_within.2.1 33 = .ok (.ireturn, 1) := by decide +kernel
theorem dX8_within_34 : decode YX8_within.2.1 34 = .ok (.aload_n 0, 1) := by decide +kernel
theorem dX8_within_35 : decode YX8_within.2.1 35 = .ok (.iload_n 1, 1) := by decide +kernel
theorem dX8_within_36 : decode YX8_within.2.1 36 = .ok (.iload_n 3, 1) := by decide +kernel
theorem dX8_within_37 : decode YX8_within.2.1 37 = .ok (.invokevirtual 195, 3) := by decide +kernel
theorem dX8_within_40 : decode YX8_within.2.1 40 = .ok (.iload 4, 2) := by decide +kernel
theorem dX8_within_42 : decode YX8_within.2.1 42 = .ok (.ifCond .ne 12, 3) := by decide +kernel
theorem dX8_within_45 : decode YX8_within.2.1 45 = .ok (.aload_n 0, 1) := by decide +kernel
theorem dX8_within_46 : decode YX8_within.2.1 46 = .ok (.getfield 69, 3) := by decide +kernel
theorem dX8_within_49 : decode YX8_within.2.1 49 = .ok (.iload_n 2, 1) := by decide +kernel
theorem dX8_within_50 : decode YX8_within.2.1 50 = .ok (.iaload, 1) := by decide +kernel
theorem dX8_within_51 : decode YX8_within.2.1 51 = .ok (.goto 9, 3) := by decide +kernel
theorem dX8_within_54 : decode YX8_within.2.1 54 = .ok (.aload_n 0, 1) := by decide +kernel
theorem dX8_within_55 : decode YX8_within.2.1 55 = .ok (.getfield 72, 3) := by decide +kernel
theorem dX8_within_58 : decode YX8_within.2.1 58 = .ok (.iload_n 2, 1) := by decide +kernel
theorem dX8_within_59 : decode YX8_within.2.1 59 = .ok (.iaload, 1) := by decide +kernel
theorem dX8_within_60 : decode YX8_within.2.1 60 = .ok (.ireturn, 1) := by decide +kernel
theorem dX8_costNow_0 : decode YX8_costNow.2.1 0 = .ok (.iload_n 1, 1) := by decide +kernel
theorem dX8_costNow_1 : decode YX8_costNow.2.1 1 = .ok (.iload_n 2, 1) := by decide +kernel
theorem dX8_costNow_2 : decode YX8_costNow.2.1 2 = .ok (.if_icmp .ne 5, 3) := by decide +kernel
theorem dX8_costNow_5 : decode YX8_costNow.2.1 5 = .ok (.iconst 0, 1) := by decide +kernel
theorem dX8_costNow_6 : decode YX8_costNow.2.1 6 = .ok (.ireturn, 1) := by decide +kernel
theorem dX8_costNow_7 : decode YX8_costNow.2.1 7 = .ok (.aload_n 0, 1) := by decide +kernel
theorem dX8_costNow_8 : decode YX8_costNow.2.1 8 = .ok (.iload_n 1, 1) := by decide +kernel
theorem dX8_costNow_9 : decode YX8_costNow.2.1 9 = .ok (.iload_n 2, 1) := by decide +kernel
theorem dX8_costNow_10 : decode YX8_costNow.2.1 10 = .ok (.invokevirtual 254, 3) := by decide +kernel
theorem dX8_costNow_13 : decode YX8_costNow.2.1 13 = .ok (.aload_n 0, 1) := by decide +kernel
theorem dX8_costNow_14 : decode YX8_costNow.2.1 14 = .ok (.getfield 183, 3) := by decide +kernel
theorem dX8_costNow_17 : decode YX8_costNow.2.1 17 = .ok (.sipush 9999, 3) := by decide +kernel
theorem dX8_costNow_20 : decode YX8_costNow.2.1 20 = .ok (.if_icmp .ge 10, 3) := by decide +kernel
theorem dX8_costNow_23 : decode YX8_costNow.2.1 23 = .ok (.aload_n 0, 1) := by decide +kernel
theorem dX8_costNow_24 : decode YX8_costNow.2.1 24 = .ok (.getfield 183, 3) := by decide +kernel
theorem dX8_costNow_27 : decode YX8_costNow.2.1 27 = .ok (.goto 4, 3) := by decide +kernel
theorem dX8_costNow_30 : decode YX8_costNow.2.1 30 = .ok (.iconst (-1), 1) := by decide +kernel
theorem dX8_costNow_31 : decode YX8_costNow.2.1 31 = .ok (.ireturn, 1) := by decide +kernel
theorem dX8_route_0 : decode YX8_route.2.1 0 = .ok (.iload_n 1, 1) := by decide +kernel
theorem dX8_route_1 : decode YX8_route.2.1 1 = .ok (.invokestatic 141, 3) := by decide +kernel
theorem dX8_route_4 : decode YX8_route.2.1 4 = .ok (.ifCond .eq 19, 3) := by decide +kernel
theorem dX8_route_7 : decode YX8_route.2.1 7 = .ok (.iload_n 2, 1) := by decide +kernel
theorem dX8_route_8 : decode YX8_route.2.1 8 = .ok (.invokestatic 141, 3) := by decide +kernel
theorem dX8_route_11 : decode YX8_route.2.1 11 = .ok (.ifCond .eq 12, 3) := by decide +kernel
theorem dX8_route_14 : decode YX8_route.2.1 14 = .ok (.iload_n 3, 1) := by decide +kernel
theorem dX8_route_15 : decode YX8_route.2.1 15 = .ok (.iconst 0, 1) := by decide +kernel
theorem dX8_route_16 : decode YX8_route.2.1 16 = .ok (.iconst 3, 1) := by decide +kernel
theorem dX8_route_17 : decode YX8_route.2.1 17 = .ok (.invokestatic 125, 3) := by decide +kernel
theorem dX8_route_20 : decode YX8_route.2.1 20 = .ok (.ifCond .ne 6, 3) := by decide +kernel
theorem dX8_route_23 : decode YX8_route.2.1 23 = .ok (.bipush (-2), 2) := by decide +kernel
theorem dX8_route_25 : decode YX8_route.2.1 25 = .ok (.ireturn, 1) := by decide +kernel
theorem dX8_route_26 : decode YX8_route.2.1 26 = .ok (.iload_n 1, 1) := by decide +kernel
theorem dX8_route_27 : decode YX8_route.2.1 27 = .ok (.iload_n 2, 1) := by decide +kernel
theorem dX8_route_28 : decode YX8_route.2.1 28 = .ok (.if_icmp .ne 13, 3) := by decide +kernel
theorem dX8_route_31 : decode YX8_route.2.1 31 = .ok (.iload_n 3, 1) := by decide +kernel
theorem dX8_route_32 : decode YX8_route.2.1 32 = .ok (.ifCond .ne 7, 3) := by decide +kernel
theorem dX8_route_35 : decode YX8_route.2.1 35 = .ok (.iconst 0, 1) := by decide +kernel
theorem dX8_route_36 : decode YX8_route.2.1 36 = .ok (.goto 4, 3) := by decide +kernel
theorem dX8_route_39 : decode YX8_route.2.1 39 = .ok (.iconst (-1), 1) := by decide +kernel
theorem dX8_route_40 : decode YX8_route.2.1 40 = .ok (.ireturn, 1) := by decide +kernel
theorem dX8_route_41 : decode YX8_route.2.1 41 = .ok (.aload_n 0, 1) := by decide +kernel
theorem dX8_route_42 : decode YX8_route.2.1 42 = .ok (.iload_n 1, 1) := by decide +kernel
theorem dX8_route_43 : decode YX8_route.2.1 43 = .ok (.iload_n 2, 1) := by decide +kernel
theorem dX8_route_44 : decode YX8_route.2.1 44 = .ok (.invokevirtual 254, 3) := by decide +kernel
theorem dX8_route_47 : decode YX8_route.2.1 47 = .ok (.aload_n 0, 1) := by decide +kernel
theorem dX8_route_48 : decode YX8_route.2.1 48 = .ok (.getfield 183, 3) := by decide +kernel
theorem dX8_route_51 : decode YX8_route.2.1 51 = .ok (.sipush 9999, 3) := by decide +kernel
theorem dX8_route_54 : decode YX8_route.2.1 54 = .ok (.if_icmp .lt 5, 3) := by decide +kernel
theorem dX8_route_57 : decode YX8_route.2.1 57 = .ok (.iconst (-1), 1) := by decide +kernel
theorem dX8_route_58 : decode YX8_route.2.1 58 = .ok (.ireturn, 1) := by decide +kernel
theorem dX8_route_59 : decode YX8_route.2.1 59 = .ok (.iload_n 3, 1) := by decide +kernel
theorem dX8_route_60 : decode YX8_route.2.1 60 = .ok (.ifCond .ne 10, 3) := by decide +kernel
theorem dX8_route_63 : decode YX8_route.2.1 63 = .ok (.aload_n 0, 1) := by decide +kernel
theorem dX8_route_64 : decode YX8_route.2.1 64 = .ok (.getfield 183, 3) := by decide +kernel
theorem dX8_route_67 : decode YX8_route.2.1 67 = .ok (.goto 31, 3) := by decide +kernel
theorem dX8_route_70 : decode YX8_route.2.1 70 = .ok (.iload_n 3, 1) := by decide +kernel
theorem dX8_route_71 : decode YX8_route.2.1 71 = .ok (.iconst 1, 1) := by decide +kernel
theorem dX8_route_72 : decode YX8_route.2.1 72 = .ok (.if_icmp .ne 10, 3) := by decide +kernel
theorem dX8_route_75 : decode YX8_route.2.1 75 = .ok (.aload_n 0, 1) := by decide +kernel
theorem dX8_route_76 : decode YX8_route.2.1 76 = .ok (.getfield 186, 3) := by decide +kernel
theorem dX8_route_79 : decode YX8_route.2.1 79 = .ok (.goto 19, 3) := by decide +kernel
theorem dX8_route_82 : decode YX8_route.2.1 82 = .ok (.iload_n 3, 1) := by decide +kernel
theorem dX8_route_83 : decode YX8_route.2.1 83 = .ok (.iconst 2, 1) := by decide +kernel
theorem dX8_route_84 : decode YX8_route.2.1 84 = .ok (.if_icmp .ne 10, 3) := by decide +kernel
theorem dX8_route_87 : decode YX8_route.2.1 87 = .ok (.aload_n 0, 1) := by decide +kernel
theorem dX8_route_88 : decode YX8_route.2.1 88 = .ok (.getfield 189, 3) := by decide +kernel
theorem dX8_route_91 : decode YX8_route.2.1 91 = .ok (.goto 7, 3) := by decide +kernel
theorem dX8_route_94 : decode YX8_route.2.1 94 = .ok (.aload_n 0, 1) := by decide +kernel
theorem dX8_route_95 : decode YX8_route.2.1 95 = .ok (.getfield 192, 3) := by decide +kernel
theorem dX8_route_98 : decode YX8_route.2.1 98 = .ok (.ireturn, 1) := by decide +kernel
theorem dX8_overLink_0 : decode YX8_overLink.2.1 0 = .ok (.iconst (-1), 1) := by decide +kernel
theorem dX8_overLink_1 : decode YX8_overLink.2.1 1 = .ok (.istore 4, 2) := by decide +kernel
theorem dX8_overLink_3 : decode YX8_overLink.2.1 3 = .ok (.iconst 0, 1) := by decide +kernel
theorem dX8_overLink_4 : decode YX8_overLink.2.1 4 = .ok (.istore 5, 2) := by decide +kernel
theorem dX8_overLink_6 : decode YX8_overLink.2.1 6 = .ok (.iload 5, 2) := by decide +kernel
theorem dX8_overLink_8 : decode YX8_overLink.2.1 8 = .ok (.aload_n 0, 1) := by decide +kernel
theorem dX8_overLink_9 : decode YX8_overLink.2.1 9 = .ok (.getfield 129, 3) := by decide +kernel
theorem dX8_overLink_12 : decode YX8_overLink.2.1 12 = .ok (.if_icmp .ge 79, 3) := by decide +kernel
theorem dX8_overLink_15 : decode YX8_overLink.2.1 15 = .ok (.aload_n 0, 1) := by decide +kernel
theorem dX8_overLink_16 : decode YX8_overLink.2.1 16 = .ok (.getfield 19, 3) := by decide +kernel
theorem dX8_overLink_19 : decode YX8_overLink.2.1 19 = .ok (.iload 5, 2) := by decide +kernel
theorem dX8_overLink_21 : decode YX8_overLink.2.1 21 = .ok (.iaload, 1) := by decide +kernel
theorem dX8_overLink_22 : decode YX8_overLink.2.1 22 = .ok (.iconst 1, 1) := by decide +kernel
theorem dX8_overLink_23 : decode YX8_overLink.2.1 23 = .ok (.if_icmp .ne 62, 3) := by decide +kernel
theorem dX8_overLink_26 : decode YX8_overLink.2.1 26 = .ok (.aload_n 0, 1) := by decide +kernel
theorem dX8_overLink_27 : decode YX8_overLink.2.1 27 = .ok (.getfield 16, 3) := by decide +kernel
theorem dX8_overLink_30 : decode YX8_overLink.2.1 30 = .ok (.iload 5, 2) := by decide +kernel
theorem dX8_overLink_32 : decode YX8_overLink.2.1 32 = .ok (.iaload, 1) := by decide +kernel
theorem dX8_overLink_33 : decode YX8_overLink.2.1 33 = .ok (.iload_n 3, 1) := by decide +kernel
theorem dX8_overLink_34 : decode YX8_overLink.2.1 34 = .ok (.if_icmp .ne 51, 3) := by decide +kernel
theorem dX8_overLink_37 : decode YX8_overLink.2.1 37 = .ok (.aload_n 0, 1) := by decide +kernel
theorem dX8_overLink_38 : decode YX8_overLink.2.1 38 = .ok (.iload 5, 2) := by decide +kernel
theorem dX8_overLink_40 : decode YX8_overLink.2.1 40 = .ok (.iload_n 1, 1) := by decide +kernel
theorem dX8_overLink_41 : decode YX8_overLink.2.1 41 = .ok (.invokevirtual 133, 3) := by decide +kernel
theorem dX8_overLink_44 : decode YX8_overLink.2.1 44 = .ok (.ifCond .eq 41, 3) := by decide +kernel
theorem dX8_overLink_47 : decode YX8_overLink.2.1 47 = .ok (.aload_n 0, 1) := by decide +kernel
theorem dX8_overLink_48 : decode YX8_overLink.2.1 48 = .ok (.iload 5, 2) := by decide +kernel
theorem dX8_overLink_50 : decode YX8_overLink.2.1 50 = .ok (.iload_n 1, 1) := by decide +kernel
theorem dX8_overLink_51 : decode YX8_overLink.2.1 51 = .ok (.invokevirtual 169, 3) := by decide +kernel
theorem dX8_overLink_54 : decode YX8_overLink.2.1 54 = .ok (.iload_n 2, 1) := by decide +kernel
theorem dX8_overLink_55 : decode YX8_overLink.2.1 55 = .ok (.if_icmp .ne 30, 3) := by decide +kernel
theorem dX8_overLink_58 : decode YX8_overLink.2.1 58 = .ok (.iload 4, 2) := by decide +kernel
theorem dX8_overLink_60 : decode YX8_overLink.2.1 60 = .ok (.iconst (-1), 1) := by decide +kernel
theorem dX8_overLink_61 : decode YX8_overLink.2.1 61 = .ok (.if_icmp .eq 20, 3) := by decide +kernel
theorem dX8_overLink_64 : decode YX8_overLink.2.1 64 = .ok (.aload_n 0, 1) := by decide +kernel
theorem dX8_overLink_65 : decode YX8_overLink.2.1 65 = .ok (.iload 5, 2) := by decide +kernel
theorem dX8_overLink_67 : decode YX8_overLink.2.1 67 = .ok (.iload_n 1, 1) := by decide +kernel
theorem dX8_overLink_68 : decode YX8_overLink.2.1 68 = .ok (.invokevirtual 151, 3) := by decide +kernel
theorem dX8_overLink_71 : decode YX8_overLink.2.1 71 = .ok (.aload_n 0, 1) := by decide +kernel
theorem dX8_overLink_72 : decode YX8_overLink.2.1 72 = .ok (.iload 4, 2) := by decide +kernel
theorem dX8_overLink_74 : decode YX8_overLink.2.1 74 = .ok (.iload_n 1, 1) := by decide +kernel
theorem dX8_overLink_75 : decode YX8_overLink.2.1 75 = .ok (.invokevirtual 151, 3) := by decide +kernel
theorem dX8_overLink_78 : decode YX8_overLink.2.1 78 = .ok (.if_icmp .ge 7, 3) := by decide +kernel
theorem dX8_overLink_81 : decode YX8_overLink.2.1 81 = .ok (.iload 5, 2) := by decide +kernel
theorem dX8_overLink_83 : decode YX8_overLink.2.1 83 = .ok (.istore 4, 2) := by decide +kernel
theorem dX8_overLink_85 : decode YX8_overLink.2.1 85 = .ok (.iinc 5 1, 3) := by decide +kernel
theorem dX8_overLink_88 : decode YX8_overLink.2.1 88 = .ok (.goto (-82), 3) := by decide +kernel
theorem dX8_overLink_91 : decode YX8_overLink.2.1 91 = .ok (.iload 4, 2) := by decide +kernel
theorem dX8_overLink_93 : decode YX8_overLink.2.1 93 = .ok (.ireturn, 1) := by decide +kernel
theorem dX8_packet_0 : decode YX8_packet.2.1 0 = .ok (.iload_n 1, 1) := by decide +kernel
theorem dX8_packet_1 : decode YX8_packet.2.1 1 = .ok (.invokestatic 141, 3) := by decide +kernel
theorem dX8_packet_4 : decode YX8_packet.2.1 4 = .ok (.ifCond .eq 30, 3) := by decide +kernel
theorem dX8_packet_7 : decode YX8_packet.2.1 7 = .ok (.iload_n 2, 1) := by decide +kernel
theorem dX8_packet_8 : decode YX8_packet.2.1 8 = .ok (.invokestatic 141, 3) := by decide +kernel
theorem dX8_packet_11 : decode YX8_packet.2.1 11 = .ok (.ifCond .eq 23, 3) := by decide +kernel
theorem dX8_packet_14 : decode YX8_packet.2.1 14 = .ok (.iload_n 3, 1) := by decide +kernel
theorem dX8_packet_15 : decode YX8_packet.2.1 15 = .ok (.iconst 0, 1) := by decide +kernel
theorem dX8_packet_16 : decode YX8_packet.2.1 16 = .ok (.iconst 2, 1) := by decide +kernel
theorem dX8_packet_17 : decode YX8_packet.2.1 17 = .ok (.invokestatic 125, 3) := by decide +kernel
theorem dX8_packet_20 : decode YX8_packet.2.1 20 = .ok (.ifCond .ne 17, 3) := by decide +kernel
theorem dX8_packet_23 : decode YX8_packet.2.1 23 = .ok (.iload_n 3, 1) := by decide +kernel
theorem dX8_packet_24 : decode YX8_packet.2.1 24 = .ok (.bipush 10, 2) := by decide +kernel
theorem dX8_packet_26 : decode YX8_packet.2.1 26 = .ok (.bipush 18, 2) := by decide +kernel
theorem dX8_packet_28 : decode YX8_packet.2.1 28 = .ok (.invokestatic 125, 3) := by decide +kernel
theorem dX8_packet_31 : decode YX8_packet.2.1 31 = .ok (.ifCond .ne 6, 3) := by decide +kernel
theorem dX8_packet_34 : decode YX8_packet.2.1 34 = .ok (.bipush (-2), 2) := by decide +kernel
theorem dX8_packet_36 : decode YX8_packet.2.1 36 = .ok (.ireturn, 1) := by decide +kernel
theorem dX8_packet_37 : decode YX8_packet.2.1 37 = .ok (.iload_n 1, 1) := by decide +kernel
theorem dX8_packet_38 : decode YX8_packet.2.1 38 = .ok (.istore 4, 2) := by decide +kernel
theorem dX8_packet_40 : decode YX8_packet.2.1 40 = .ok (.iconst 0, 1) := by decide +kernel
theorem dX8_packet_41 : decode YX8_packet.2.1 41 = .ok (.istore 5, 2) := by decide +kernel
theorem dX8_packet_43 : decode YX8_packet.2.1 43 = .ok (.iconst 0, 1) := by decide +kernel
theorem dX8_packet_44 : decode YX8_packet.2.1 44 = .ok (.istore 6, 2) := by decide +kernel
theorem dX8_packet_46 : decode YX8_packet.2.1 46 = .ok (.iconst 1, 1) := by decide +kernel
theorem dX8_packet_47 : decode YX8_packet.2.1 47 = .ok (.istore 7, 2) := by decide +kernel
theorem dX8_packet_49 : decode YX8_packet.2.1 49 = .ok (.iload 4, 2) := by decide +kernel
theorem dX8_packet_51 : decode YX8_packet.2.1 51 = .ok (.iload_n 2, 1) := by decide +kernel
theorem dX8_packet_52 : decode YX8_packet.2.1 52 = .ok (.if_icmp .eq 108, 3) := by decide +kernel
theorem dX8_packet_55 : decode YX8_packet.2.1 55 = .ok (.iload 7, 2) := by decide +kernel
theorem dX8_packet_57 : decode YX8_packet.2.1 57 = .ok (.iconst 1, 1) := by decide +kernel
theorem dX8_packet_58 : decode YX8_packet.2.1 58 = .ok (.if_icmp .ne 102, 3) := by decide +kernel
theorem dX8_packet_61 : decode YX8_packet.2.1 61 = .ok (.aload_n 0, 1) := by decide +kernel
theorem dX8_packet_62 : decode YX8_packet.2.1 62 = .ok (.iload 4, 2) := by decide +kernel
theorem dX8_packet_64 : decode YX8_packet.2.1 64 = .ok (.iload_n 2, 1) := by decide +kernel
theorem dX8_packet_65 : decode YX8_packet.2.1 65 = .ok (.invokevirtual 254, 3) := by decide +kernel
theorem dX8_packet_68 : decode YX8_packet.2.1 68 = .ok (.aload_n 0, 1) := by decide +kernel
theorem dX8_packet_69 : decode YX8_packet.2.1 69 = .ok (.getfield 183, 3) := by decide +kernel
theorem dX8_packet_72 : decode YX8_packet.2.1 72 = .ok (.sipush 9999, 3) := by decide +kernel
theorem dX8_packet_75 : decode YX8_packet.2.1 75 = .ok (.if_icmp .ge 20, 3) := by decide +kernel
theorem dX8_packet_78 : decode YX8_packet.2.1 78 = .ok (.aload_n 0, 1) := by decide +kernel
theorem dX8_packet_79 : decode YX8_packet.2.1 79 = .ok (.iload 4, 2) := by decide +kernel
theorem dX8_packet_81 : decode YX8_packet.2.1 81 = .ok (.aload_n 0, 1) := by decide +kernel
theorem dX8_packet_82 : decode YX8_packet.2.1 82 = .ok (.getfield 186, 3) := by decide +kernel
theorem dX8_packet_85 : decode YX8_packet.2.1 85 = .ok (.aload_n 0, 1) := by decide +kernel
theorem dX8_packet_86 : decode YX8_packet.2.1 86 = .ok (.getfield 189, 3) := by decide +kernel
theorem dX8_packet_89 : decode YX8_packet.2.1 89 = .ok (.invokevirtual 257, 3) := by decide +kernel
theorem dX8_packet_92 : decode YX8_packet.2.1 92 = .ok (.goto 4, 3) := by decide +kernel
theorem dX8_packet_95 : decode YX8_packet.2.1 95 = .ok (.iconst (-1), 1) := by decide +kernel
theorem dX8_packet_96 : decode YX8_packet.2.1 96 = .ok (.istore 8, 2) := by decide +kernel
theorem dX8_packet_98 : decode YX8_packet.2.1 98 = .ok (.iload 8, 2) := by decide +kernel
theorem dX8_packet_100 : decode YX8_packet.2.1 100 = .ok (.iconst (-1), 1) := by decide +kernel
theorem dX8_packet_101 : decode YX8_packet.2.1 101 = .ok (.if_icmp .ne 9, 3) := by decide +kernel
theorem dX8_packet_104 : decode YX8_packet.2.1 104 = .ok (.iconst 0, 1) := by decide +kernel
theorem dX8_packet_105 : decode YX8_packet.2.1 105 = .ok (.istore 7, 2) := by decide +kernel
theorem dX8_packet_107 : decode YX8_packet.2.1 107 = .ok (.goto 50, 3) := by decide +kernel
theorem dX8_packet_110 : decode YX8_packet.2.1 110 = .ok (.iload 6, 2) := by decide +kernel
theorem dX8_packet_112 : decode YX8_packet.2.1 112 = .ok (.aload_n 0, 1) := by decide +kernel
theorem dX8_packet_113 : decode YX8_packet.2.1 113 = .ok (.iload 8, 2) := by decide +kernel
theorem dX8_packet_115 : decode YX8_packet.2.1 115 = .ok (.iload 4, 2) := by decide +kernel
theorem dX8_packet_117 : decode YX8_packet.2.1 117 = .ok (.invokevirtual 151, 3) := by decide +kernel
theorem dX8_packet_120 : decode YX8_packet.2.1 120 = .ok (.iadd, 1) := by decide +kernel
theorem dX8_packet_121 : decode YX8_packet.2.1 121 = .ok (.istore 6, 2) := by decide +kernel
theorem dX8_packet_123 : decode YX8_packet.2.1 123 = .ok (.aload_n 0, 1) := by decide +kernel
theorem dX8_packet_124 : decode YX8_packet.2.1 124 = .ok (.getfield 186, 3) := by decide +kernel
theorem dX8_packet_127 : decode YX8_packet.2.1 127 = .ok (.istore 4, 2) := by decide +kernel
theorem dX8_packet_129 : decode YX8_packet.2.1 129 = .ok (.aload_n 0, 1) := by decide +kernel
theorem dX8_packet_130 : decode YX8_packet.2.1 130 = .ok (.getfield 81, 3) := by decide +kernel
theorem dX8_packet_133 : decode YX8_packet.2.1 133 = .ok (.iload 5, 2) := by decide +kernel
theorem dX8_packet_135 : decode YX8_packet.2.1 135 = .ok (.iload 4, 2) := by decide +kernel
theorem dX8_packet_137 : decode YX8_packet.2.1 137 = .ok (.iastore, 1) := by decide +kernel
theorem dX8_packet_138 : decode YX8_packet.2.1 138 = .ok (.iinc 5 1, 3) := by decide +kernel
theorem dX8_packet_141 : decode YX8_packet.2.1 141 = .ok (.iload 4, 2) := by decide +kernel
theorem dX8_packet_143 : decode YX8_packet.2.1 143 = .ok (.iload_n 2, 1) := by decide +kernel
theorem dX8_packet_144 : decode YX8_packet.2.1 144 = .ok (.if_icmp .eq 13, 3) := by decide +kernel
theorem dX8_packet_147 : decode YX8_packet.2.1 147 = .ok (.iload 5, 2) := by decide +kernel
theorem dX8_packet_149 : decode YX8_packet.2.1 149 = .ok (.bipush 9, 2) := by decide +kernel
theorem dX8_packet_151 : decode YX8_packet.2.1 151 = .ok (.if_icmp .ne 6, 3) := by decide +kernel
theorem dX8_packet_154 : decode YX8_packet.2.1 154 = .ok (.iconst 2, 1) := by decide +kernel
theorem dX8_packet_155 : decode YX8_packet.2.1 155 = .ok (.istore 7, 2) := by decide +kernel
theorem dX8_packet_157 : decode YX8_packet.2.1 157 = .ok (.goto (-108), 3) := by decide +kernel
theorem dX8_packet_160 : decode YX8_packet.2.1 160 = .ok (.iload_n 3, 1) := by decide +kernel
theorem dX8_packet_161 : decode YX8_packet.2.1 161 = .ok (.bipush 10, 2) := by decide +kernel
theorem dX8_packet_163 : decode YX8_packet.2.1 163 = .ok (.if_icmp .lt 26, 3) := by decide +kernel
theorem dX8_packet_166 : decode YX8_packet.2.1 166 = .ok (.iload_n 3, 1) := by decide +kernel
theorem dX8_packet_167 : decode YX8_packet.2.1 167 = .ok (.bipush 10, 2) := by decide +kernel
theorem dX8_packet_169 : decode YX8_packet.2.1 169 = .ok (.isub, 1) := by decide +kernel
theorem dX8_packet_170 : decode YX8_packet.2.1 170 = .ok (.iload 5, 2) := by decide +kernel
theorem dX8_packet_172 : decode YX8_packet.2.1 172 = .ok (.if_icmp .ge 15, 3) := by decide +kernel
theorem dX8_packet_175 : decode YX8_packet.2.1 175 = .ok (.aload_n 0, 1) := by decide +kernel
theorem dX8_packet_176 : decode YX8_packet.2.1 176 = .ok (.getfield 81, 3) := by decide +kernel
theorem dX8_packet_179 : decode YX8_packet.2.1 179 = .ok (.iload_n 3, 1) := by decide +kernel
theorem dX8_packet_180 : decode YX8_packet.2.1 180 = .ok (.bipush 10, 2) := by decide +kernel
theorem dX8_packet_182 : decode YX8_packet.2.1 182 = .ok (.isub, 1) := by decide +kernel
theorem dX8_packet_183 : decode YX8_packet.2.1 183 = .ok (.iaload, 1) := by decide +kernel
theorem dX8_packet_184 : decode YX8_packet.2.1 184 = .ok (.goto 4, 3) := by decide +kernel
theorem dX8_packet_187 : decode YX8_packet.2.1 187 = .ok (.iconst (-1), 1) := by decide +kernel
theorem dX8_packet_188 : decode YX8_packet.2.1 188 = .ok (.ireturn, 1) := by decide +kernel
theorem dX8_packet_189 : decode YX8_packet.2.1 189 = .ok (.iload_n 3, 1) := by decide +kernel
theorem dX8_packet_190 : decode YX8_packet.2.1 190 = .ok (.ifCond .ne 8, 3) := by decide +kernel
theorem dX8_packet_193 : decode YX8_packet.2.1 193 = .ok (.iload 7, 2) := by decide +kernel
theorem dX8_packet_195 : decode YX8_packet.2.1 195 = .ok (.goto 15, 3) := by decide +kernel
theorem dX8_packet_198 : decode YX8_packet.2.1 198 = .ok (.iload_n 3, 1) := by decide +kernel
theorem dX8_packet_199 : decode YX8_packet.2.1 199 = .ok (.iconst 1, 1) := by decide +kernel
theorem dX8_packet_200 : decode YX8_packet.2.1 200 = .ok (.if_icmp .ne 8, 3) := by decide +kernel
theorem dX8_packet_203 : decode YX8_packet.2.1 203 = .ok (.iload 5, 2) := by decide +kernel
theorem dX8_packet_205 : decode YX8_packet.2.1 205 = .ok (.goto 5, 3) := by decide +kernel
theorem dX8_packet_208 : decode YX8_packet.2.1 208 = .ok (.iload 6, 2) := by decide +kernel
theorem dX8_packet_210 : decode YX8_packet.2.1 210 = .ok (.ireturn, 1) := by decide +kernel
theorem dX8_trulyWithout_0 : decode YX8_trulyWithout.2.1 0 = .ok (.iconst 0, 1) := by decide +kernel
theorem dX8_trulyWithout_1 : decode YX8_trulyWithout.2.1 1 = .ok (.istore 4, 2) := by decide +kernel
theorem dX8_trulyWithout_3 : decode YX8_trulyWithout.2.1 3 = .ok (.iload 4, 2) := by decide +kernel
theorem dX8_trulyWithout_5 : decode YX8_trulyWithout.2.1 5 = .ok (.bipush 8, 2) := by decide +kernel
theorem dX8_trulyWithout_7 : decode YX8_trulyWithout.2.1 7 = .ok (.if_icmp .ge 29, 3) := by decide +kernel
theorem dX8_trulyWithout_10 : decode YX8_trulyWithout.2.1 10 = .ok (.aload_n 0, 1) := by decide +kernel
theorem dX8_trulyWithout_11 : decode YX8_trulyWithout.2.1 11 = .ok (.getfield 69, 3) := by decide +kernel
theorem dX8_trulyWithout_14 : decode YX8_trulyWithout.2.1 14 = .ok (.iload 4, 2) := by decide +kernel
theorem dX8_trulyWithout_16 : decode YX8_trulyWithout.2.1 16 = .ok (.iload 4, 2) := by decide +kernel
theorem dX8_trulyWithout_18 : decode YX8_trulyWithout.2.1 18 = .ok (.iload_n 1, 1) := by decide +kernel
theorem dX8_trulyWithout_19 : decode YX8_trulyWithout.2.1 19 = .ok (.if_icmp .ne 7, 3) := by decide +kernel
theorem dX8_trulyWithout_22 : decode YX8_trulyWithout.2.1 22 = .ok (.iconst 0, 1) := by decide +kernel
theorem dX8_trulyWithout_23 : decode YX8_trulyWithout.2.1 23 = .ok (.goto 6, 3) := by decide +kernel
theorem dX8_trulyWithout_26 : decode YX8_trulyWithout.2.1 26 = .ok (.sipush 9999, 3) := by decide +kernel
theorem dX8_trulyWithout_29 : decode YX8_trulyWithout.2.1 29 = .ok (.iastore, 1) := by decide +kernel
theorem dX8_trulyWithout_30 : decode YX8_trulyWithout.2.1 30 = .ok (.iinc 4 1, 3) := by decide +kernel
theorem dX8_trulyWithout_33 : decode YX8_trulyWithout.2.1 33 = .ok (.goto (-30), 3) := by decide +kernel
theorem dX8_trulyWithout_36 : decode YX8_trulyWithout.2.1 36 = .ok (.iconst 0, 1) := by decide +kernel
theorem dX8_trulyWithout_37 : decode YX8_trulyWithout.2.1 37 = .ok (.istore 4, 2) := by decide +kernel
theorem dX8_trulyWithout_39 : decode YX8_trulyWithout.2.1 39 = .ok (.iload 4, 2) := by decide +kernel
theorem dX8_trulyWithout_41 : decode YX8_trulyWithout.2.1 41 = .ok (.bipush 8, 2) := by decide +kernel
theorem dX8_trulyWithout_43 : decode YX8_trulyWithout.2.1 43 = .ok (.if_icmp .ge 146, 3) := by decide +kernel
theorem dX8_trulyWithout_46 : decode YX8_trulyWithout.2.1 46 = .ok (.iconst 0, 1) := by decide +kernel
theorem dX8_trulyWithout_47 : decode YX8_trulyWithout.2.1 47 = .ok (.istore 5, 2) := by decide +kernel
theorem dX8_trulyWithout_49 : decode YX8_trulyWithout.2.1 49 = .ok (.iload 5, 2) := by decide +kernel
theorem dX8_trulyWithout_51 : decode YX8_trulyWithout.2.1 51 = .ok (.aload_n 0, 1) := by decide +kernel
theorem dX8_trulyWithout_52 : decode YX8_trulyWithout.2.1 52 = .ok (.getfield 129, 3) := by decide +kernel
theorem dX8_trulyWithout_55 : decode YX8_trulyWithout.2.1 55 = .ok (.if_icmp .ge 128, 3) := by decide +kernel
theorem dX8_trulyWithout_58 : decode YX8_trulyWithout.2.1 58 = .ok (.aload_n 0, 1) := by decide +kernel
theorem dX8_trulyWithout_59 : decode YX8_trulyWithout.2.1 59 = .ok (.getfield 19, 3) := by decide +kernel
theorem dX8_trulyWithout_62 : decode YX8_trulyWithout.2.1 62 = .ok (.iload 5, 2) := by decide +kernel
theorem dX8_trulyWithout_64 : decode YX8_trulyWithout.2.1 64 = .ok (.iaload, 1) := by decide +kernel
theorem dX8_trulyWithout_65 : decode YX8_trulyWithout.2.1 65 = .ok (.ifCond .eq 112, 3) := by decide +kernel
theorem dX8_trulyWithout_68 : decode YX8_trulyWithout.2.1 68 = .ok (.iload 5, 2) := by decide +kernel
theorem dX8_trulyWithout_70 : decode YX8_trulyWithout.2.1 70 = .ok (.iload_n 3, 1) := by decide +kernel
theorem dX8_trulyWithout_71 : decode YX8_trulyWithout.2.1 71 = .ok (.if_icmp .ne 6, 3) := by decide +kernel
theorem dX8_trulyWithout_74 : decode YX8_trulyWithout.2.1 74 = .ok (.goto 103, 3) := by decide +kernel
theorem dX8_trulyWithout_77 : decode YX8_trulyWithout.2.1 77 = .ok (.aload_n 0, 1) := by decide +kernel
theorem dX8_trulyWithout_78 : decode YX8_trulyWithout.2.1 78 = .ok (.getfield 69, 3) := by decide +kernel
theorem dX8_trulyWithout_81 : decode YX8_trulyWithout.2.1 81 = .ok (.aload_n 0, 1) := by decide +kernel
theorem dX8_trulyWithout_82 : decode YX8_trulyWithout.2.1 82 = .ok (.getfield 13, 3) := by decide +kernel
theorem dX8_trulyWithout_85 : decode YX8_trulyWithout.2.1 85 = .ok (.iload 5, 2) := by decide +kernel
theorem dX8_trulyWithout_87 : decode YX8_trulyWithout.2.1 87 = .ok (.iaload, 1) := by decide +kernel
theorem dX8_trulyWithout_88 : decode YX8_trulyWithout.2.1 88 = .ok (.aload_n 0, 1) := by decide +kernel
theorem dX8_trulyWithout_89 : decode YX8_trulyWithout.2.1 89 = .ok (.getfield 69, 3) := by decide +kernel
theorem dX8_trulyWithout_92 : decode YX8_trulyWithout.2.1 92 = .ok (.aload_n 0, 1) := by decide +kernel
theorem dX8_trulyWithout_93 : decode YX8_trulyWithout.2.1 93 = .ok (.getfield 13, 3) := by decide +kernel
theorem dX8_trulyWithout_96 : decode YX8_trulyWithout.2.1 96 = .ok (.iload 5, 2) := by decide +kernel
theorem dX8_trulyWithout_98 : decode YX8_trulyWithout.2.1 98 = .ok (.iaload, 1) := by decide +kernel
theorem dX8_trulyWithout_99 : decode YX8_trulyWithout.2.1 99 = .ok (.iaload, 1) := by decide +kernel
theorem dX8_trulyWithout_100 : decode YX8_trulyWithout.2.1 100 = .ok (.aload_n 0, 1) := by decide +kernel
theorem dX8_trulyWithout_101 : decode YX8_trulyWithout.2.1 101 = .ok (.getfield 69, 3) := by decide +kernel
theorem dX8_trulyWithout_104 : decode YX8_trulyWithout.2.1 104 = .ok (.aload_n 0, 1) := by decide +kernel
theorem dX8_trulyWithout_105 : decode YX8_trulyWithout.2.1 105 = .ok (.getfield 9, 3) := by decide +kernel
theorem dX8_trulyWithout_108 : decode YX8_trulyWithout.2.1 108 = .ok (.iload 5, 2) := by decide +kernel
theorem dX8_trulyWithout_110 : decode YX8_trulyWithout.2.1 110 = .ok (.iaload, 1) := by decide +kernel
theorem dX8_trulyWithout_111 : decode YX8_trulyWithout.2.1 111 = .ok (.iaload, 1) := by decide +kernel
theorem dX8_trulyWithout_112 : decode YX8_trulyWithout.2.1 112 = .ok (.aload_n 0, 1) := by decide +kernel
theorem dX8_trulyWithout_113 : decode YX8_trulyWithout.2.1 113 = .ok (.getfield 22, 3) := by decide +kernel
theorem dX8_trulyWithout_116 : decode YX8_trulyWithout.2.1 116 = .ok (.iconst 2, 1) := by decide +kernel
theorem dX8_trulyWithout_117 : decode YX8_trulyWithout.2.1 117 = .ok (.iload 5, 2) := by decide +kernel
theorem dX8_trulyWithout_119 : decode YX8_trulyWithout.2.1 119 = .ok (.imul, 1) := by decide +kernel
theorem dX8_trulyWithout_120 : decode YX8_trulyWithout.2.1 120 = .ok (.iaload, 1) := by decide +kernel
theorem dX8_trulyWithout_121 : decode YX8_trulyWithout.2.1 121 = .ok (.iadd, 1) := by decide +kernel
theorem dX8_trulyWithout_122 : decode YX8_trulyWithout.2.1 122 = .ok (.invokestatic 208, 3) := by decide +kernel
theorem dX8_trulyWithout_125 : decode YX8_trulyWithout.2.1 125 = .ok (.iastore, 1) := by decide +kernel
theorem dX8_trulyWithout_126 : decode YX8_trulyWithout.2.1 126 = .ok (.aload_n 0, 1) := by decide +kernel
theorem dX8_trulyWithout_127 : decode YX8_trulyWithout.2.1 127 = .ok (.getfield 69, 3) := by decide +kernel
theorem dX8_trulyWithout_130 : decode YX8_trulyWithout.2.1 130 = .ok (.aload_n 0, 1) := by decide +kernel
theorem dX8_trulyWithout_131 : decode YX8_trulyWithout.2.1 131 = .ok (.getfield 9, 3) := by decide +kernel
theorem dX8_trulyWithout_134 : decode YX8_trulyWithout.2.1 134 = .ok (.iload 5, 2) := by decide +kernel
theorem dX8_trulyWithout_136 : decode YX8_trulyWithout.2.1 136 = .ok (.iaload, 1) := by decide +kernel
theorem dX8_trulyWithout_137 : decode YX8_trulyWithout.2.1 137 = .ok (.aload_n 0, 1) := by decide +kernel
theorem dX8_trulyWithout_138 : decode YX8_trulyWithout.2.1 138 = .ok (.getfield 69, 3) := by decide +kernel
theorem dX8_trulyWithout_141 : decode YX8_trulyWithout.2.1 141 = .ok (.aload_n 0, 1) := by decide +kernel
theorem dX8_trulyWithout_142 : decode YX8_trulyWithout.2.1 142 = .ok (.getfield 9, 3) := by decide +kernel
theorem dX8_trulyWithout_145 : decode YX8_trulyWithout.2.1 145 = .ok (.iload 5, 2) := by decide +kernel
theorem dX8_trulyWithout_147 : decode YX8_trulyWithout.2.1 147 = .ok (.iaload, 1) := by decide +kernel
theorem dX8_trulyWithout_148 : decode YX8_trulyWithout.2.1 148 = .ok (.iaload, 1) := by decide +kernel
theorem dX8_trulyWithout_149 : decode YX8_trulyWithout.2.1 149 = .ok (.aload_n 0, 1) := by decide +kernel
theorem dX8_trulyWithout_150 : decode YX8_trulyWithout.2.1 150 = .ok (.getfield 69, 3) := by decide +kernel
theorem dX8_trulyWithout_153 : decode YX8_trulyWithout.2.1 153 = .ok (.aload_n 0, 1) := by decide +kernel
theorem dX8_trulyWithout_154 : decode YX8_trulyWithout.2.1 154 = .ok (.getfield 13, 3) := by decide +kernel
theorem dX8_trulyWithout_157 : decode YX8_trulyWithout.2.1 157 = .ok (.iload 5, 2) := by decide +kernel
theorem dX8_trulyWithout_159 : decode YX8_trulyWithout.2.1 159 = .ok (.iaload, 1) := by decide +kernel
theorem dX8_trulyWithout_160 : decode YX8_trulyWithout.2.1 160 = .ok (.iaload, 1) := by decide +kernel
theorem dX8_trulyWithout_161 : decode YX8_trulyWithout.2.1 161 = .ok (.aload_n 0, 1) := by decide +kernel
theorem dX8_trulyWithout_162 : decode YX8_trulyWithout.2.1 162 = .ok (.getfield 22, 3) := by decide +kernel
theorem dX8_trulyWithout_165 : decode YX8_trulyWithout.2.1 165 = .ok (.iconst 2, 1) := by decide +kernel
theorem dX8_trulyWithout_166 : decode YX8_trulyWithout.2.1 166 = .ok (.iload 5, 2) := by decide +kernel
theorem dX8_trulyWithout_168 : decode YX8_trulyWithout.2.1 168 = .ok (.imul, 1) := by decide +kernel
theorem dX8_trulyWithout_169 : decode YX8_trulyWithout.2.1 169 = .ok (.iconst 1, 1) := by decide +kernel
theorem dX8_trulyWithout_170 : decode YX8_trulyWithout.2.1 170 = .ok (.iadd, 1) := by decide +kernel
theorem dX8_trulyWithout_171 : decode YX8_trulyWithout.2.1 171 = .ok (.iaload, 1) := by decide +kernel
theorem dX8_trulyWithout_172 : decode YX8_trulyWithout.2.1 172 = .ok (.iadd, 1) := by decide +kernel
theorem dX8_trulyWithout_173 : decode YX8_trulyWithout.2.1 173 = .ok (.invokestatic 208, 3) := by decide +kernel
theorem dX8_trulyWithout_176 : decode YX8_trulyWithout.2.1 176 = .ok (.iastore, 1) := by decide +kernel
theorem dX8_trulyWithout_177 : decode YX8_trulyWithout.2.1 177 = .ok (.iinc 5 1, 3) := by decide +kernel
theorem dX8_trulyWithout_180 : decode YX8_trulyWithout.2.1 180 = .ok (.goto (-131), 3) := by decide +kernel
theorem dX8_trulyWithout_183 : decode YX8_trulyWithout.2.1 183 = .ok (.iinc 4 1, 3) := by decide +kernel
theorem dX8_trulyWithout_186 : decode YX8_trulyWithout.2.1 186 = .ok (.goto (-147), 3) := by decide +kernel
theorem dX8_trulyWithout_189 : decode YX8_trulyWithout.2.1 189 = .ok (.sipush 9999, 3) := by decide +kernel
theorem dX8_trulyWithout_192 : decode YX8_trulyWithout.2.1 192 = .ok (.aload_n 0, 1) := by decide +kernel
theorem dX8_trulyWithout_193 : decode YX8_trulyWithout.2.1 193 = .ok (.getfield 69, 3) := by decide +kernel
theorem dX8_trulyWithout_196 : decode YX8_trulyWithout.2.1 196 = .ok (.iload_n 2, 1) := by decide +kernel
theorem dX8_trulyWithout_197 : decode YX8_trulyWithout.2.1 197 = .ok (.iaload, 1) := by decide +kernel
theorem dX8_trulyWithout_198 : decode YX8_trulyWithout.2.1 198 = .ok (.invokestatic 208, 3) := by decide +kernel
theorem dX8_trulyWithout_201 : decode YX8_trulyWithout.2.1 201 = .ok (.ireturn, 1) := by decide +kernel
theorem dX8_truly_0 : decode YX8_truly.2.1 0 = .ok (.iload_n 1, 1) := by decide +kernel
theorem dX8_truly_1 : decode YX8_truly.2.1 1 = .ok (.invokestatic 141, 3) := by decide +kernel
theorem dX8_truly_4 : decode YX8_truly.2.1 4 = .ok (.ifCond .eq 20, 3) := by decide +kernel
theorem dX8_truly_7 : decode YX8_truly.2.1 7 = .ok (.iload_n 2, 1) := by decide +kernel
theorem dX8_truly_8 : decode YX8_truly.2.1 8 = .ok (.invokestatic 141, 3) := by decide +kernel
theorem dX8_truly_11 : decode YX8_truly.2.1 11 = .ok (.ifCond .eq 13, 3) := by decide +kernel
theorem dX8_truly_14 : decode YX8_truly.2.1 14 = .ok (.aload_n 0, 1) := by decide +kernel
theorem dX8_truly_15 : decode YX8_truly.2.1 15 = .ok (.iload_n 1, 1) := by decide +kernel
theorem dX8_truly_16 : decode YX8_truly.2.1 16 = .ok (.iload_n 2, 1) := by decide +kernel
theorem dX8_truly_17 : decode YX8_truly.2.1 17 = .ok (.iconst (-1), 1) := by decide +kernel
theorem dX8_truly_18 : decode YX8_truly.2.1 18 = .ok (.invokevirtual 260, 3) := by decide +kernel
theorem dX8_truly_21 : decode YX8_truly.2.1 21 = .ok (.goto 5, 3) := by decide +kernel
theorem dX8_truly_24 : decode YX8_truly.2.1 24 = .ok (.bipush (-2), 2) := by decide +kernel
theorem dX8_truly_26 : decode YX8_truly.2.1 26 = .ok (.ireturn, 1) := by decide +kernel
theorem dX8_cuts_0 : decode YX8_cuts.2.1 0 = .ok (.iload_n 1, 1) := by decide +kernel
theorem dX8_cuts_1 : decode YX8_cuts.2.1 1 = .ok (.invokestatic 141, 3) := by decide +kernel
theorem dX8_cuts_4 : decode YX8_cuts.2.1 4 = .ok (.ifCond .eq 10, 3) := by decide +kernel
theorem dX8_cuts_7 : decode YX8_cuts.2.1 7 = .ok (.iload_n 2, 1) := by decide +kernel
theorem dX8_cuts_8 : decode YX8_cuts.2.1 8 = .ok (.invokestatic 141, 3) := by decide +kernel
theorem dX8_cuts_11 : decode YX8_cuts.2.1 11 = .ok (.ifCond .ne 6, 3) := by decide +kernel
theorem dX8_cuts_14 : decode YX8_cuts.2.1 14 = .ok (.bipush (-2), 2) := by decide +kernel
theorem dX8_cuts_16 : decode YX8_cuts.2.1 16 = .ok (.ireturn, 1) := by decide +kernel
theorem dX8_cuts_17 : decode YX8_cuts.2.1 17 = .ok (.iconst 0, 1) := by decide +kernel
theorem dX8_cuts_18 : decode YX8_cuts.2.1 18 = .ok (.istore_n 3, 1) := by decide +kernel
theorem dX8_cuts_19 : decode YX8_cuts.2.1 19 = .ok (.aload_n 0, 1) := by decide +kernel
theorem dX8_cuts_20 : decode YX8_cuts.2.1 20 = .ok (.iload_n 1, 1) := by decide +kernel
theorem dX8_cuts_21 : decode YX8_cuts.2.1 21 = .ok (.iload_n 2, 1) := by decide +kernel
theorem dX8_cuts_22 : decode YX8_cuts.2.1 22 = .ok (.iconst (-1), 1) := by decide +kernel
theorem dX8_cuts_23 : decode YX8_cuts.2.1 23 = .ok (.invokevirtual 260, 3) := by decide +kernel
theorem dX8_cuts_26 : decode YX8_cuts.2.1 26 = .ok (.sipush 9999, 3) := by decide +kernel
theorem dX8_cuts_29 : decode YX8_cuts.2.1 29 = .ok (.if_icmp .ne 5, 3) := by decide +kernel
theorem dX8_cuts_32 : decode YX8_cuts.2.1 32 = .ok (.iconst 0, 1) := by decide +kernel
theorem dX8_cuts_33 : decode YX8_cuts.2.1 33 = .ok (.ireturn, 1) := by decide +kernel
theorem dX8_cuts_34 : decode YX8_cuts.2.1 34 = .ok (.iconst 0, 1) := by decide +kernel
theorem dX8_cuts_35 : decode YX8_cuts.2.1 35 = .ok (.istore 4, 2) := by decide +kernel
theorem dX8_cuts_37 : decode YX8_cuts.2.1 37 = .ok (.iload 4, 2) := by decide +kernel
theorem dX8_cuts_39 : decode YX8_cuts.2.1 39 = .ok (.aload_n 0, 1) := by decide +kernel
theorem dX8_cuts_40 : decode YX8_cuts.2.1 40 = .ok (.getfield 129, 3) := by decide +kernel
theorem dX8_cuts_43 : decode YX8_cuts.2.1 43 = .ok (.if_icmp .ge 41, 3) := by decide +kernel
theorem dX8_cuts_46 : decode YX8_cuts.2.1 46 = .ok (.aload_n 0, 1) := by decide +kernel
theorem dX8_cuts_47 : decode YX8_cuts.2.1 47 = .ok (.getfield 19, 3) := by decide +kernel
theorem dX8_cuts_50 : decode YX8_cuts.2.1 50 = .ok (.iload 4, 2) := by decide +kernel
theorem dX8_cuts_52 : decode YX8_cuts.2.1 52 = .ok (.iaload, 1) := by decide +kernel
theorem dX8_cuts_53 : decode YX8_cuts.2.1 53 = .ok (.iconst 1, 1) := by decide +kernel
theorem dX8_cuts_54 : decode YX8_cuts.2.1 54 = .ok (.if_icmp .ne 24, 3) := by decide +kernel
theorem dX8_cuts_57 : decode YX8_cuts.2.1 57 = .ok (.aload_n 0, 1) := by decide +kernel
theorem dX8_cuts_58 : decode YX8_cuts.2.1 58 = .ok (.iload_n 1, 1) := by decide +kernel
theorem dX8_cuts_59 : decode YX8_cuts.2.1 59 = .ok (.iload_n 2, 1) := by decide +kernel
theorem dX8_cuts_60 : decode YX8_cuts.2.1 60 = .ok (.iload 4, 2) := by decide +kernel
theorem dX8_cuts_62 : decode YX8_cuts.2.1 62 = .ok (.invokevirtual 260, 3) := by decide +kernel
theorem dX8_cuts_65 : decode YX8_cuts.2.1 65 = .ok (.sipush 9999, 3) := by decide +kernel
theorem dX8_cuts_68 : decode YX8_cuts.2.1 68 = .ok (.if_icmp .ne 10, 3) := by decide +kernel
theorem dX8_cuts_71 : decode YX8_cuts.2.1 71 = .ok (.iload_n 3, 1) := by decide +kernel
theorem dX8_cuts_72 : decode YX8_cuts.2.1 72 = .ok (.iconst 1, 1) := by decide +kernel
theorem dX8_cuts_73 : decode YX8_cuts.2.1 73 = .ok (.iload 4, 2) := by decide +kernel
theorem dX8_cuts_75 : decode YX8_cuts.2.1 75 = .ok (.ishl, 1) := by decide +kernel
theorem dX8_cuts_76 : decode YX8_cuts.2.1 76 = .ok (.ior, 1) := by decide +kernel
theorem dX8_cuts_77 : decode YX8_cuts.2.1 77 = .ok (.istore_n 3, 1) := by decide +kernel
theorem dX8_cuts_78 : decode YX8_cuts.2.1 78 = .ok (.iinc 4 1, 3) := by decide +kernel
theorem dX8_cuts_81 : decode YX8_cuts.2.1 81 = .ok (.goto (-44), 3) := by decide +kernel
theorem dX8_cuts_84 : decode YX8_cuts.2.1 84 = .ok (.iload_n 3, 1) := by decide +kernel
theorem dX8_cuts_85 : decode YX8_cuts.2.1 85 = .ok (.ireturn, 1) := by decide +kernel
theorem dX8_linkRow_0 : decode YX8_linkRow.2.1 0 = .ok (.iload_n 1, 1) := by decide +kernel
theorem dX8_linkRow_1 : decode YX8_linkRow.2.1 1 = .ok (.ifCond .ne 10, 3) := by decide +kernel
theorem dX8_linkRow_4 : decode YX8_linkRow.2.1 4 = .ok (.aload_n 0, 1) := by decide +kernel
theorem dX8_linkRow_5 : decode YX8_linkRow.2.1 5 = .ok (.getfield 9, 3) := by decide +kernel
theorem dX8_linkRow_8 : decode YX8_linkRow.2.1 8 = .ok (.goto 31, 3) := by decide +kernel
theorem dX8_linkRow_11 : decode YX8_linkRow.2.1 11 = .ok (.iload_n 1, 1) := by decide +kernel
theorem dX8_linkRow_12 : decode YX8_linkRow.2.1 12 = .ok (.iconst 1, 1) := by decide +kernel
theorem dX8_linkRow_13 : decode YX8_linkRow.2.1 13 = .ok (.if_icmp .ne 10, 3) := by decide +kernel
theorem dX8_linkRow_16 : decode YX8_linkRow.2.1 16 = .ok (.aload_n 0, 1) := by decide +kernel
theorem dX8_linkRow_17 : decode YX8_linkRow.2.1 17 = .ok (.getfield 13, 3) := by decide +kernel
theorem dX8_linkRow_20 : decode YX8_linkRow.2.1 20 = .ok (.goto 19, 3) := by decide +kernel
theorem dX8_linkRow_23 : decode YX8_linkRow.2.1 23 = .ok (.iload_n 1, 1) := by decide +kernel
theorem dX8_linkRow_24 : decode YX8_linkRow.2.1 24 = .ok (.iconst 2, 1) := by decide +kernel
theorem dX8_linkRow_25 : decode YX8_linkRow.2.1 25 = .ok (.if_icmp .ne 10, 3) := by decide +kernel
theorem dX8_linkRow_28 : decode YX8_linkRow.2.1 28 = .ok (.aload_n 0, 1) := by decide +kernel
theorem dX8_linkRow_29 : decode YX8_linkRow.2.1 29 = .ok (.getfield 16, 3) := by decide +kernel
theorem dX8_linkRow_32 : decode YX8_linkRow.2.1 32 = .ok (.goto 7, 3) := by decide +kernel
theorem dX8_linkRow_35 : decode YX8_linkRow.2.1 35 = .ok (.aload_n 0, 1) := by decide +kernel
theorem dX8_linkRow_36 : decode YX8_linkRow.2.1 36 = .ok (.getfield 19, 3) := by decide +kernel
theorem dX8_linkRow_39 : decode YX8_linkRow.2.1 39 = .ok (.areturn, 1) := by decide +kernel
theorem dX8_knownRow_0 : decode YX8_knownRow.2.1 0 = .ok (.iload_n 1, 1) := by decide +kernel
theorem dX8_knownRow_1 : decode YX8_knownRow.2.1 1 = .ok (.ifCond .ne 10, 3) := by decide +kernel
theorem dX8_knownRow_4 : decode YX8_knownRow.2.1 4 = .ok (.aload_n 0, 1) := by decide +kernel
theorem dX8_knownRow_5 : decode YX8_knownRow.2.1 5 = .ok (.getfield 25, 3) := by decide +kernel
theorem dX8_knownRow_8 : decode YX8_knownRow.2.1 8 = .ok (.goto 31, 3) := by decide +kernel
theorem dX8_knownRow_11 : decode YX8_knownRow.2.1 11 = .ok (.iload_n 1, 1) := by decide +kernel
theorem dX8_knownRow_12 : decode YX8_knownRow.2.1 12 = .ok (.iconst 1, 1) := by decide +kernel
theorem dX8_knownRow_13 : decode YX8_knownRow.2.1 13 = .ok (.if_icmp .ne 10, 3) := by decide +kernel
theorem dX8_knownRow_16 : decode YX8_knownRow.2.1 16 = .ok (.aload_n 0, 1) := by decide +kernel
theorem dX8_knownRow_17 : decode YX8_knownRow.2.1 17 = .ok (.getfield 28, 3) := by decide +kernel
theorem dX8_knownRow_20 : decode YX8_knownRow.2.1 20 = .ok (.goto 19, 3) := by decide +kernel
theorem dX8_knownRow_23 : decode YX8_knownRow.2.1 23 = .ok (.iload_n 1, 1) := by decide +kernel
theorem dX8_knownRow_24 : decode YX8_knownRow.2.1 24 = .ok (.iconst 2, 1) := by decide +kernel
theorem dX8_knownRow_25 : decode YX8_knownRow.2.1 25 = .ok (.if_icmp .ne 10, 3) := by decide +kernel
theorem dX8_knownRow_28 : decode YX8_knownRow.2.1 28 = .ok (.aload_n 0, 1) := by decide +kernel
theorem dX8_knownRow_29 : decode YX8_knownRow.2.1 29 = .ok (.getfield 31, 3) := by decide +kernel
theorem dX8_knownRow_32 : decode YX8_knownRow.2.1 32 = .ok (.goto 7, 3) := by decide +kernel
theorem dX8_knownRow_35 : decode YX8_knownRow.2.1 35 = .ok (.aload_n 0, 1) := by decide +kernel
theorem dX8_knownRow_36 : decode YX8_knownRow.2.1 36 = .ok (.getfield 34, 3) := by decide +kernel
theorem dX8_knownRow_39 : decode YX8_knownRow.2.1 39 = .ok (.areturn, 1) := by decide +kernel
theorem dX8_waitingRow_0 : decode YX8_waitingRow.2.1 0 = .ok (.iload_n 1, 1) := by decide +kernel
theorem dX8_waitingRow_1 : decode YX8_waitingRow.2.1 1 = .ok (.ifCond .ne 10, 3) := by decide +kernel
theorem dX8_waitingRow_4 : decode YX8_waitingRow.2.1 4 = .ok (.aload_n 0, 1) := by decide +kernel
theorem dX8_waitingRow_5 : decode YX8_waitingRow.2.1 5 = .ok (.getfield 45, 3) := by decide +kernel
theorem dX8_waitingRow_8 : decode YX8_waitingRow.2.1 8 = .ok (.goto 55, 3) := by decide +kernel
theorem dX8_waitingRow_11 : decode YX8_waitingRow.2.1 11 = .ok (.iload_n 1, 1) := by decide +kernel
theorem dX8_waitingRow_12 : decode YX8_waitingRow.2.1 12 = .ok (.iconst 1, 1) := by decide +kernel
theorem dX8_waitingRow_13 : decode YX8_waitingRow.2.1 13 = .ok (.if_icmp .ne 10, 3) := by decide +kernel
theorem dX8_waitingRow_16 : decode YX8_waitingRow.2.1 16 = .ok (.aload_n 0, 1) := by decide +kernel
theorem dX8_waitingRow_17 : decode YX8_waitingRow.2.1 17 = .ok (.getfield 48, 3) := by decide +kernel
theorem dX8_waitingRow_20 : decode YX8_waitingRow.2.1 20 = .ok (.goto 43, 3) := by decide +kernel
theorem dX8_waitingRow_23 : decode YX8_waitingRow.2.1 23 = .ok (.iload_n 1, 1) := by decide +kernel
theorem dX8_waitingRow_24 : decode YX8_waitingRow.2.1 24 = .ok (.iconst 2, 1) := by decide +kernel
theorem dX8_waitingRow_25 : decode YX8_waitingRow.2.1 25 = .ok (.if_icmp .ne 10, 3) := by decide +kernel
theorem dX8_waitingRow_28 : decode YX8_waitingRow.2.1 28 = .ok (.aload_n 0, 1) := by decide +kernel
theorem dX8_waitingRow_29 : decode YX8_waitingRow.2.1 29 = .ok (.getfield 51, 3) := by decide +kernel
theorem dX8_waitingRow_32 : decode YX8_waitingRow.2.1 32 = .ok (.goto 31, 3) := by decide +kernel
theorem dX8_waitingRow_35 : decode YX8_waitingRow.2.1 35 = .ok (.iload_n 1, 1) := by decide +kernel
theorem dX8_waitingRow_36 : decode YX8_waitingRow.2.1 36 = .ok (.iconst 3, 1) := by decide +kernel
theorem dX8_waitingRow_37 : decode YX8_waitingRow.2.1 37 = .ok (.if_icmp .ne 10, 3) := by decide +kernel
theorem dX8_waitingRow_40 : decode YX8_waitingRow.2.1 40 = .ok (.aload_n 0, 1) := by decide +kernel
theorem dX8_waitingRow_41 : decode YX8_waitingRow.2.1 41 = .ok (.getfield 54, 3) := by decide +kernel
theorem dX8_waitingRow_44 : decode YX8_waitingRow.2.1 44 = .ok (.goto 19, 3) := by decide +kernel
theorem dX8_waitingRow_47 : decode YX8_waitingRow.2.1 47 = .ok (.iload_n 1, 1) := by decide +kernel
theorem dX8_waitingRow_48 : decode YX8_waitingRow.2.1 48 = .ok (.iconst 4, 1) := by decide +kernel
theorem dX8_waitingRow_49 : decode YX8_waitingRow.2.1 49 = .ok (.if_icmp .ne 10, 3) := by decide +kernel
theorem dX8_waitingRow_52 : decode YX8_waitingRow.2.1 52 = .ok (.aload_n 0, 1) := by decide +kernel
theorem dX8_waitingRow_53 : decode YX8_waitingRow.2.1 53 = .ok (.getfield 57, 3) := by decide +kernel
theorem dX8_waitingRow_56 : decode YX8_waitingRow.2.1 56 = .ok (.goto 7, 3) := by decide +kernel
theorem dX8_waitingRow_59 : decode YX8_waitingRow.2.1 59 = .ok (.aload_n 0, 1) := by decide +kernel
theorem dX8_waitingRow_60 : decode YX8_waitingRow.2.1 60 = .ok (.getfield 60, 3) := by decide +kernel
theorem dX8_waitingRow_63 : decode YX8_waitingRow.2.1 63 = .ok (.areturn, 1) := by decide +kernel
theorem dX8_keep_0 : decode YX8_keep.2.1 0 = .ok (.aload_n 0, 1) := by decide +kernel
theorem dX8_keep_1 : decode YX8_keep.2.1 1 = .ok (.getfield 84, 3) := by decide +kernel
theorem dX8_keep_4 : decode YX8_keep.2.1 4 = .ok (.iload_n 1, 1) := by decide +kernel
theorem dX8_keep_5 : decode YX8_keep.2.1 5 = .ok (.aaload, 1) := by decide +kernel
theorem dX8_keep_6 : decode YX8_keep.2.1 6 = .ok (.iconst 0, 1) := by decide +kernel
theorem dX8_keep_7 : decode YX8_keep.2.1 7 = .ok (.aload_n 0, 1) := by decide +kernel
theorem dX8_keep_8 : decode YX8_keep.2.1 8 = .ok (.getfield 129, 3) := by decide +kernel
theorem dX8_keep_11 : decode YX8_keep.2.1 11 = .ok (.iastore, 1) := by decide +kernel
theorem dX8_keep_12 : decode YX8_keep.2.1 12 = .ok (.aload_n 0, 1) := by decide +kernel
theorem dX8_keep_13 : decode YX8_keep.2.1 13 = .ok (.getfield 84, 3) := by decide +kernel
theorem dX8_keep_16 : decode YX8_keep.2.1 16 = .ok (.iload_n 1, 1) := by decide +kernel
theorem dX8_keep_17 : decode YX8_keep.2.1 17 = .ok (.aaload, 1) := by decide +kernel
theorem dX8_keep_18 : decode YX8_keep.2.1 18 = .ok (.iconst 1, 1) := by decide +kernel
theorem dX8_keep_19 : decode YX8_keep.2.1 19 = .ok (.aload_n 0, 1) := by decide +kernel
theorem dX8_keep_20 : decode YX8_keep.2.1 20 = .ok (.getfield 225, 3) := by decide +kernel
theorem dX8_keep_23 : decode YX8_keep.2.1 23 = .ok (.iastore, 1) := by decide +kernel
theorem dX8_keep_24 : decode YX8_keep.2.1 24 = .ok (.aload_n 0, 1) := by decide +kernel
theorem dX8_keep_25 : decode YX8_keep.2.1 25 = .ok (.getfield 84, 3) := by decide +kernel
theorem dX8_keep_28 : decode YX8_keep.2.1 28 = .ok (.iload_n 1, 1) := by decide +kernel
theorem dX8_keep_29 : decode YX8_keep.2.1 29 = .ok (.aaload, 1) := by decide +kernel
theorem dX8_keep_30 : decode YX8_keep.2.1 30 = .ok (.iconst 2, 1) := by decide +kernel
theorem dX8_keep_31 : decode YX8_keep.2.1 31 = .ok (.aload_n 0, 1) := by decide +kernel
theorem dX8_keep_32 : decode YX8_keep.2.1 32 = .ok (.getfield 241, 3) := by decide +kernel
theorem dX8_keep_35 : decode YX8_keep.2.1 35 = .ok (.iastore, 1) := by decide +kernel
theorem dX8_keep_36 : decode YX8_keep.2.1 36 = .ok (.aload_n 0, 1) := by decide +kernel
theorem dX8_keep_37 : decode YX8_keep.2.1 37 = .ok (.getfield 84, 3) := by decide +kernel
theorem dX8_keep_40 : decode YX8_keep.2.1 40 = .ok (.iload_n 1, 1) := by decide +kernel
theorem dX8_keep_41 : decode YX8_keep.2.1 41 = .ok (.aaload, 1) := by decide +kernel
theorem dX8_keep_42 : decode YX8_keep.2.1 42 = .ok (.iconst 3, 1) := by decide +kernel
theorem dX8_keep_43 : decode YX8_keep.2.1 43 = .ok (.aload_n 0, 1) := by decide +kernel
theorem dX8_keep_44 : decode YX8_keep.2.1 44 = .ok (.getfield 244, 3) := by decide +kernel
theorem dX8_keep_47 : decode YX8_keep.2.1 47 = .ok (.iastore, 1) := by decide +kernel
theorem dX8_keep_48 : decode YX8_keep.2.1 48 = .ok (.iconst 0, 1) := by decide +kernel
theorem dX8_keep_49 : decode YX8_keep.2.1 49 = .ok (.istore_n 2, 1) := by decide +kernel
theorem dX8_keep_50 : decode YX8_keep.2.1 50 = .ok (.iload_n 2, 1) := by decide +kernel
theorem dX8_keep_51 : decode YX8_keep.2.1 51 = .ok (.iconst 4, 1) := by decide +kernel
theorem dX8_keep_52 : decode YX8_keep.2.1 52 = .ok (.if_icmp .ge 31, 3) := by decide +kernel
theorem dX8_keep_55 : decode YX8_keep.2.1 55 = .ok (.aload_n 0, 1) := by decide +kernel
theorem dX8_keep_56 : decode YX8_keep.2.1 56 = .ok (.iload_n 2, 1) := by decide +kernel
theorem dX8_keep_57 : decode YX8_keep.2.1 57 = .ok (.invokevirtual 263, 3) := by decide +kernel
theorem dX8_keep_60 : decode YX8_keep.2.1 60 = .ok (.iconst 0, 1) := by decide +kernel
theorem dX8_keep_61 : decode YX8_keep.2.1 61 = .ok (.aload_n 0, 1) := by decide +kernel
theorem dX8_keep_62 : decode YX8_keep.2.1 62 = .ok (.getfield 87, 3) := by decide +kernel
theorem dX8_keep_65 : decode YX8_keep.2.1 65 = .ok (.iconst 4, 1) := by decide +kernel
theorem dX8_keep_66 : decode YX8_keep.2.1 66 = .ok (.iload_n 1, 1) := by decide +kernel
theorem dX8_keep_67 : decode YX8_keep.2.1 67 = .ok (.imul, 1) := by decide +kernel
theorem dX8_keep_68 : decode YX8_keep.2.1 68 = .ok (.iload_n 2, 1) := by decide +kernel
theorem dX8_keep_69 : decode YX8_keep.2.1 69 = .ok (.iadd, 1) := by decide +kernel
theorem dX8_keep_70 : decode YX8_keep.2.1 70 = .ok (.aaload, 1) := by decide +kernel
theorem dX8_keep_71 : decode YX8_keep.2.1 71 = .ok (.iconst 0, 1) := by decide +kernel
theorem dX8_keep_72 : decode YX8_keep.2.1 72 = .ok (.bipush 12, 2) := by decide +kernel
theorem dX8_keep_74 : decode YX8_keep.2.1 74 = .ok (.invokestatic 213, 3) := by decide +kernel
theorem dX8_keep_77 : decode YX8_keep.2.1 77 = .ok (.iinc 2 1, 3) := by decide +kernel
theorem dX8_keep_80 : decode YX8_keep.2.1 80 = .ok (.goto (-30), 3) := by decide +kernel
theorem dX8_keep_83 : decode YX8_keep.2.1 83 = .ok (.aload_n 0, 1) := by decide +kernel
theorem dX8_keep_84 : decode YX8_keep.2.1 84 = .ok (.getfield 22, 3) := by decide +kernel
theorem dX8_keep_87 : decode YX8_keep.2.1 87 = .ok (.iconst 0, 1) := by decide +kernel
theorem dX8_keep_88 : decode YX8_keep.2.1 88 = .ok (.aload_n 0, 1) := by decide +kernel
theorem dX8_keep_89 : decode YX8_keep.2.1 89 = .ok (.getfield 110, 3) := by decide +kernel
theorem dX8_keep_92 : decode YX8_keep.2.1 92 = .ok (.iload_n 1, 1) := by decide +kernel
theorem dX8_keep_93 : decode YX8_keep.2.1 93 = .ok (.aaload, 1) := by decide +kernel
theorem dX8_keep_94 : decode YX8_keep.2.1 94 = .ok (.iconst 0, 1) := by decide +kernel
theorem dX8_keep_95 : decode YX8_keep.2.1 95 = .ok (.bipush 24, 2) := by decide +kernel
theorem dX8_keep_97 : decode YX8_keep.2.1 97 = .ok (.invokestatic 213, 3) := by decide +kernel
theorem dX8_keep_100 : decode YX8_keep.2.1 100 = .ok (.iconst 0, 1) := by decide +kernel
theorem dX8_keep_101 : decode YX8_keep.2.1 101 = .ok (.istore_n 2, 1) := by decide +kernel
theorem dX8_keep_102 : decode YX8_keep.2.1 102 = .ok (.iload_n 2, 1) := by decide +kernel
theorem dX8_keep_103 : decode YX8_keep.2.1 103 = .ok (.iconst 4, 1) := by decide +kernel
theorem dX8_keep_104 : decode YX8_keep.2.1 104 = .ok (.if_icmp .ge 32, 3) := by decide +kernel
theorem dX8_keep_107 : decode YX8_keep.2.1 107 = .ok (.aload_n 0, 1) := by decide +kernel
theorem dX8_keep_108 : decode YX8_keep.2.1 108 = .ok (.iload_n 2, 1) := by decide +kernel
theorem dX8_keep_109 : decode YX8_keep.2.1 109 = .ok (.invokevirtual 267, 3) := by decide +kernel
theorem dX8_keep_112 : decode YX8_keep.2.1 112 = .ok (.iconst 0, 1) := by decide +kernel
theorem dX8_keep_113 : decode YX8_keep.2.1 113 = .ok (.aload_n 0, 1) := by decide +kernel
theorem dX8_keep_114 : decode YX8_keep.2.1 114 = .ok (.getfield 90, 3) := by decide +kernel
theorem dX8_keep_117 : decode YX8_keep.2.1 117 = .ok (.iconst 4, 1) := by decide +kernel
theorem dX8_keep_118 : decode YX8_keep.2.1 118 = .ok (.iload_n 1, 1) := by decide +kernel
theorem dX8_keep_119 : decode YX8_keep.2.1 119 = .ok (.imul, 1) := by decide +kernel
theorem dX8_keep_120 : decode YX8_keep.2.1 120 = .ok (.iload_n 2, 1) := by decide +kernel
theorem dX8_keep_121 : decode YX8_keep.2.1 121 = .ok (.iadd, 1) := by decide +kernel
theorem dX8_keep_122 : decode YX8_keep.2.1 122 = .ok (.aaload, 1) := by decide +kernel
theorem dX8_keep_123 : decode YX8_keep.2.1 123 = .ok (.iconst 0, 1) := by decide +kernel
theorem dX8_keep_124 : decode YX8_keep.2.1 124 = .ok (.sipush 192, 3) := by decide +kernel
theorem dX8_keep_127 : decode YX8_keep.2.1 127 = .ok (.invokestatic 213, 3) := by decide +kernel
theorem dX8_keep_130 : decode YX8_keep.2.1 130 = .ok (.iinc 2 1, 3) := by decide +kernel
theorem dX8_keep_133 : decode YX8_keep.2.1 133 = .ok (.goto (-31), 3) := by decide +kernel
theorem dX8_keep_136 : decode YX8_keep.2.1 136 = .ok (.iconst 0, 1) := by decide +kernel
theorem dX8_keep_137 : decode YX8_keep.2.1 137 = .ok (.istore_n 2, 1) := by decide +kernel
theorem dX8_keep_138 : decode YX8_keep.2.1 138 = .ok (.iload_n 2, 1) := by decide +kernel
theorem dX8_keep_139 : decode YX8_keep.2.1 139 = .ok (.bipush 6, 2) := by decide +kernel
theorem dX8_keep_141 : decode YX8_keep.2.1 141 = .ok (.if_icmp .ge 34, 3) := by decide +kernel
theorem dX8_keep_144 : decode YX8_keep.2.1 144 = .ok (.aload_n 0, 1) := by decide +kernel
theorem dX8_keep_145 : decode YX8_keep.2.1 145 = .ok (.iload_n 2, 1) := by decide +kernel
theorem dX8_keep_146 : decode YX8_keep.2.1 146 = .ok (.invokevirtual 270, 3) := by decide +kernel
theorem dX8_keep_149 : decode YX8_keep.2.1 149 = .ok (.iconst 0, 1) := by decide +kernel
theorem dX8_keep_150 : decode YX8_keep.2.1 150 = .ok (.aload_n 0, 1) := by decide +kernel
theorem dX8_keep_151 : decode YX8_keep.2.1 151 = .ok (.getfield 93, 3) := by decide +kernel
theorem dX8_keep_154 : decode YX8_keep.2.1 154 = .ok (.bipush 6, 2) := by decide +kernel
theorem dX8_keep_156 : decode YX8_keep.2.1 156 = .ok (.iload_n 1, 1) := by decide +kernel
theorem dX8_keep_157 : decode YX8_keep.2.1 157 = .ok (.imul, 1) := by decide +kernel
theorem dX8_keep_158 : decode YX8_keep.2.1 158 = .ok (.iload_n 2, 1) := by decide +kernel
theorem dX8_keep_159 : decode YX8_keep.2.1 159 = .ok (.iadd, 1) := by decide +kernel
theorem dX8_keep_160 : decode YX8_keep.2.1 160 = .ok (.aaload, 1) := by decide +kernel
theorem dX8_keep_161 : decode YX8_keep.2.1 161 = .ok (.iconst 0, 1) := by decide +kernel
theorem dX8_keep_162 : decode YX8_keep.2.1 162 = .ok (.aload_n 0, 1) := by decide +kernel
theorem dX8_keep_163 : decode YX8_keep.2.1 163 = .ok (.getfield 225, 3) := by decide +kernel
theorem dX8_keep_166 : decode YX8_keep.2.1 166 = .ok (.invokestatic 213, 3) := by decide +kernel
theorem dX8_keep_169 : decode YX8_keep.2.1 169 = .ok (.iinc 2 1, 3) := by decide +kernel
theorem dX8_keep_172 : decode YX8_keep.2.1 172 = .ok (.goto (-34), 3) := by decide +kernel
theorem dX8_keep_175 : decode YX8_keep.2.1 175 = .ok (.iconst 0, 1) := by decide +kernel
theorem dX8_keep_176 : decode YX8_keep.2.1 176 = .ok (.istore_n 2, 1) := by decide +kernel
theorem dX8_keep_177 : decode YX8_keep.2.1 177 = .ok (.iload_n 2, 1) := by decide +kernel
theorem dX8_keep_178 : decode YX8_keep.2.1 178 = .ok (.sipush 192, 3) := by decide +kernel
theorem dX8_keep_181 : decode YX8_keep.2.1 181 = .ok (.if_icmp .ge 30, 3) := by decide +kernel
theorem dX8_keep_184 : decode YX8_keep.2.1 184 = .ok (.aload_n 0, 1) := by decide +kernel
theorem dX8_keep_185 : decode YX8_keep.2.1 185 = .ok (.getfield 39, 3) := by decide +kernel
theorem dX8_keep_188 : decode YX8_keep.2.1 188 = .ok (.iload_n 2, 1) := by decide +kernel
theorem dX8_keep_189 : decode YX8_keep.2.1 189 = .ok (.aaload, 1) := by decide +kernel
theorem dX8_keep_190 : decode YX8_keep.2.1 190 = .ok (.iconst 0, 1) := by decide +kernel
theorem dX8_keep_191 : decode YX8_keep.2.1 191 = .ok (.aload_n 0, 1) := by decide +kernel
theorem dX8_keep_192 : decode YX8_keep.2.1 192 = .ok (.getfield 98, 3) := by decide +kernel
theorem dX8_keep_195 : decode YX8_keep.2.1 195 = .ok (.iload_n 1, 1) := by decide +kernel
theorem dX8_keep_196 : decode YX8_keep.2.1 196 = .ok (.aaload, 1) := by decide +kernel
theorem dX8_keep_197 : decode YX8_keep.2.1 197 = .ok (.iload_n 2, 1) := by decide +kernel
theorem dX8_keep_198 : decode YX8_keep.2.1 198 = .ok (.aaload, 1) := by decide +kernel
theorem dX8_keep_199 : decode YX8_keep.2.1 199 = .ok (.iconst 0, 1) := by decide +kernel
theorem dX8_keep_200 : decode YX8_keep.2.1 200 = .ok (.bipush 12, 2) := by decide +kernel
theorem dX8_keep_202 : decode YX8_keep.2.1 202 = .ok (.invokestatic 213, 3) := by decide +kernel
theorem dX8_keep_205 : decode YX8_keep.2.1 205 = .ok (.iinc 2 1, 3) := by decide +kernel
theorem dX8_keep_208 : decode YX8_keep.2.1 208 = .ok (.goto (-31), 3) := by decide +kernel
theorem dX8_keep_211 : decode YX8_keep.2.1 211 = .ok (.iconst 0, 1) := by decide +kernel
theorem dX8_keep_212 : decode YX8_keep.2.1 212 = .ok (.istore_n 2, 1) := by decide +kernel
theorem dX8_keep_213 : decode YX8_keep.2.1 213 = .ok (.iload_n 2, 1) := by decide +kernel
theorem dX8_keep_214 : decode YX8_keep.2.1 214 = .ok (.sipush 192, 3) := by decide +kernel
theorem dX8_keep_217 : decode YX8_keep.2.1 217 = .ok (.if_icmp .ge 30, 3) := by decide +kernel
theorem dX8_keep_220 : decode YX8_keep.2.1 220 = .ok (.aload_n 0, 1) := by decide +kernel
theorem dX8_keep_221 : decode YX8_keep.2.1 221 = .ok (.getfield 42, 3) := by decide +kernel
theorem dX8_keep_224 : decode YX8_keep.2.1 224 = .ok (.iload_n 2, 1) := by decide +kernel
theorem dX8_keep_225 : decode YX8_keep.2.1 225 = .ok (.aaload, 1) := by decide +kernel
theorem dX8_keep_226 : decode YX8_keep.2.1 226 = .ok (.iconst 0, 1) := by decide +kernel
theorem dX8_keep_227 : decode YX8_keep.2.1 227 = .ok (.aload_n 0, 1) := by decide +kernel
theorem dX8_keep_228 : decode YX8_keep.2.1 228 = .ok (.getfield 101, 3) := by decide +kernel
theorem dX8_keep_231 : decode YX8_keep.2.1 231 = .ok (.iload_n 1, 1) := by decide +kernel
theorem dX8_keep_232 : decode YX8_keep.2.1 232 = .ok (.aaload, 1) := by decide +kernel
theorem dX8_keep_233 : decode YX8_keep.2.1 233 = .ok (.iload_n 2, 1) := by decide +kernel
theorem dX8_keep_234 : decode YX8_keep.2.1 234 = .ok (.aaload, 1) := by decide +kernel
theorem dX8_keep_235 : decode YX8_keep.2.1 235 = .ok (.iconst 0, 1) := by decide +kernel
theorem dX8_keep_236 : decode YX8_keep.2.1 236 = .ok (.bipush 8, 2) := by decide +kernel
theorem dX8_keep_238 : decode YX8_keep.2.1 238 = .ok (.invokestatic 213, 3) := by decide +kernel
theorem dX8_keep_241 : decode YX8_keep.2.1 241 = .ok (.iinc 2 1, 3) := by decide +kernel
theorem dX8_keep_244 : decode YX8_keep.2.1 244 = .ok (.goto (-31), 3) := by decide +kernel
theorem dX8_keep_247 : decode YX8_keep.2.1 247 = .ok (.iconst 0, 1) := by decide +kernel
theorem dX8_keep_248 : decode YX8_keep.2.1 248 = .ok (.istore_n 2, 1) := by decide +kernel
theorem dX8_keep_249 : decode YX8_keep.2.1 249 = .ok (.iload_n 2, 1) := by decide +kernel
theorem dX8_keep_250 : decode YX8_keep.2.1 250 = .ok (.aload_n 0, 1) := by decide +kernel
theorem dX8_keep_251 : decode YX8_keep.2.1 251 = .ok (.getfield 225, 3) := by decide +kernel
theorem dX8_keep_254 : decode YX8_keep.2.1 254 = .ok (.if_icmp .ge 30, 3) := by decide +kernel
theorem dX8_keep_257 : decode YX8_keep.2.1 257 = .ok (.aload_n 0, 1) := by decide +kernel
theorem dX8_keep_258 : decode YX8_keep.2.1 258 = .ok (.getfield 63, 3) := by decide +kernel
theorem dX8_keep_261 : decode YX8_keep.2.1 261 = .ok (.iload_n 2, 1) := by decide +kernel
theorem dX8_keep_262 : decode YX8_keep.2.1 262 = .ok (.aaload, 1) := by decide +kernel
theorem dX8_keep_263 : decode YX8_keep.2.1 263 = .ok (.iconst 0, 1) := by decide +kernel
theorem dX8_keep_264 : decode YX8_keep.2.1 264 = .ok (.aload_n 0, 1) := by decide +kernel
theorem dX8_keep_265 : decode YX8_keep.2.1 265 = .ok (.getfield 104, 3) := by decide +kernel
theorem dX8_keep_268 : decode YX8_keep.2.1 268 = .ok (.iload_n 1, 1) := by decide +kernel
theorem dX8_keep_269 : decode YX8_keep.2.1 269 = .ok (.aaload, 1) := by decide +kernel
theorem dX8_keep_270 : decode YX8_keep.2.1 270 = .ok (.iload_n 2, 1) := by decide +kernel
theorem dX8_keep_271 : decode YX8_keep.2.1 271 = .ok (.aaload, 1) := by decide +kernel
theorem dX8_keep_272 : decode YX8_keep.2.1 272 = .ok (.iconst 0, 1) := by decide +kernel
theorem dX8_keep_273 : decode YX8_keep.2.1 273 = .ok (.bipush 12, 2) := by decide +kernel
theorem dX8_keep_275 : decode YX8_keep.2.1 275 = .ok (.invokestatic 213, 3) := by decide +kernel
theorem dX8_keep_278 : decode YX8_keep.2.1 278 = .ok (.iinc 2 1, 3) := by decide +kernel
theorem dX8_keep_281 : decode YX8_keep.2.1 281 = .ok (.goto (-32), 3) := by decide +kernel
theorem dX8_keep_284 : decode YX8_keep.2.1 284 = .ok (.iconst 0, 1) := by decide +kernel
theorem dX8_keep_285 : decode YX8_keep.2.1 285 = .ok (.istore_n 2, 1) := by decide +kernel
theorem dX8_keep_286 : decode YX8_keep.2.1 286 = .ok (.iload_n 2, 1) := by decide +kernel
theorem dX8_keep_287 : decode YX8_keep.2.1 287 = .ok (.aload_n 0, 1) := by decide +kernel
theorem dX8_keep_288 : decode YX8_keep.2.1 288 = .ok (.getfield 225, 3) := by decide +kernel
theorem dX8_keep_291 : decode YX8_keep.2.1 291 = .ok (.if_icmp .ge 30, 3) := by decide +kernel
theorem dX8_keep_294 : decode YX8_keep.2.1 294 = .ok (.aload_n 0, 1) := by decide +kernel
theorem dX8_keep_295 : decode YX8_keep.2.1 295 = .ok (.getfield 66, 3) := by decide +kernel
theorem dX8_keep_298 : decode YX8_keep.2.1 298 = .ok (.iload_n 2, 1) := by decide +kernel
theorem dX8_keep_299 : decode YX8_keep.2.1 299 = .ok (.aaload, 1) := by decide +kernel
theorem dX8_keep_300 : decode YX8_keep.2.1 300 = .ok (.iconst 0, 1) := by decide +kernel
theorem dX8_keep_301 : decode YX8_keep.2.1 301 = .ok (.aload_n 0, 1) := by decide +kernel
theorem dX8_keep_302 : decode YX8_keep.2.1 302 = .ok (.getfield 107, 3) := by decide +kernel
theorem dX8_keep_305 : decode YX8_keep.2.1 305 = .ok (.iload_n 1, 1) := by decide +kernel
theorem dX8_keep_306 : decode YX8_keep.2.1 306 = .ok (.aaload, 1) := by decide +kernel
theorem dX8_keep_307 : decode YX8_keep.2.1 307 = .ok (.iload_n 2, 1) := by decide +kernel
theorem dX8_keep_308 : decode YX8_keep.2.1 308 = .ok (.aaload, 1) := by decide +kernel
theorem dX8_keep_309 : decode YX8_keep.2.1 309 = .ok (.iconst 0, 1) := by decide +kernel
theorem dX8_keep_310 : decode YX8_keep.2.1 310 = .ok (.bipush 8, 2) := by decide +kernel
theorem dX8_keep_312 : decode YX8_keep.2.1 312 = .ok (.invokestatic 213, 3) := by decide +kernel
theorem dX8_keep_315 : decode YX8_keep.2.1 315 = .ok (.iinc 2 1, 3) := by decide +kernel
theorem dX8_keep_318 : decode YX8_keep.2.1 318 = .ok (.goto (-32), 3) := by decide +kernel
theorem dX8_keep_321 : decode YX8_keep.2.1 321 = .ok (.return_, 1) := by decide +kernel
theorem dX8_layBack_0 : decode YX8_layBack.2.1 0 = .ok (.aload_n 0, 1) := by decide +kernel
theorem dX8_layBack_1 : decode YX8_layBack.2.1 1 = .ok (.aload_n 0, 1) := by decide +kernel
theorem dX8_layBack_2 : decode YX8_layBack.2.1 2 = .ok (.getfield 84, 3) := by decide +kernel
theorem dX8_layBack_5 : decode YX8_layBack.2.1 5 = .ok (.iload_n 1, 1) := by decide +kernel
theorem dX8_layBack_6 : decode YX8_layBack.2.1 6 = .ok (.aaload, 1) := by decide +kernel
theorem dX8_layBack_7 : decode YX8_layBack.2.1 7 = .ok (.iconst 0, 1) := by decide +kernel
theorem dX8_layBack_8 : decode YX8_layBack.2.1 8 = .ok (.iaload, 1) := by decide +kernel
theorem dX8_layBack_9 : decode YX8_layBack.2.1 9 = .ok (.putfield 129, 3) := by decide +kernel
theorem dX8_layBack_12 : decode YX8_layBack.2.1 12 = .ok (.aload_n 0, 1) := by decide +kernel
theorem dX8_layBack_13 : decode YX8_layBack.2.1 13 = .ok (.aload_n 0, 1) := by decide +kernel
theorem dX8_layBack_14 : decode YX8_layBack.2.1 14 = .ok (.getfield 84, 3) := by decide +kernel
theorem dX8_layBack_17 : decode YX8_layBack.2.1 17 = .ok (.iload_n 1, 1) := by decide +kernel
theorem dX8_layBack_18 : decode YX8_layBack.2.1 18 = .ok (.aaload, 1) := by decide +kernel
theorem dX8_layBack_19 : decode YX8_layBack.2.1 19 = .ok (.iconst 1, 1) := by decide +kernel
theorem dX8_layBack_20 : decode YX8_layBack.2.1 20 = .ok (.iaload, 1) := by decide +kernel
theorem dX8_layBack_21 : decode YX8_layBack.2.1 21 = .ok (.putfield 225, 3) := by decide +kernel
theorem dX8_layBack_24 : decode YX8_layBack.2.1 24 = .ok (.aload_n 0, 1) := by decide +kernel
theorem dX8_layBack_25 : decode YX8_layBack.2.1 25 = .ok (.aload_n 0, 1) := by decide +kernel
theorem dX8_layBack_26 : decode YX8_layBack.2.1 26 = .ok (.getfield 84, 3) := by decide +kernel
theorem dX8_layBack_29 : decode YX8_layBack.2.1 29 = .ok (.iload_n 1, 1) := by decide +kernel
theorem dX8_layBack_30 : decode YX8_layBack.2.1 30 = .ok (.aaload, 1) := by decide +kernel
theorem dX8_layBack_31 : decode YX8_layBack.2.1 31 = .ok (.iconst 2, 1) := by decide +kernel
theorem dX8_layBack_32 : decode YX8_layBack.2.1 32 = .ok (.iaload, 1) := by decide +kernel
theorem dX8_layBack_33 : decode YX8_layBack.2.1 33 = .ok (.putfield 241, 3) := by decide +kernel
theorem dX8_layBack_36 : decode YX8_layBack.2.1 36 = .ok (.aload_n 0, 1) := by decide +kernel
theorem dX8_layBack_37 : decode YX8_layBack.2.1 37 = .ok (.aload_n 0, 1) := by decide +kernel
theorem dX8_layBack_38 : decode YX8_layBack.2.1 38 = .ok (.getfield 84, 3) := by decide +kernel
theorem dX8_layBack_41 : decode YX8_layBack.2.1 41 = .ok (.iload_n 1, 1) := by decide +kernel
theorem dX8_layBack_42 : decode YX8_layBack.2.1 42 = .ok (.aaload, 1) := by decide +kernel
theorem dX8_layBack_43 : decode YX8_layBack.2.1 43 = .ok (.iconst 3, 1) := by decide +kernel
theorem dX8_layBack_44 : decode YX8_layBack.2.1 44 = .ok (.iaload, 1) := by decide +kernel
theorem dX8_layBack_45 : decode YX8_layBack.2.1 45 = .ok (.putfield 244, 3) := by decide +kernel
theorem dX8_layBack_48 : decode YX8_layBack.2.1 48 = .ok (.iconst 0, 1) := by decide +kernel
theorem dX8_layBack_49 : decode YX8_layBack.2.1 49 = .ok (.istore_n 2, 1) := by decide +kernel
theorem dX8_layBack_50 : decode YX8_layBack.2.1 50 = .ok (.iload_n 2, 1) := by decide +kernel
theorem dX8_layBack_51 : decode YX8_layBack.2.1 51 = .ok (.iconst 4, 1) := by decide +kernel
theorem dX8_layBack_52 : decode YX8_layBack.2.1 52 = .ok (.if_icmp .ge 31, 3) := by decide +kernel
theorem dX8_layBack_55 : decode YX8_layBack.2.1 55 = .ok (.aload_n 0, 1) := by decide +kernel
theorem dX8_layBack_56 : decode YX8_layBack.2.1 56 = .ok (.getfield 87, 3) := by decide +kernel
theorem dX8_layBack_59 : decode YX8_layBack.2.1 59 = .ok (.iconst 4, 1) := by decide +kernel
theorem dX8_layBack_60 : decode YX8_layBack.2.1 60 = .ok (.iload_n 1, 1) := by decide +kernel
theorem dX8_layBack_61 : decode YX8_layBack.2.1 61 = .ok (.imul, 1) := by decide +kernel
theorem dX8_layBack_62 : decode YX8_layBack.2.1 62 = .ok (.iload_n 2, 1) := by decide +kernel
theorem dX8_layBack_63 : decode YX8_layBack.2.1 63 = .ok (.iadd, 1) := by decide +kernel
theorem dX8_layBack_64 : decode YX8_layBack.2.1 64 = .ok (.aaload, 1) := by decide +kernel
theorem dX8_layBack_65 : decode YX8_layBack.2.1 65 = .ok (.iconst 0, 1) := by decide +kernel
theorem dX8_layBack_66 : decode YX8_layBack.2.1 66 = .ok (.aload_n 0, 1) := by decide +kernel
theorem dX8_layBack_67 : decode YX8_layBack.2.1 67 = .ok (.iload_n 2, 1) := by decide +kernel
theorem dX8_layBack_68 : decode YX8_layBack.2.1 68 = .ok (.invokevirtual 263, 3) := by decide +kernel
theorem dX8_layBack_71 : decode YX8_layBack.2.1 71 = .ok (.iconst 0, 1) := by decide +kernel
theorem dX8_layBack_72 : decode YX8_layBack.2.1 72 = .ok (.bipush 12, 2) := by decide +kernel
theorem dX8_layBack_74 : decode YX8_layBack.2.1 74 = .ok (.invokestatic 213, 3) := by decide +kernel
theorem dX8_layBack_77 : decode YX8_layBack.2.1 77 = .ok (.iinc 2 1, 3) := by decide +kernel
theorem dX8_layBack_80 : decode YX8_layBack.2.1 80 = .ok (.goto (-30), 3) := by decide +kernel
theorem dX8_layBack_83 : decode YX8_layBack.2.1 83 = .ok (.aload_n 0, 1) := by decide +kernel
theorem dX8_layBack_84 : decode YX8_layBack.2.1 84 = .ok (.getfield 110, 3) := by decide +kernel
theorem dX8_layBack_87 : decode YX8_layBack.2.1 87 = .ok (.iload_n 1, 1) := by decide +kernel
theorem dX8_layBack_88 : decode YX8_layBack.2.1 88 = .ok (.aaload, 1) := by decide +kernel
theorem dX8_layBack_89 : decode YX8_layBack.2.1 89 = .ok (.iconst 0, 1) := by decide +kernel
theorem dX8_layBack_90 : decode YX8_layBack.2.1 90 = .ok (.aload_n 0, 1) := by decide +kernel
theorem dX8_layBack_91 : decode YX8_layBack.2.1 91 = .ok (.getfield 22, 3) := by decide +kernel
theorem dX8_layBack_94 : decode YX8_layBack.2.1 94 = .ok (.iconst 0, 1) := by decide +kernel
theorem dX8_layBack_95 : decode YX8_layBack.2.1 95 = .ok (.bipush 24, 2) := by decide +kernel
theorem dX8_layBack_97 : decode YX8_layBack.2.1 97 = .ok (.invokestatic 213, 3) := by decide +kernel
theorem dX8_layBack_100 : decode YX8_layBack.2.1 100 = .ok (.iconst 0, 1) := by decide +kernel
theorem dX8_layBack_101 : decode YX8_layBack.2.1 101 = .ok (.istore_n 2, 1) := by decide +kernel
theorem dX8_layBack_102 : decode YX8_layBack.2.1 102 = .ok (.iload_n 2, 1) := by decide +kernel
theorem dX8_layBack_103 : decode YX8_layBack.2.1 103 = .ok (.iconst 4, 1) := by decide +kernel
theorem dX8_layBack_104 : decode YX8_layBack.2.1 104 = .ok (.if_icmp .ge 32, 3) := by decide +kernel
theorem dX8_layBack_107 : decode YX8_layBack.2.1 107 = .ok (.aload_n 0, 1) := by decide +kernel
theorem dX8_layBack_108 : decode YX8_layBack.2.1 108 = .ok (.getfield 90, 3) := by decide +kernel
theorem dX8_layBack_111 : decode YX8_layBack.2.1 111 = .ok (.iconst 4, 1) := by decide +kernel
theorem dX8_layBack_112 : decode YX8_layBack.2.1 112 = .ok (.iload_n 1, 1) := by decide +kernel
theorem dX8_layBack_113 : decode YX8_layBack.2.1 113 = .ok (.imul, 1) := by decide +kernel
theorem dX8_layBack_114 : decode YX8_layBack.2.1 114 = .ok (.iload_n 2, 1) := by decide +kernel
theorem dX8_layBack_115 : decode YX8_layBack.2.1 115 = .ok (.iadd, 1) := by decide +kernel
theorem dX8_layBack_116 : decode YX8_layBack.2.1 116 = .ok (.aaload, 1) := by decide +kernel
theorem dX8_layBack_117 : decode YX8_layBack.2.1 117 = .ok (.iconst 0, 1) := by decide +kernel
theorem dX8_layBack_118 : decode YX8_layBack.2.1 118 = .ok (.aload_n 0, 1) := by decide +kernel
theorem dX8_layBack_119 : decode YX8_layBack.2.1 119 = .ok (.iload_n 2, 1) := by decide +kernel
theorem dX8_layBack_120 : decode YX8_layBack.2.1 120 = .ok (.invokevirtual 267, 3) := by decide +kernel
theorem dX8_layBack_123 : decode YX8_layBack.2.1 123 = .ok (.iconst 0, 1) := by decide +kernel
theorem dX8_layBack_124 : decode YX8_layBack.2.1 124 = .ok (.sipush 192, 3) := by decide +kernel
theorem dX8_layBack_127 : decode YX8_layBack.2.1 127 = .ok (.invokestatic 213, 3) := by decide +kernel
theorem dX8_layBack_130 : decode YX8_layBack.2.1 130 = .ok (.iinc 2 1, 3) := by decide +kernel
theorem dX8_layBack_133 : decode YX8_layBack.2.1 133 = .ok (.goto (-31), 3) := by decide +kernel
theorem dX8_layBack_136 : decode YX8_layBack.2.1 136 = .ok (.iconst 0, 1) := by decide +kernel
theorem dX8_layBack_137 : decode YX8_layBack.2.1 137 = .ok (.istore_n 2, 1) := by decide +kernel
theorem dX8_layBack_138 : decode YX8_layBack.2.1 138 = .ok (.iload_n 2, 1) := by decide +kernel
theorem dX8_layBack_139 : decode YX8_layBack.2.1 139 = .ok (.bipush 6, 2) := by decide +kernel
theorem dX8_layBack_141 : decode YX8_layBack.2.1 141 = .ok (.if_icmp .ge 34, 3) := by decide +kernel
theorem dX8_layBack_144 : decode YX8_layBack.2.1 144 = .ok (.aload_n 0, 1) := by decide +kernel
theorem dX8_layBack_145 : decode YX8_layBack.2.1 145 = .ok (.getfield 93, 3) := by decide +kernel
theorem dX8_layBack_148 : decode YX8_layBack.2.1 148 = .ok (.bipush 6, 2) := by decide +kernel
theorem dX8_layBack_150 : decode YX8_layBack.2.1 150 = .ok (.iload_n 1, 1) := by decide +kernel
theorem dX8_layBack_151 : decode YX8_layBack.2.1 151 = .ok (.imul, 1) := by decide +kernel
theorem dX8_layBack_152 : decode YX8_layBack.2.1 152 = .ok (.iload_n 2, 1) := by decide +kernel
theorem dX8_layBack_153 : decode YX8_layBack.2.1 153 = .ok (.iadd, 1) := by decide +kernel
theorem dX8_layBack_154 : decode YX8_layBack.2.1 154 = .ok (.aaload, 1) := by decide +kernel
theorem dX8_layBack_155 : decode YX8_layBack.2.1 155 = .ok (.iconst 0, 1) := by decide +kernel
theorem dX8_layBack_156 : decode YX8_layBack.2.1 156 = .ok (.aload_n 0, 1) := by decide +kernel
theorem dX8_layBack_157 : decode YX8_layBack.2.1 157 = .ok (.iload_n 2, 1) := by decide +kernel
theorem dX8_layBack_158 : decode YX8_layBack.2.1 158 = .ok (.invokevirtual 270, 3) := by decide +kernel
theorem dX8_layBack_161 : decode YX8_layBack.2.1 161 = .ok (.iconst 0, 1) := by decide +kernel
theorem dX8_layBack_162 : decode YX8_layBack.2.1 162 = .ok (.aload_n 0, 1) := by decide +kernel
theorem dX8_layBack_163 : decode YX8_layBack.2.1 163 = .ok (.getfield 225, 3) := by decide +kernel
theorem dX8_layBack_166 : decode YX8_layBack.2.1 166 = .ok (.invokestatic 213, 3) := by decide +kernel
theorem dX8_layBack_169 : decode YX8_layBack.2.1 169 = .ok (.iinc 2 1, 3) := by decide +kernel
theorem dX8_layBack_172 : decode YX8_layBack.2.1 172 = .ok (.goto (-34), 3) := by decide +kernel
theorem dX8_layBack_175 : decode YX8_layBack.2.1 175 = .ok (.iconst 0, 1) := by decide +kernel
theorem dX8_layBack_176 : decode YX8_layBack.2.1 176 = .ok (.istore_n 2, 1) := by decide +kernel
theorem dX8_layBack_177 : decode YX8_layBack.2.1 177 = .ok (.iload_n 2, 1) := by decide +kernel
theorem dX8_layBack_178 : decode YX8_layBack.2.1 178 = .ok (.sipush 192, 3) := by decide +kernel
theorem dX8_layBack_181 : decode YX8_layBack.2.1 181 = .ok (.if_icmp .ge 30, 3) := by decide +kernel
theorem dX8_layBack_184 : decode YX8_layBack.2.1 184 = .ok (.aload_n 0, 1) := by decide +kernel
theorem dX8_layBack_185 : decode YX8_layBack.2.1 185 = .ok (.getfield 98, 3) := by decide +kernel
theorem dX8_layBack_188 : decode YX8_layBack.2.1 188 = .ok (.iload_n 1, 1) := by decide +kernel
theorem dX8_layBack_189 : decode YX8_layBack.2.1 189 = .ok (.aaload, 1) := by decide +kernel
theorem dX8_layBack_190 : decode YX8_layBack.2.1 190 = .ok (.iload_n 2, 1) := by decide +kernel
theorem dX8_layBack_191 : decode YX8_layBack.2.1 191 = .ok (.aaload, 1) := by decide +kernel
theorem dX8_layBack_192 : decode YX8_layBack.2.1 192 = .ok (.iconst 0, 1) := by decide +kernel
theorem dX8_layBack_193 : decode YX8_layBack.2.1 193 = .ok (.aload_n 0, 1) := by decide +kernel
theorem dX8_layBack_194 : decode YX8_layBack.2.1 194 = .ok (.getfield 39, 3) := by decide +kernel
theorem dX8_layBack_197 : decode YX8_layBack.2.1 197 = .ok (.iload_n 2, 1) := by decide +kernel
theorem dX8_layBack_198 : decode YX8_layBack.2.1 198 = .ok (.aaload, 1) := by decide +kernel
theorem dX8_layBack_199 : decode YX8_layBack.2.1 199 = .ok (.iconst 0, 1) := by decide +kernel
theorem dX8_layBack_200 : decode YX8_layBack.2.1 200 = .ok (.bipush 12, 2) := by decide +kernel
theorem dX8_layBack_202 : decode YX8_layBack.2.1 202 = .ok (.invokestatic 213, 3) := by decide +kernel
theorem dX8_layBack_205 : decode YX8_layBack.2.1 205 = .ok (.iinc 2 1, 3) := by decide +kernel
theorem dX8_layBack_208 : decode YX8_layBack.2.1 208 = .ok (.goto (-31), 3) := by decide +kernel
theorem dX8_layBack_211 : decode YX8_layBack.2.1 211 = .ok (.iconst 0, 1) := by decide +kernel
theorem dX8_layBack_212 : decode YX8_layBack.2.1 212 = .ok (.istore_n 2, 1) := by decide +kernel
theorem dX8_layBack_213 : decode YX8_layBack.2.1 213 = .ok (.iload_n 2, 1) := by decide +kernel
theorem dX8_layBack_214 : decode YX8_layBack.2.1 214 = .ok (.sipush 192, 3) := by decide +kernel
theorem dX8_layBack_217 : decode YX8_layBack.2.1 217 = .ok (.if_icmp .ge 30, 3) := by decide +kernel
theorem dX8_layBack_220 : decode YX8_layBack.2.1 220 = .ok (.aload_n 0, 1) := by decide +kernel
theorem dX8_layBack_221 : decode YX8_layBack.2.1 221 = .ok (.getfield 101, 3) := by decide +kernel
theorem dX8_layBack_224 : decode YX8_layBack.2.1 224 = .ok (.iload_n 1, 1) := by decide +kernel
theorem dX8_layBack_225 : decode YX8_layBack.2.1 225 = .ok (.aaload, 1) := by decide +kernel
theorem dX8_layBack_226 : decode YX8_layBack.2.1 226 = .ok (.iload_n 2, 1) := by decide +kernel
theorem dX8_layBack_227 : decode YX8_layBack.2.1 227 = .ok (.aaload, 1) := by decide +kernel
theorem dX8_layBack_228 : decode YX8_layBack.2.1 228 = .ok (.iconst 0, 1) := by decide +kernel
theorem dX8_layBack_229 : decode YX8_layBack.2.1 229 = .ok (.aload_n 0, 1) := by decide +kernel
theorem dX8_layBack_230 : decode YX8_layBack.2.1 230 = .ok (.getfield 42, 3) := by decide +kernel
theorem dX8_layBack_233 : decode YX8_layBack.2.1 233 = .ok (.iload_n 2, 1) := by decide +kernel
theorem dX8_layBack_234 : decode YX8_layBack.2.1 234 = .ok (.aaload, 1) := by decide +kernel
theorem dX8_layBack_235 : decode YX8_layBack.2.1 235 = .ok (.iconst 0, 1) := by decide +kernel
theorem dX8_layBack_236 : decode YX8_layBack.2.1 236 = .ok (.bipush 8, 2) := by decide +kernel
theorem dX8_layBack_238 : decode YX8_layBack.2.1 238 = .ok (.invokestatic 213, 3) := by decide +kernel
theorem dX8_layBack_241 : decode YX8_layBack.2.1 241 = .ok (.iinc 2 1, 3) := by decide +kernel
theorem dX8_layBack_244 : decode YX8_layBack.2.1 244 = .ok (.goto (-31), 3) := by decide +kernel
theorem dX8_layBack_247 : decode YX8_layBack.2.1 247 = .ok (.iconst 0, 1) := by decide +kernel
theorem dX8_layBack_248 : decode YX8_layBack.2.1 248 = .ok (.istore_n 2, 1) := by decide +kernel
theorem dX8_layBack_249 : decode YX8_layBack.2.1 249 = .ok (.iload_n 2, 1) := by decide +kernel
theorem dX8_layBack_250 : decode YX8_layBack.2.1 250 = .ok (.aload_n 0, 1) := by decide +kernel
theorem dX8_layBack_251 : decode YX8_layBack.2.1 251 = .ok (.getfield 225, 3) := by decide +kernel
theorem dX8_layBack_254 : decode YX8_layBack.2.1 254 = .ok (.if_icmp .ge 30, 3) := by decide +kernel
theorem dX8_layBack_257 : decode YX8_layBack.2.1 257 = .ok (.aload_n 0, 1) := by decide +kernel
theorem dX8_layBack_258 : decode YX8_layBack.2.1 258 = .ok (.getfield 104, 3) := by decide +kernel
theorem dX8_layBack_261 : decode YX8_layBack.2.1 261 = .ok (.iload_n 1, 1) := by decide +kernel
theorem dX8_layBack_262 : decode YX8_layBack.2.1 262 = .ok (.aaload, 1) := by decide +kernel
theorem dX8_layBack_263 : decode YX8_layBack.2.1 263 = .ok (.iload_n 2, 1) := by decide +kernel
theorem dX8_layBack_264 : decode YX8_layBack.2.1 264 = .ok (.aaload, 1) := by decide +kernel
theorem dX8_layBack_265 : decode YX8_layBack.2.1 265 = .ok (.iconst 0, 1) := by decide +kernel
theorem dX8_layBack_266 : decode YX8_layBack.2.1 266 = .ok (.aload_n 0, 1) := by decide +kernel
theorem dX8_layBack_267 : decode YX8_layBack.2.1 267 = .ok (.getfield 63, 3) := by decide +kernel
theorem dX8_layBack_270 : decode YX8_layBack.2.1 270 = .ok (.iload_n 2, 1) := by decide +kernel
theorem dX8_layBack_271 : decode YX8_layBack.2.1 271 = .ok (.aaload, 1) := by decide +kernel
theorem dX8_layBack_272 : decode YX8_layBack.2.1 272 = .ok (.iconst 0, 1) := by decide +kernel
theorem dX8_layBack_273 : decode YX8_layBack.2.1 273 = .ok (.bipush 12, 2) := by decide +kernel
theorem dX8_layBack_275 : decode YX8_layBack.2.1 275 = .ok (.invokestatic 213, 3) := by decide +kernel
theorem dX8_layBack_278 : decode YX8_layBack.2.1 278 = .ok (.iinc 2 1, 3) := by decide +kernel
theorem dX8_layBack_281 : decode YX8_layBack.2.1 281 = .ok (.goto (-32), 3) := by decide +kernel
theorem dX8_layBack_284 : decode YX8_layBack.2.1 284 = .ok (.iconst 0, 1) := by decide +kernel
theorem dX8_layBack_285 : decode YX8_layBack.2.1 285 = .ok (.istore_n 2, 1) := by decide +kernel
theorem dX8_layBack_286 : decode YX8_layBack.2.1 286 = .ok (.iload_n 2, 1) := by decide +kernel
theorem dX8_layBack_287 : decode YX8_layBack.2.1 287 = .ok (.aload_n 0, 1) := by decide +kernel
theorem dX8_layBack_288 : decode YX8_layBack.2.1 288 = .ok (.getfield 225, 3) := by decide +kernel
theorem dX8_layBack_291 : decode YX8_layBack.2.1 291 = .ok (.if_icmp .ge 30, 3) := by decide +kernel
theorem dX8_layBack_294 : decode YX8_layBack.2.1 294 = .ok (.aload_n 0, 1) := by decide +kernel
theorem dX8_layBack_295 : decode YX8_layBack.2.1 295 = .ok (.getfield 107, 3) := by decide +kernel
theorem dX8_layBack_298 : decode YX8_layBack.2.1 298 = .ok (.iload_n 1, 1) := by decide +kernel
theorem dX8_layBack_299 : decode YX8_layBack.2.1 299 = .ok (.aaload, 1) := by decide +kernel
theorem dX8_layBack_300 : decode YX8_layBack.2.1 300 = .ok (.iload_n 2, 1) := by decide +kernel
theorem dX8_layBack_301 : decode YX8_layBack.2.1 301 = .ok (.aaload, 1) := by decide +kernel
theorem dX8_layBack_302 : decode YX8_layBack.2.1 302 = .ok (.iconst 0, 1) := by decide +kernel
theorem dX8_layBack_303 : decode YX8_layBack.2.1 303 = .ok (.aload_n 0, 1) := by decide +kernel
theorem dX8_layBack_304 : decode YX8_layBack.2.1 304 = .ok (.getfield 66, 3) := by decide +kernel
theorem dX8_layBack_307 : decode YX8_layBack.2.1 307 = .ok (.iload_n 2, 1) := by decide +kernel
theorem dX8_layBack_308 : decode YX8_layBack.2.1 308 = .ok (.aaload, 1) := by decide +kernel
theorem dX8_layBack_309 : decode YX8_layBack.2.1 309 = .ok (.iconst 0, 1) := by decide +kernel
theorem dX8_layBack_310 : decode YX8_layBack.2.1 310 = .ok (.bipush 8, 2) := by decide +kernel
theorem dX8_layBack_312 : decode YX8_layBack.2.1 312 = .ok (.invokestatic 213, 3) := by decide +kernel
theorem dX8_layBack_315 : decode YX8_layBack.2.1 315 = .ok (.iinc 2 1, 3) := by decide +kernel
theorem dX8_layBack_318 : decode YX8_layBack.2.1 318 = .ok (.goto (-32), 3) := by decide +kernel
theorem dX8_layBack_321 : decode YX8_layBack.2.1 321 = .ok (.return_, 1) := by decide +kernel
theorem dX8_goesLong_0 : decode YX8_goesLong.2.1 0 = .ok (.iconst 0, 1) := by decide +kernel
theorem dX8_goesLong_1 : decode YX8_goesLong.2.1 1 = .ok (.istore_n 1, 1) := by decide +kernel
theorem dX8_goesLong_2 : decode YX8_goesLong.2.1 2 = .ok (.iload_n 1, 1) := by decide +kernel
theorem dX8_goesLong_3 : decode YX8_goesLong.2.1 3 = .ok (.bipush 40, 2) := by decide +kernel
theorem dX8_goesLong_5 : decode YX8_goesLong.2.1 5 = .ok (.if_icmp .ge 14, 3) := by decide +kernel
theorem dX8_goesLong_8 : decode YX8_goesLong.2.1 8 = .ok (.aload_n 0, 1) := by decide +kernel
theorem dX8_goesLong_9 : decode YX8_goesLong.2.1 9 = .ok (.invokevirtual 247, 3) := by decide +kernel
theorem dX8_goesLong_12 : decode YX8_goesLong.2.1 12 = .ok (.istore_n 2, 1) := by decide +kernel
theorem dX8_goesLong_13 : decode YX8_goesLong.2.1 13 = .ok (.iinc 1 1, 3) := by decide +kernel
theorem dX8_goesLong_16 : decode YX8_goesLong.2.1 16 = .ok (.goto (-14), 3) := by decide +kernel
theorem dX8_goesLong_19 : decode YX8_goesLong.2.1 19 = .ok (.return_, 1) := by decide +kernel
theorem dX8_settled_0 : decode YX8_settled.2.1 0 = .ok (.iload_n 1, 1) := by decide +kernel
theorem dX8_settled_1 : decode YX8_settled.2.1 1 = .ok (.iconst 0, 1) := by decide +kernel
theorem dX8_settled_2 : decode YX8_settled.2.1 2 = .ok (.iconst 2, 1) := by decide +kernel
theorem dX8_settled_3 : decode YX8_settled.2.1 3 = .ok (.invokestatic 125, 3) := by decide +kernel
theorem dX8_settled_6 : decode YX8_settled.2.1 6 = .ok (.ifCond .ne 6, 3) := by decide +kernel
theorem dX8_settled_9 : decode YX8_settled.2.1 9 = .ok (.bipush (-2), 2) := by decide +kernel
theorem dX8_settled_11 : decode YX8_settled.2.1 11 = .ok (.ireturn, 1) := by decide +kernel
theorem dX8_settled_12 : decode YX8_settled.2.1 12 = .ok (.aload_n 0, 1) := by decide +kernel
theorem dX8_settled_13 : decode YX8_settled.2.1 13 = .ok (.iconst 0, 1) := by decide +kernel
theorem dX8_settled_14 : decode YX8_settled.2.1 14 = .ok (.invokevirtual 273, 3) := by decide +kernel
theorem dX8_settled_17 : decode YX8_settled.2.1 17 = .ok (.iconst 0, 1) := by decide +kernel
theorem dX8_settled_18 : decode YX8_settled.2.1 18 = .ok (.istore_n 2, 1) := by decide +kernel
theorem dX8_settled_19 : decode YX8_settled.2.1 19 = .ok (.iconst 0, 1) := by decide +kernel
theorem dX8_settled_20 : decode YX8_settled.2.1 20 = .ok (.istore_n 3, 1) := by decide +kernel
theorem dX8_settled_21 : decode YX8_settled.2.1 21 = .ok (.iconst 0, 1) := by decide +kernel
theorem dX8_settled_22 : decode YX8_settled.2.1 22 = .ok (.istore 4, 2) := by decide +kernel
theorem dX8_settled_24 : decode YX8_settled.2.1 24 = .ok (.iload 4, 2) := by decide +kernel
theorem dX8_settled_26 : decode YX8_settled.2.1 26 = .ok (.ifCond .ne 57, 3) := by decide +kernel
theorem dX8_settled_29 : decode YX8_settled.2.1 29 = .ok (.iload_n 2, 1) := by decide +kernel
theorem dX8_settled_30 : decode YX8_settled.2.1 30 = .ok (.bipush 80, 2) := by decide +kernel
theorem dX8_settled_32 : decode YX8_settled.2.1 32 = .ok (.if_icmp .ge 51, 3) := by decide +kernel
theorem dX8_settled_35 : decode YX8_settled.2.1 35 = .ok (.aload_n 0, 1) := by decide +kernel
theorem dX8_settled_36 : decode YX8_settled.2.1 36 = .ok (.getfield 225, 3) := by decide +kernel
theorem dX8_settled_39 : decode YX8_settled.2.1 39 = .ok (.ifCond .le 7, 3) := by decide +kernel
theorem dX8_settled_42 : decode YX8_settled.2.1 42 = .ok (.iconst 1, 1) := by decide +kernel
theorem dX8_settled_43 : decode YX8_settled.2.1 43 = .ok (.goto 4, 3) := by decide +kernel
theorem dX8_settled_46 : decode YX8_settled.2.1 46 = .ok (.iconst 0, 1) := by decide +kernel
theorem dX8_settled_47 : decode YX8_settled.2.1 47 = .ok (.istore 5, 2) := by decide +kernel
theorem dX8_settled_49 : decode YX8_settled.2.1 49 = .ok (.aload_n 0, 1) := by decide +kernel
theorem dX8_settled_50 : decode YX8_settled.2.1 50 = .ok (.invokevirtual 247, 3) := by decide +kernel
theorem dX8_settled_53 : decode YX8_settled.2.1 53 = .ok (.istore 6, 2) := by decide +kernel
theorem dX8_settled_55 : decode YX8_settled.2.1 55 = .ok (.iload_n 3, 1) := by decide +kernel
theorem dX8_settled_56 : decode YX8_settled.2.1 56 = .ok (.iload 6, 2) := by decide +kernel
theorem dX8_settled_58 : decode YX8_settled.2.1 58 = .ok (.iadd, 1) := by decide +kernel
theorem dX8_settled_59 : decode YX8_settled.2.1 59 = .ok (.istore_n 3, 1) := by decide +kernel
theorem dX8_settled_60 : decode YX8_settled.2.1 60 = .ok (.iinc 2 1, 3) := by decide +kernel
theorem dX8_settled_63 : decode YX8_settled.2.1 63 = .ok (.iload 5, 2) := by decide +kernel
theorem dX8_settled_65 : decode YX8_settled.2.1 65 = .ok (.ifCond .ne 12, 3) := by decide +kernel
theorem dX8_settled_68 : decode YX8_settled.2.1 68 = .ok (.iload 6, 2) := by decide +kernel
theorem dX8_settled_70 : decode YX8_settled.2.1 70 = .ok (.ifCond .ne 7, 3) := by decide +kernel
theorem dX8_settled_73 : decode YX8_settled.2.1 73 = .ok (.iconst 1, 1) := by decide +kernel
theorem dX8_settled_74 : decode YX8_settled.2.1 74 = .ok (.goto 4, 3) := by decide +kernel
theorem dX8_settled_77 : decode YX8_settled.2.1 77 = .ok (.iconst 0, 1) := by decide +kernel
theorem dX8_settled_78 : decode YX8_settled.2.1 78 = .ok (.istore 4, 2) := by decide +kernel
theorem dX8_settled_80 : decode YX8_settled.2.1 80 = .ok (.goto (-56), 3) := by decide +kernel
theorem dX8_settled_83 : decode YX8_settled.2.1 83 = .ok (.iconst 0, 1) := by decide +kernel
theorem dX8_settled_84 : decode YX8_settled.2.1 84 = .ok (.istore 5, 2) := by decide +kernel
theorem dX8_settled_86 : decode YX8_settled.2.1 86 = .ok (.iconst 0, 1) := by decide +kernel
theorem dX8_settled_87 : decode YX8_settled.2.1 87 = .ok (.istore 6, 2) := by decide +kernel
theorem dX8_settled_89 : decode YX8_settled.2.1 89 = .ok (.iload 6, 2) := by decide +kernel
theorem dX8_settled_91 : decode YX8_settled.2.1 91 = .ok (.bipush 8, 2) := by decide +kernel
theorem dX8_settled_93 : decode YX8_settled.2.1 93 = .ok (.if_icmp .ge 21, 3) := by decide +kernel
theorem dX8_settled_96 : decode YX8_settled.2.1 96 = .ok (.iload 5, 2) := by decide +kernel
theorem dX8_settled_98 : decode YX8_settled.2.1 98 = .ok (.aload_n 0, 1) := by decide +kernel
theorem dX8_settled_99 : decode YX8_settled.2.1 99 = .ok (.iload 6, 2) := by decide +kernel
theorem dX8_settled_101 : decode YX8_settled.2.1 101 = .ok (.iconst 1, 1) := by decide +kernel
theorem dX8_settled_102 : decode YX8_settled.2.1 102 = .ok (.invokevirtual 165, 3) := by decide +kernel
theorem dX8_settled_105 : decode YX8_settled.2.1 105 = .ok (.iadd, 1) := by decide +kernel
theorem dX8_settled_106 : decode YX8_settled.2.1 106 = .ok (.istore 5, 2) := by decide +kernel
theorem dX8_settled_108 : decode YX8_settled.2.1 108 = .ok (.iinc 6 1, 3) := by decide +kernel
theorem dX8_settled_111 : decode YX8_settled.2.1 111 = .ok (.goto (-22), 3) := by decide +kernel
theorem dX8_settled_114 : decode YX8_settled.2.1 114 = .ok (.aload_n 0, 1) := by decide +kernel
theorem dX8_settled_115 : decode YX8_settled.2.1 115 = .ok (.iconst 0, 1) := by decide +kernel
theorem dX8_settled_116 : decode YX8_settled.2.1 116 = .ok (.invokevirtual 276, 3) := by decide +kernel
theorem dX8_settled_119 : decode YX8_settled.2.1 119 = .ok (.iload_n 1, 1) := by decide +kernel
theorem dX8_settled_120 : decode YX8_settled.2.1 120 = .ok (.ifCond .ne 16, 3) := by decide +kernel
theorem dX8_settled_123 : decode YX8_settled.2.1 123 = .ok (.iload 4, 2) := by decide +kernel
theorem dX8_settled_125 : decode YX8_settled.2.1 125 = .ok (.ifCond .eq 7, 3) := by decide +kernel
theorem dX8_settled_128 : decode YX8_settled.2.1 128 = .ok (.iload_n 2, 1) := by decide +kernel
theorem dX8_settled_129 : decode YX8_settled.2.1 129 = .ok (.goto 18, 3) := by decide +kernel
theorem dX8_settled_132 : decode YX8_settled.2.1 132 = .ok (.iconst (-1), 1) := by decide +kernel
theorem dX8_settled_133 : decode YX8_settled.2.1 133 = .ok (.goto 14, 3) := by decide +kernel
theorem dX8_settled_136 : decode YX8_settled.2.1 136 = .ok (.iload_n 1, 1) := by decide +kernel
theorem dX8_settled_137 : decode YX8_settled.2.1 137 = .ok (.iconst 1, 1) := by decide +kernel
theorem dX8_settled_138 : decode YX8_settled.2.1 138 = .ok (.if_icmp .ne 7, 3) := by decide +kernel
theorem dX8_settled_141 : decode YX8_settled.2.1 141 = .ok (.iload_n 3, 1) := by decide +kernel
theorem dX8_settled_142 : decode YX8_settled.2.1 142 = .ok (.goto 5, 3) := by decide +kernel
theorem dX8_settled_145 : decode YX8_settled.2.1 145 = .ok (.iload 5, 2) := by decide +kernel
theorem dX8_settled_147 : decode YX8_settled.2.1 147 = .ok (.ireturn, 1) := by decide +kernel
theorem dX8_broken_0 : decode YX8_broken.2.1 0 = .ok (.aload_n 0, 1) := by decide +kernel
theorem dX8_broken_1 : decode YX8_broken.2.1 1 = .ok (.iload_n 1, 1) := by decide +kernel
theorem dX8_broken_2 : decode YX8_broken.2.1 2 = .ok (.invokevirtual 148, 3) := by decide +kernel
theorem dX8_broken_5 : decode YX8_broken.2.1 5 = .ok (.ifCond .eq 17, 3) := by decide +kernel
theorem dX8_broken_8 : decode YX8_broken.2.1 8 = .ok (.iload_n 2, 1) := by decide +kernel
theorem dX8_broken_9 : decode YX8_broken.2.1 9 = .ok (.invokestatic 141, 3) := by decide +kernel
theorem dX8_broken_12 : decode YX8_broken.2.1 12 = .ok (.ifCond .eq 10, 3) := by decide +kernel
theorem dX8_broken_15 : decode YX8_broken.2.1 15 = .ok (.iload_n 3, 1) := by decide +kernel
theorem dX8_broken_16 : decode YX8_broken.2.1 16 = .ok (.invokestatic 141, 3) := by decide +kernel
theorem dX8_broken_19 : decode YX8_broken.2.1 19 = .ok (.ifCond .ne 6, 3) := by decide +kernel
theorem dX8_broken_22 : decode YX8_broken.2.1 22 = .ok (.bipush (-2), 2) := by decide +kernel
theorem dX8_broken_24 : decode YX8_broken.2.1 24 = .ok (.ireturn, 1) := by decide +kernel
theorem dX8_broken_25 : decode YX8_broken.2.1 25 = .ok (.aload_n 0, 1) := by decide +kernel
theorem dX8_broken_26 : decode YX8_broken.2.1 26 = .ok (.getfield 19, 3) := by decide +kernel
theorem dX8_broken_29 : decode YX8_broken.2.1 29 = .ok (.iload_n 1, 1) := by decide +kernel
theorem dX8_broken_30 : decode YX8_broken.2.1 30 = .ok (.iaload, 1) := by decide +kernel
theorem dX8_broken_31 : decode YX8_broken.2.1 31 = .ok (.ifCond .ne 6, 3) := by decide +kernel
theorem dX8_broken_34 : decode YX8_broken.2.1 34 = .ok (.bipush (-3), 2) := by decide +kernel
theorem dX8_broken_36 : decode YX8_broken.2.1 36 = .ok (.ireturn, 1) := by decide +kernel
theorem dX8_broken_37 : decode YX8_broken.2.1 37 = .ok (.aload_n 0, 1) := by decide +kernel
theorem dX8_broken_38 : decode YX8_broken.2.1 38 = .ok (.iconst 0, 1) := by decide +kernel
theorem dX8_broken_39 : decode YX8_broken.2.1 39 = .ok (.invokevirtual 273, 3) := by decide +kernel
theorem dX8_broken_42 : decode YX8_broken.2.1 42 = .ok (.aload_n 0, 1) := by decide +kernel
theorem dX8_broken_43 : decode YX8_broken.2.1 43 = .ok (.getfield 19, 3) := by decide +kernel
theorem dX8_broken_46 : decode YX8_broken.2.1 46 = .ok (.iload_n 1, 1) := by decide +kernel
theorem dX8_broken_47 : decode YX8_broken.2.1 47 = .ok (.iconst 0, 1) := by decide +kernel
theorem dX8_broken_48 : decode YX8_broken.2.1 48 = .ok (.iastore, 1) := by decide +kernel
theorem dX8_broken_49 : decode YX8_broken.2.1 49 = .ok (.aload_n 0, 1) := by decide +kernel
theorem dX8_broken_50 : decode YX8_broken.2.1 50 = .ok (.invokevirtual 279, 3) := by decide +kernel
theorem dX8_broken_53 : decode YX8_broken.2.1 53 = .ok (.aload_n 0, 1) := by decide +kernel
theorem dX8_broken_54 : decode YX8_broken.2.1 54 = .ok (.iload_n 2, 1) := by decide +kernel
theorem dX8_broken_55 : decode YX8_broken.2.1 55 = .ok (.iload_n 3, 1) := by decide +kernel
theorem dX8_broken_56 : decode YX8_broken.2.1 56 = .ok (.invokevirtual 282, 3) := by decide +kernel
theorem dX8_broken_59 : decode YX8_broken.2.1 59 = .ok (.istore 4, 2) := by decide +kernel
theorem dX8_broken_61 : decode YX8_broken.2.1 61 = .ok (.aload_n 0, 1) := by decide +kernel
theorem dX8_broken_62 : decode YX8_broken.2.1 62 = .ok (.iconst 0, 1) := by decide +kernel
theorem dX8_broken_63 : decode YX8_broken.2.1 63 = .ok (.invokevirtual 276, 3) := by decide +kernel
theorem dX8_broken_66 : decode YX8_broken.2.1 66 = .ok (.iload 4, 2) := by decide +kernel
theorem dX8_broken_68 : decode YX8_broken.2.1 68 = .ok (.ireturn, 1) := by decide +kernel
theorem dX8_byLot_0 : decode YX8_byLot.2.1 0 = .ok (.aload_n 0, 1) := by decide +kernel
theorem dX8_byLot_1 : decode YX8_byLot.2.1 1 = .ok (.iconst 0, 1) := by decide +kernel
theorem dX8_byLot_2 : decode YX8_byLot.2.1 2 = .ok (.invokevirtual 273, 3) := by decide +kernel
theorem dX8_byLot_5 : decode YX8_byLot.2.1 5 = .ok (.iload_n 2, 1) := by decide +kernel
theorem dX8_byLot_6 : decode YX8_byLot.2.1 6 = .ok (.istore_n 3, 1) := by decide +kernel
theorem dX8_byLot_7 : decode YX8_byLot.2.1 7 = .ok (.iconst 0, 1) := by decide +kernel
theorem dX8_byLot_8 : decode YX8_byLot.2.1 8 = .ok (.istore 4, 2) := by decide +kernel
theorem dX8_byLot_10 : decode YX8_byLot.2.1 10 = .ok (.iload 4, 2) := by decide +kernel
theorem dX8_byLot_12 : decode YX8_byLot.2.1 12 = .ok (.aload_n 0, 1) := by decide +kernel
theorem dX8_byLot_13 : decode YX8_byLot.2.1 13 = .ok (.getfield 129, 3) := by decide +kernel
theorem dX8_byLot_16 : decode YX8_byLot.2.1 16 = .ok (.if_icmp .ge 36, 3) := by decide +kernel
theorem dX8_byLot_19 : decode YX8_byLot.2.1 19 = .ok (.iload_n 3, 1) := by decide +kernel
theorem dX8_byLot_20 : decode YX8_byLot.2.1 20 = .ok (.ldc_w 285, 3) := by decide +kernel
theorem dX8_byLot_23 : decode YX8_byLot.2.1 23 = .ok (.imul, 1) := by decide +kernel
theorem dX8_byLot_24 : decode YX8_byLot.2.1 24 = .ok (.sipush 12345, 3) := by decide +kernel
theorem dX8_byLot_27 : decode YX8_byLot.2.1 27 = .ok (.iadd, 1) := by decide +kernel
theorem dX8_byLot_28 : decode YX8_byLot.2.1 28 = .ok (.istore_n 3, 1) := by decide +kernel
theorem dX8_byLot_29 : decode YX8_byLot.2.1 29 = .ok (.iload_n 3, 1) := by decide +kernel
theorem dX8_byLot_30 : decode YX8_byLot.2.1 30 = .ok (.bipush 9, 2) := by decide +kernel
theorem dX8_byLot_32 : decode YX8_byLot.2.1 32 = .ok (.iushr, 1) := by decide +kernel
theorem dX8_byLot_33 : decode YX8_byLot.2.1 33 = .ok (.iconst 4, 1) := by decide +kernel
theorem dX8_byLot_34 : decode YX8_byLot.2.1 34 = .ok (.irem, 1) := by decide +kernel
theorem dX8_byLot_35 : decode YX8_byLot.2.1 35 = .ok (.ifCond .ne 11, 3) := by decide +kernel
theorem dX8_byLot_38 : decode YX8_byLot.2.1 38 = .ok (.aload_n 0, 1) := by decide +kernel
theorem dX8_byLot_39 : decode YX8_byLot.2.1 39 = .ok (.getfield 19, 3) := by decide +kernel
theorem dX8_byLot_42 : decode YX8_byLot.2.1 42 = .ok (.iload 4, 2) := by decide +kernel
theorem dX8_byLot_44 : decode YX8_byLot.2.1 44 = .ok (.iconst 0, 1) := by decide +kernel
theorem dX8_byLot_45 : decode YX8_byLot.2.1 45 = .ok (.iastore, 1) := by decide +kernel
theorem dX8_byLot_46 : decode YX8_byLot.2.1 46 = .ok (.iinc 4 1, 3) := by decide +kernel
theorem dX8_byLot_49 : decode YX8_byLot.2.1 49 = .ok (.goto (-39), 3) := by decide +kernel
theorem dX8_byLot_52 : decode YX8_byLot.2.1 52 = .ok (.aload_n 0, 1) := by decide +kernel
theorem dX8_byLot_53 : decode YX8_byLot.2.1 53 = .ok (.invokevirtual 279, 3) := by decide +kernel
theorem dX8_byLot_56 : decode YX8_byLot.2.1 56 = .ok (.aload_n 0, 1) := by decide +kernel
theorem dX8_byLot_57 : decode YX8_byLot.2.1 57 = .ok (.iconst 0, 1) := by decide +kernel
theorem dX8_byLot_58 : decode YX8_byLot.2.1 58 = .ok (.putfield 286, 3) := by decide +kernel
theorem dX8_byLot_61 : decode YX8_byLot.2.1 61 = .ok (.aload_n 0, 1) := by decide +kernel
theorem dX8_byLot_62 : decode YX8_byLot.2.1 62 = .ok (.iconst 0, 1) := by decide +kernel
theorem dX8_byLot_63 : decode YX8_byLot.2.1 63 = .ok (.putfield 289, 3) := by decide +kernel
theorem dX8_byLot_66 : decode YX8_byLot.2.1 66 = .ok (.iconst 0, 1) := by decide +kernel
theorem dX8_byLot_67 : decode YX8_byLot.2.1 67 = .ok (.istore 4, 2) := by decide +kernel
theorem dX8_byLot_69 : decode YX8_byLot.2.1 69 = .ok (.iload 4, 2) := by decide +kernel
theorem dX8_byLot_71 : decode YX8_byLot.2.1 71 = .ok (.bipush 8, 2) := by decide +kernel
theorem dX8_byLot_73 : decode YX8_byLot.2.1 73 = .ok (.if_icmp .ge 54, 3) := by decide +kernel
theorem dX8_byLot_76 : decode YX8_byLot.2.1 76 = .ok (.aload_n 0, 1) := by decide +kernel
theorem dX8_byLot_77 : decode YX8_byLot.2.1 77 = .ok (.iload_n 1, 1) := by decide +kernel
theorem dX8_byLot_78 : decode YX8_byLot.2.1 78 = .ok (.iload 4, 2) := by decide +kernel
theorem dX8_byLot_80 : decode YX8_byLot.2.1 80 = .ok (.invokevirtual 282, 3) := by decide +kernel
theorem dX8_byLot_83 : decode YX8_byLot.2.1 83 = .ok (.iconst (-1), 1) := by decide +kernel
theorem dX8_byLot_84 : decode YX8_byLot.2.1 84 = .ok (.if_icmp .eq 13, 3) := by decide +kernel
theorem dX8_byLot_87 : decode YX8_byLot.2.1 87 = .ok (.aload_n 0, 1) := by decide +kernel
theorem dX8_byLot_88 : decode YX8_byLot.2.1 88 = .ok (.dup, 1) := by decide +kernel
theorem dX8_byLot_89 : decode YX8_byLot.2.1 89 = .ok (.getfield 286, 3) := by decide +kernel
theorem dX8_byLot_92 : decode YX8_byLot.2.1 92 = .ok (.iconst 1, 1) := by decide +kernel
theorem dX8_byLot_93 : decode YX8_byLot.2.1 93 = .ok (.iadd, 1) := by decide +kernel
theorem dX8_byLot_94 : decode YX8_byLot.2.1 94 = .ok (.putfield 286, 3) := by decide +kernel
theorem dX8_byLot_97 : decode YX8_byLot.2.1 97 = .ok (.aload_n 0, 1) := by decide +kernel
theorem dX8_byLot_98 : decode YX8_byLot.2.1 98 = .ok (.iload_n 1, 1) := by decide +kernel
theorem dX8_byLot_99 : decode YX8_byLot.2.1 99 = .ok (.iload 4, 2) := by decide +kernel
theorem dX8_byLot_101 : decode YX8_byLot.2.1 101 = .ok (.iconst (-1), 1) := by decide +kernel
theorem dX8_byLot_102 : decode YX8_byLot.2.1 102 = .ok (.invokevirtual 260, 3) := by decide +kernel
theorem dX8_byLot_105 : decode YX8_byLot.2.1 105 = .ok (.sipush 9999, 3) := by decide +kernel
theorem dX8_byLot_108 : decode YX8_byLot.2.1 108 = .ok (.if_icmp .ge 13, 3) := by decide +kernel
theorem dX8_byLot_111 : decode YX8_byLot.2.1 111 = .ok (.aload_n 0, 1) := by decide +kernel
theorem dX8_byLot_112 : decode YX8_byLot.2.1 112 = .ok (.dup, 1) := by decide +kernel
theorem dX8_byLot_113 : decode YX8_byLot.2.1 113 = .ok (.getfield 289, 3) := by decide +kernel
theorem dX8_byLot_116 : decode YX8_byLot.2.1 116 = .ok (.iconst 1, 1) := by decide +kernel
theorem dX8_byLot_117 : decode YX8_byLot.2.1 117 = .ok (.iadd, 1) := by decide +kernel
theorem dX8_byLot_118 : decode YX8_byLot.2.1 118 = .ok (.putfield 289, 3) := by decide +kernel
theorem dX8_byLot_121 : decode YX8_byLot.2.1 121 = .ok (.iinc 4 1, 3) := by decide +kernel
theorem dX8_byLot_124 : decode YX8_byLot.2.1 124 = .ok (.goto (-55), 3) := by decide +kernel
theorem dX8_byLot_127 : decode YX8_byLot.2.1 127 = .ok (.aload_n 0, 1) := by decide +kernel
theorem dX8_byLot_128 : decode YX8_byLot.2.1 128 = .ok (.iconst 0, 1) := by decide +kernel
theorem dX8_byLot_129 : decode YX8_byLot.2.1 129 = .ok (.invokevirtual 276, 3) := by decide +kernel
theorem dX8_byLot_132 : decode YX8_byLot.2.1 132 = .ok (.return_, 1) := by decide +kernel
theorem dX8_drawn_0 : decode YX8_drawn.2.1 0 = .ok (.iload_n 1, 1) := by decide +kernel
theorem dX8_drawn_1 : decode YX8_drawn.2.1 1 = .ok (.invokestatic 141, 3) := by decide +kernel
theorem dX8_drawn_4 : decode YX8_drawn.2.1 4 = .ok (.ifCond .ne 6, 3) := by decide +kernel
theorem dX8_drawn_7 : decode YX8_drawn.2.1 7 = .ok (.bipush (-2), 2) := by decide +kernel
theorem dX8_drawn_9 : decode YX8_drawn.2.1 9 = .ok (.ireturn, 1) := by decide +kernel
theorem dX8_drawn_10 : decode YX8_drawn.2.1 10 = .ok (.aload_n 0, 1) := by decide +kernel
theorem dX8_drawn_11 : decode YX8_drawn.2.1 11 = .ok (.iload_n 1, 1) := by decide +kernel
theorem dX8_drawn_12 : decode YX8_drawn.2.1 12 = .ok (.iload_n 2, 1) := by decide +kernel
theorem dX8_drawn_13 : decode YX8_drawn.2.1 13 = .ok (.invokevirtual 292, 3) := by decide +kernel
theorem dX8_drawn_16 : decode YX8_drawn.2.1 16 = .ok (.aload_n 0, 1) := by decide +kernel
theorem dX8_drawn_17 : decode YX8_drawn.2.1 17 = .ok (.getfield 286, 3) := by decide +kernel
theorem dX8_drawn_20 : decode YX8_drawn.2.1 20 = .ok (.ireturn, 1) := by decide +kernel
theorem dX8_common_0 : decode YX8_common.2.1 0 = .ok (.iload_n 1, 1) := by decide +kernel
theorem dX8_common_1 : decode YX8_common.2.1 1 = .ok (.ifCond .ne 7, 3) := by decide +kernel
theorem dX8_common_4 : decode YX8_common.2.1 4 = .ok (.iload_n 0, 1) := by decide +kernel
theorem dX8_common_5 : decode YX8_common.2.1 5 = .ok (.goto 10, 3) := by decide +kernel
theorem dX8_common_8 : decode YX8_common.2.1 8 = .ok (.iload_n 1, 1) := by decide +kernel
theorem dX8_common_9 : decode YX8_common.2.1 9 = .ok (.iload_n 0, 1) := by decide +kernel
theorem dX8_common_10 : decode YX8_common.2.1 10 = .ok (.iload_n 1, 1) := by decide +kernel
theorem dX8_common_11 : decode YX8_common.2.1 11 = .ok (.irem, 1) := by decide +kernel
theorem dX8_common_12 : decode YX8_common.2.1 12 = .ok (.invokestatic 295, 3) := by decide +kernel
theorem dX8_common_15 : decode YX8_common.2.1 15 = .ok (.ireturn, 1) := by decide +kernel
theorem dX8_chance_0 : decode YX8_chance.2.1 0 = .ok (.iload_n 1, 1) := by decide +kernel
theorem dX8_chance_1 : decode YX8_chance.2.1 1 = .ok (.invokestatic 141, 3) := by decide +kernel
theorem dX8_chance_4 : decode YX8_chance.2.1 4 = .ok (.ifCond .eq 23, 3) := by decide +kernel
theorem dX8_chance_7 : decode YX8_chance.2.1 7 = .ok (.iload_n 3, 1) := by decide +kernel
theorem dX8_chance_8 : decode YX8_chance.2.1 8 = .ok (.iconst 1, 1) := by decide +kernel
theorem dX8_chance_9 : decode YX8_chance.2.1 9 = .ok (.bipush 6, 2) := by decide +kernel
theorem dX8_chance_11 : decode YX8_chance.2.1 11 = .ok (.invokestatic 125, 3) := by decide +kernel
theorem dX8_chance_14 : decode YX8_chance.2.1 14 = .ok (.ifCond .eq 13, 3) := by decide +kernel
theorem dX8_chance_17 : decode YX8_chance.2.1 17 = .ok (.iload 4, 2) := by decide +kernel
theorem dX8_chance_19 : decode YX8_chance.2.1 19 = .ok (.iconst 0, 1) := by decide +kernel
theorem dX8_chance_20 : decode YX8_chance.2.1 20 = .ok (.iconst 1, 1) := by decide +kernel
theorem dX8_chance_21 : decode YX8_chance.2.1 21 = .ok (.invokestatic 125, 3) := by decide +kernel
theorem dX8_chance_24 : decode YX8_chance.2.1 24 = .ok (.ifCond .ne 6, 3) := by decide +kernel
theorem dX8_chance_27 : decode YX8_chance.2.1 27 = .ok (.bipush (-2), 2) := by decide +kernel
theorem dX8_chance_29 : decode YX8_chance.2.1 29 = .ok (.ireturn, 1) := by decide +kernel
theorem dX8_chance_30 : decode YX8_chance.2.1 30 = .ok (.iconst 0, 1) := by decide +kernel
theorem dX8_chance_31 : decode YX8_chance.2.1 31 = .ok (.istore 5, 2) := by decide +kernel
theorem dX8_chance_33 : decode YX8_chance.2.1 33 = .ok (.iconst 0, 1) := by decide +kernel
theorem dX8_chance_34 : decode YX8_chance.2.1 34 = .ok (.istore 6, 2) := by decide +kernel
theorem dX8_chance_36 : decode YX8_chance.2.1 36 = .ok (.iload 6, 2) := by decide +kernel
theorem dX8_chance_38 : decode YX8_chance.2.1 38 = .ok (.iload_n 3, 1) := by decide +kernel
theorem dX8_chance_39 : decode YX8_chance.2.1 39 = .ok (.if_icmp .ge 32, 3) := by decide +kernel
theorem dX8_chance_42 : decode YX8_chance.2.1 42 = .ok (.aload_n 0, 1) := by decide +kernel
theorem dX8_chance_43 : decode YX8_chance.2.1 43 = .ok (.iload_n 1, 1) := by decide +kernel
theorem dX8_chance_44 : decode YX8_chance.2.1 44 = .ok (.iload_n 2, 1) := by decide +kernel
theorem dX8_chance_45 : decode YX8_chance.2.1 45 = .ok (.iload 6, 2) := by decide +kernel
theorem dX8_chance_47 : decode YX8_chance.2.1 47 = .ok (.iadd, 1) := by decide +kernel
theorem dX8_chance_48 : decode YX8_chance.2.1 48 = .ok (.invokevirtual 292, 3) := by decide +kernel
theorem dX8_chance_51 : decode YX8_chance.2.1 51 = .ok (.aload_n 0, 1) := by decide +kernel
theorem dX8_chance_52 : decode YX8_chance.2.1 52 = .ok (.getfield 286, 3) := by decide +kernel
theorem dX8_chance_55 : decode YX8_chance.2.1 55 = .ok (.aload_n 0, 1) := by decide +kernel
theorem dX8_chance_56 : decode YX8_chance.2.1 56 = .ok (.getfield 289, 3) := by decide +kernel
theorem dX8_chance_59 : decode YX8_chance.2.1 59 = .ok (.if_icmp .ne 6, 3) := by decide +kernel
theorem dX8_chance_62 : decode YX8_chance.2.1 62 = .ok (.iinc 5 1, 3) := by decide +kernel
theorem dX8_chance_65 : decode YX8_chance.2.1 65 = .ok (.iinc 6 1, 3) := by decide +kernel
theorem dX8_chance_68 : decode YX8_chance.2.1 68 = .ok (.goto (-32), 3) := by decide +kernel
theorem dX8_chance_71 : decode YX8_chance.2.1 71 = .ok (.iload 4, 2) := by decide +kernel
theorem dX8_chance_73 : decode YX8_chance.2.1 73 = .ok (.ifCond .ne 8, 3) := by decide +kernel
theorem dX8_chance_76 : decode YX8_chance.2.1 76 = .ok (.iload 5, 2) := by decide +kernel
theorem dX8_chance_78 : decode YX8_chance.2.1 78 = .ok (.goto 4, 3) := by decide +kernel
theorem dX8_chance_81 : decode YX8_chance.2.1 81 = .ok (.iload_n 3, 1) := by decide +kernel
theorem dX8_chance_82 : decode YX8_chance.2.1 82 = .ok (.iload 5, 2) := by decide +kernel
theorem dX8_chance_84 : decode YX8_chance.2.1 84 = .ok (.iload_n 3, 1) := by decide +kernel
theorem dX8_chance_85 : decode YX8_chance.2.1 85 = .ok (.invokestatic 295, 3) := by decide +kernel
theorem dX8_chance_88 : decode YX8_chance.2.1 88 = .ok (.idiv, 1) := by decide +kernel
theorem dX8_chance_89 : decode YX8_chance.2.1 89 = .ok (.ireturn, 1) := by decide +kernel
theorem dX8_otherwise_0 : decode YX8_otherwise.2.1 0 = .ok (.iconst 0, 1) := by decide +kernel
theorem dX8_otherwise_1 : decode YX8_otherwise.2.1 1 = .ok (.istore_n 3, 1) := by decide +kernel
theorem dX8_otherwise_2 : decode YX8_otherwise.2.1 2 = .ok (.iload_n 3, 1) := by decide +kernel
theorem dX8_otherwise_3 : decode YX8_otherwise.2.1 3 = .ok (.aload_n 0, 1) := by decide +kernel
theorem dX8_otherwise_4 : decode YX8_otherwise.2.1 4 = .ok (.getfield 116, 3) := by decide +kernel
theorem dX8_otherwise_7 : decode YX8_otherwise.2.1 7 = .ok (.iload_n 1, 1) := by decide +kernel
theorem dX8_otherwise_8 : decode YX8_otherwise.2.1 8 = .ok (.iaload, 1) := by decide +kernel
theorem dX8_otherwise_9 : decode YX8_otherwise.2.1 9 = .ok (.if_icmp .ge 28, 3) := by decide +kernel
theorem dX8_otherwise_12 : decode YX8_otherwise.2.1 12 = .ok (.aload_n 0, 1) := by decide +kernel
theorem dX8_otherwise_13 : decode YX8_otherwise.2.1 13 = .ok (.iload_n 2, 1) := by decide +kernel
theorem dX8_otherwise_14 : decode YX8_otherwise.2.1 14 = .ok (.iload_n 3, 1) := by decide +kernel
theorem dX8_otherwise_15 : decode YX8_otherwise.2.1 15 = .ok (.invokevirtual 282, 3) := by decide +kernel
theorem dX8_otherwise_18 : decode YX8_otherwise.2.1 18 = .ok (.aload_n 0, 1) := by decide +kernel
theorem dX8_otherwise_19 : decode YX8_otherwise.2.1 19 = .ok (.getfield 119, 3) := by decide +kernel
theorem dX8_otherwise_22 : decode YX8_otherwise.2.1 22 = .ok (.iload_n 1, 1) := by decide +kernel
theorem dX8_otherwise_23 : decode YX8_otherwise.2.1 23 = .ok (.aaload, 1) := by decide +kernel
theorem dX8_otherwise_24 : decode YX8_otherwise.2.1 24 = .ok (.iload_n 3, 1) := by decide +kernel
theorem dX8_otherwise_25 : decode YX8_otherwise.2.1 25 = .ok (.iaload, 1) := by decide +kernel
theorem dX8_otherwise_26 : decode YX8_otherwise.2.1 26 = .ok (.if_icmp .eq 5, 3) := by decide +kernel
theorem dX8_otherwise_29 : decode YX8_otherwise.2.1 29 = .ok (.iload_n 3, 1) := by decide +kernel
theorem dX8_otherwise_30 : decode YX8_otherwise.2.1 30 = .ok (.ireturn, 1) := by decide +kernel
theorem dX8_otherwise_31 : decode YX8_otherwise.2.1 31 = .ok (.iinc 3 1, 3) := by decide +kernel
theorem dX8_otherwise_34 : decode YX8_otherwise.2.1 34 = .ok (.goto (-32), 3) := by decide +kernel
theorem dX8_otherwise_37 : decode YX8_otherwise.2.1 37 = .ok (.iconst (-1), 1) := by decide +kernel
theorem dX8_otherwise_38 : decode YX8_otherwise.2.1 38 = .ok (.ireturn, 1) := by decide +kernel
theorem dX8_linksBy_0 : decode YX8_linksBy.2.1 0 = .ok (.iconst 0, 1) := by decide +kernel
theorem dX8_linksBy_1 : decode YX8_linksBy.2.1 1 = .ok (.istore_n 3, 1) := by decide +kernel
theorem dX8_linksBy_2 : decode YX8_linksBy.2.1 2 = .ok (.iconst 0, 1) := by decide +kernel
theorem dX8_linksBy_3 : decode YX8_linksBy.2.1 3 = .ok (.istore 4, 2) := by decide +kernel
theorem dX8_linksBy_5 : decode YX8_linksBy.2.1 5 = .ok (.iload 4, 2) := by decide +kernel
theorem dX8_linksBy_7 : decode YX8_linksBy.2.1 7 = .ok (.aload_n 0, 1) := by decide +kernel
theorem dX8_linksBy_8 : decode YX8_linksBy.2.1 8 = .ok (.getfield 129, 3) := by decide +kernel
theorem dX8_linksBy_11 : decode YX8_linksBy.2.1 11 = .ok (.if_icmp .ge 61, 3) := by decide +kernel
theorem dX8_linksBy_14 : decode YX8_linksBy.2.1 14 = .ok (.aload_n 0, 1) := by decide +kernel
theorem dX8_linksBy_15 : decode YX8_linksBy.2.1 15 = .ok (.getfield 19, 3) := by decide +kernel
theorem dX8_linksBy_18 : decode YX8_linksBy.2.1 18 = .ok (.iload 4, 2) := by decide +kernel
theorem dX8_linksBy_20 : decode YX8_linksBy.2.1 20 = .ok (.iaload, 1) := by decide +kernel
theorem dX8_linksBy_21 : decode YX8_linksBy.2.1 21 = .ok (.ifCond .ne 6, 3) := by decide +kernel
theorem dX8_linksBy_24 : decode YX8_linksBy.2.1 24 = .ok (.goto 42, 3) := by decide +kernel
theorem dX8_linksBy_27 : decode YX8_linksBy.2.1 27 = .ok (.aload_n 0, 1) := by decide +kernel
theorem dX8_linksBy_28 : decode YX8_linksBy.2.1 28 = .ok (.iconst 0, 1) := by decide +kernel
theorem dX8_linksBy_29 : decode YX8_linksBy.2.1 29 = .ok (.invokevirtual 273, 3) := by decide +kernel
theorem dX8_linksBy_32 : decode YX8_linksBy.2.1 32 = .ok (.aload_n 0, 1) := by decide +kernel
theorem dX8_linksBy_33 : decode YX8_linksBy.2.1 33 = .ok (.getfield 19, 3) := by decide +kernel
theorem dX8_linksBy_36 : decode YX8_linksBy.2.1 36 = .ok (.iload 4, 2) := by decide +kernel
theorem dX8_linksBy_38 : decode YX8_linksBy.2.1 38 = .ok (.iconst 0, 1) := by decide +kernel
theorem dX8_linksBy_39 : decode YX8_linksBy.2.1 39 = .ok (.iastore, 1) := by decide +kernel
theorem dX8_linksBy_40 : decode YX8_linksBy.2.1 40 = .ok (.aload_n 0, 1) := by decide +kernel
theorem dX8_linksBy_41 : decode YX8_linksBy.2.1 41 = .ok (.invokevirtual 279, 3) := by decide +kernel
theorem dX8_linksBy_44 : decode YX8_linksBy.2.1 44 = .ok (.aload_n 0, 1) := by decide +kernel
theorem dX8_linksBy_45 : decode YX8_linksBy.2.1 45 = .ok (.iload_n 1, 1) := by decide +kernel
theorem dX8_linksBy_46 : decode YX8_linksBy.2.1 46 = .ok (.iload_n 2, 1) := by decide +kernel
theorem dX8_linksBy_47 : decode YX8_linksBy.2.1 47 = .ok (.invokevirtual 298, 3) := by decide +kernel
theorem dX8_linksBy_50 : decode YX8_linksBy.2.1 50 = .ok (.iconst (-1), 1) := by decide +kernel
theorem dX8_linksBy_51 : decode YX8_linksBy.2.1 51 = .ok (.if_icmp .ne 10, 3) := by decide +kernel
theorem dX8_linksBy_54 : decode YX8_linksBy.2.1 54 = .ok (.iload_n 3, 1) := by decide +kernel
theorem dX8_linksBy_55 : decode YX8_linksBy.2.1 55 = .ok (.iconst 1, 1) := by decide +kernel
theorem dX8_linksBy_56 : decode YX8_linksBy.2.1 56 = .ok (.iload 4, 2) := by decide +kernel
theorem dX8_linksBy_58 : decode YX8_linksBy.2.1 58 = .ok (.ishl, 1) := by decide +kernel
theorem dX8_linksBy_59 : decode YX8_linksBy.2.1 59 = .ok (.ior, 1) := by decide +kernel
theorem dX8_linksBy_60 : decode YX8_linksBy.2.1 60 = .ok (.istore_n 3, 1) := by decide +kernel
theorem dX8_linksBy_61 : decode YX8_linksBy.2.1 61 = .ok (.aload_n 0, 1) := by decide +kernel
theorem dX8_linksBy_62 : decode YX8_linksBy.2.1 62 = .ok (.iconst 0, 1) := by decide +kernel
theorem dX8_linksBy_63 : decode YX8_linksBy.2.1 63 = .ok (.invokevirtual 276, 3) := by decide +kernel
theorem dX8_linksBy_66 : decode YX8_linksBy.2.1 66 = .ok (.iinc 4 1, 3) := by decide +kernel
theorem dX8_linksBy_69 : decode YX8_linksBy.2.1 69 = .ok (.goto (-64), 3) := by decide +kernel
theorem dX8_linksBy_72 : decode YX8_linksBy.2.1 72 = .ok (.iload_n 3, 1) := by decide +kernel
theorem dX8_linksBy_73 : decode YX8_linksBy.2.1 73 = .ok (.ireturn, 1) := by decide +kernel
theorem dX8_costsBy_0 : decode YX8_costsBy.2.1 0 = .ok (.iconst 0, 1) := by decide +kernel
theorem dX8_costsBy_1 : decode YX8_costsBy.2.1 1 = .ok (.istore 5, 2) := by decide +kernel
theorem dX8_costsBy_3 : decode YX8_costsBy.2.1 3 = .ok (.iconst (-1), 1) := by decide +kernel
theorem dX8_costsBy_4 : decode YX8_costsBy.2.1 4 = .ok (.istore 6, 2) := by decide +kernel
theorem dX8_costsBy_6 : decode YX8_costsBy.2.1 6 = .ok (.iconst 1, 1) := by decide +kernel
theorem dX8_costsBy_7 : decode YX8_costsBy.2.1 7 = .ok (.istore 7, 2) := by decide +kernel
theorem dX8_costsBy_9 : decode YX8_costsBy.2.1 9 = .ok (.iload 7, 2) := by decide +kernel
theorem dX8_costsBy_11 : decode YX8_costsBy.2.1 11 = .ok (.bipush 12, 2) := by decide +kernel
theorem dX8_costsBy_13 : decode YX8_costsBy.2.1 13 = .ok (.if_icmp .gt 75, 3) := by decide +kernel
theorem dX8_costsBy_16 : decode YX8_costsBy.2.1 16 = .ok (.aload_n 0, 1) := by decide +kernel
theorem dX8_costsBy_17 : decode YX8_costsBy.2.1 17 = .ok (.iconst 0, 1) := by decide +kernel
theorem dX8_costsBy_18 : decode YX8_costsBy.2.1 18 = .ok (.invokevirtual 273, 3) := by decide +kernel
theorem dX8_costsBy_21 : decode YX8_costsBy.2.1 21 = .ok (.aload_n 0, 1) := by decide +kernel
theorem dX8_costsBy_22 : decode YX8_costsBy.2.1 22 = .ok (.getfield 22, 3) := by decide +kernel
theorem dX8_costsBy_25 : decode YX8_costsBy.2.1 25 = .ok (.iconst 2, 1) := by decide +kernel
theorem dX8_costsBy_26 : decode YX8_costsBy.2.1 26 = .ok (.iload_n 3, 1) := by decide +kernel
theorem dX8_costsBy_27 : decode YX8_costsBy.2.1 27 = .ok (.imul, 1) := by decide +kernel
theorem dX8_costsBy_28 : decode YX8_costsBy.2.1 28 = .ok (.iload 7, 2) := by decide +kernel
theorem dX8_costsBy_30 : decode YX8_costsBy.2.1 30 = .ok (.iastore, 1) := by decide +kernel
theorem dX8_costsBy_31 : decode YX8_costsBy.2.1 31 = .ok (.aload_n 0, 1) := by decide +kernel
theorem dX8_costsBy_32 : decode YX8_costsBy.2.1 32 = .ok (.invokevirtual 279, 3) := by decide +kernel
theorem dX8_costsBy_35 : decode YX8_costsBy.2.1 35 = .ok (.aload_n 0, 1) := by decide +kernel
theorem dX8_costsBy_36 : decode YX8_costsBy.2.1 36 = .ok (.iload_n 1, 1) := by decide +kernel
theorem dX8_costsBy_37 : decode YX8_costsBy.2.1 37 = .ok (.iload_n 2, 1) := by decide +kernel
theorem dX8_costsBy_38 : decode YX8_costsBy.2.1 38 = .ok (.invokevirtual 298, 3) := by decide +kernel
theorem dX8_costsBy_41 : decode YX8_costsBy.2.1 41 = .ok (.iconst (-1), 1) := by decide +kernel
theorem dX8_costsBy_42 : decode YX8_costsBy.2.1 42 = .ok (.if_icmp .ne 7, 3) := by decide +kernel
theorem dX8_costsBy_45 : decode YX8_costsBy.2.1 45 = .ok (.iconst 1, 1) := by decide +kernel
theorem dX8_costsBy_46 : decode YX8_costsBy.2.1 46 = .ok (.goto 4, 3) := by decide +kernel
theorem dX8_costsBy_49 : decode YX8_costsBy.2.1 49 = .ok (.iconst 0, 1) := by decide +kernel
theorem dX8_costsBy_50 : decode YX8_costsBy.2.1 50 = .ok (.istore 8, 2) := by decide +kernel
theorem dX8_costsBy_52 : decode YX8_costsBy.2.1 52 = .ok (.aload_n 0, 1) := by decide +kernel
theorem dX8_costsBy_53 : decode YX8_costsBy.2.1 53 = .ok (.iconst 0, 1) := by decide +kernel
theorem dX8_costsBy_54 : decode YX8_costsBy.2.1 54 = .ok (.invokevirtual 276, 3) := by decide +kernel
theorem dX8_costsBy_57 : decode YX8_costsBy.2.1 57 = .ok (.iload 8, 2) := by decide +kernel
theorem dX8_costsBy_59 : decode YX8_costsBy.2.1 59 = .ok (.ifCond .ne 6, 3) := by decide +kernel
theorem dX8_costsBy_62 : decode YX8_costsBy.2.1 62 = .ok (.goto 20, 3) := by decide +kernel
theorem dX8_costsBy_65 : decode YX8_costsBy.2.1 65 = .ok (.iload 5, 2) := by decide +kernel
theorem dX8_costsBy_67 : decode YX8_costsBy.2.1 67 = .ok (.ifCond .ne 8, 3) := by decide +kernel
theorem dX8_costsBy_70 : decode YX8_costsBy.2.1 70 = .ok (.iload 7, 2) := by decide +kernel
theorem dX8_costsBy_72 : decode YX8_costsBy.2.1 72 = .ok (.goto 5, 3) := by decide +kernel
theorem dX8_costsBy_75 : decode YX8_costsBy.2.1 75 = .ok (.iload 6, 2) := by decide +kernel
theorem dX8_costsBy_77 : decode YX8_costsBy.2.1 77 = .ok (.istore 6, 2) := by decide +kernel
theorem dX8_costsBy_79 : decode YX8_costsBy.2.1 79 = .ok (.iinc 5 1, 3) := by decide +kernel
theorem dX8_costsBy_82 : decode YX8_costsBy.2.1 82 = .ok (.iinc 7 1, 3) := by decide +kernel
theorem dX8_costsBy_85 : decode YX8_costsBy.2.1 85 = .ok (.goto (-76), 3) := by decide +kernel
theorem dX8_costsBy_88 : decode YX8_costsBy.2.1 88 = .ok (.iload 4, 2) := by decide +kernel
theorem dX8_costsBy_90 : decode YX8_costsBy.2.1 90 = .ok (.ifCond .eq 8, 3) := by decide +kernel
theorem dX8_costsBy_93 : decode YX8_costsBy.2.1 93 = .ok (.iload 6, 2) := by decide +kernel
theorem dX8_costsBy_95 : decode YX8_costsBy.2.1 95 = .ok (.goto 5, 3) := by decide +kernel
theorem dX8_costsBy_98 : decode YX8_costsBy.2.1 98 = .ok (.iload 5, 2) := by decide +kernel
theorem dX8_costsBy_100 : decode YX8_costsBy.2.1 100 = .ok (.ireturn, 1) := by decide +kernel
theorem dX8_tells__0 : decode YX8_tells_.2.1 0 = .ok (.iload_n 1, 1) := by decide +kernel
theorem dX8_tells__1 : decode YX8_tells_.2.1 1 = .ok (.invokestatic 301, 3) := by decide +kernel
theorem dX8_tells__4 : decode YX8_tells_.2.1 4 = .ok (.ifCond .eq 31, 3) := by decide +kernel
theorem dX8_tells__7 : decode YX8_tells_.2.1 7 = .ok (.iload_n 2, 1) := by decide +kernel
theorem dX8_tells__8 : decode YX8_tells_.2.1 8 = .ok (.invokestatic 141, 3) := by decide +kernel
theorem dX8_tells__11 : decode YX8_tells_.2.1 11 = .ok (.ifCond .eq 24, 3) := by decide +kernel
theorem dX8_tells__14 : decode YX8_tells_.2.1 14 = .ok (.iload_n 3, 1) := by decide +kernel
theorem dX8_tells__15 : decode YX8_tells_.2.1 15 = .ok (.ifCond .lt 20, 3) := by decide +kernel
theorem dX8_tells__18 : decode YX8_tells_.2.1 18 = .ok (.iload_n 3, 1) := by decide +kernel
theorem dX8_tells__19 : decode YX8_tells_.2.1 19 = .ok (.iconst 3, 1) := by decide +kernel
theorem dX8_tells__20 : decode YX8_tells_.2.1 20 = .ok (.if_icmp .eq 15, 3) := by decide +kernel
theorem dX8_tells__23 : decode YX8_tells_.2.1 23 = .ok (.iload_n 3, 1) := by decide +kernel
theorem dX8_tells__24 : decode YX8_tells_.2.1 24 = .ok (.iconst 4, 1) := by decide +kernel
theorem dX8_tells__25 : decode YX8_tells_.2.1 25 = .ok (.irem, 1) := by decide +kernel
theorem dX8_tells__26 : decode YX8_tells_.2.1 26 = .ok (.iconst 1, 1) := by decide +kernel
theorem dX8_tells__27 : decode YX8_tells_.2.1 27 = .ok (.if_icmp .le 11, 3) := by decide +kernel
theorem dX8_tells__30 : decode YX8_tells_.2.1 30 = .ok (.iload_n 3, 1) := by decide +kernel
theorem dX8_tells__31 : decode YX8_tells_.2.1 31 = .ok (.iconst 3, 1) := by decide +kernel
theorem dX8_tells__32 : decode YX8_tells_.2.1 32 = .ok (.if_icmp .le 6, 3) := by decide +kernel
theorem dX8_tells__35 : decode YX8_tells_.2.1 35 = .ok (.bipush (-2), 2) := by decide +kernel
theorem dX8_tells__37 : decode YX8_tells_.2.1 37 = .ok (.ireturn, 1) := by decide +kernel
theorem dX8_tells__38 : decode YX8_tells_.2.1 38 = .ok (.iload_n 3, 1) := by decide +kernel
theorem dX8_tells__39 : decode YX8_tells_.2.1 39 = .ok (.iconst 3, 1) := by decide +kernel
theorem dX8_tells__40 : decode YX8_tells_.2.1 40 = .ok (.if_icmp .le 18, 3) := by decide +kernel
theorem dX8_tells__43 : decode YX8_tells_.2.1 43 = .ok (.aload_n 0, 1) := by decide +kernel
theorem dX8_tells__44 : decode YX8_tells_.2.1 44 = .ok (.iload_n 3, 1) := by decide +kernel
theorem dX8_tells__45 : decode YX8_tells_.2.1 45 = .ok (.iconst 4, 1) := by decide +kernel
theorem dX8_tells__46 : decode YX8_tells_.2.1 46 = .ok (.idiv, 1) := by decide +kernel
theorem dX8_tells__47 : decode YX8_tells_.2.1 47 = .ok (.iconst 1, 1) := by decide +kernel
theorem dX8_tells__48 : decode YX8_tells_.2.1 48 = .ok (.isub, 1) := by decide +kernel
theorem dX8_tells__49 : decode YX8_tells_.2.1 49 = .ok (.invokevirtual 148, 3) := by decide +kernel
theorem dX8_tells__52 : decode YX8_tells_.2.1 52 = .ok (.ifCond .ne 6, 3) := by decide +kernel
theorem dX8_tells__55 : decode YX8_tells_.2.1 55 = .ok (.bipush (-12), 2) := by decide +kernel
theorem dX8_tells__57 : decode YX8_tells_.2.1 57 = .ok (.ireturn, 1) := by decide +kernel
theorem dX8_tells__58 : decode YX8_tells_.2.1 58 = .ok (.aload_n 0, 1) := by decide +kernel
theorem dX8_tells__59 : decode YX8_tells_.2.1 59 = .ok (.getfield 113, 3) := by decide +kernel
theorem dX8_tells__62 : decode YX8_tells_.2.1 62 = .ok (.iload_n 1, 1) := by decide +kernel
theorem dX8_tells__63 : decode YX8_tells_.2.1 63 = .ok (.iaload, 1) := by decide +kernel
theorem dX8_tells__64 : decode YX8_tells_.2.1 64 = .ok (.ifCond .ge 6, 3) := by decide +kernel
theorem dX8_tells__67 : decode YX8_tells_.2.1 67 = .ok (.bipush (-11), 2) := by decide +kernel
theorem dX8_tells__69 : decode YX8_tells_.2.1 69 = .ok (.ireturn, 1) := by decide +kernel
theorem dX8_tells__70 : decode YX8_tells_.2.1 70 = .ok (.aload_n 0, 1) := by decide +kernel
theorem dX8_tells__71 : decode YX8_tells_.2.1 71 = .ok (.getfield 116, 3) := by decide +kernel
theorem dX8_tells__74 : decode YX8_tells_.2.1 74 = .ok (.iload_n 1, 1) := by decide +kernel
theorem dX8_tells__75 : decode YX8_tells_.2.1 75 = .ok (.iaload, 1) := by decide +kernel
theorem dX8_tells__76 : decode YX8_tells_.2.1 76 = .ok (.bipush 8, 2) := by decide +kernel
theorem dX8_tells__78 : decode YX8_tells_.2.1 78 = .ok (.if_icmp .le 6, 3) := by decide +kernel
theorem dX8_tells__81 : decode YX8_tells_.2.1 81 = .ok (.bipush (-2), 2) := by decide +kernel
theorem dX8_tells__83 : decode YX8_tells_.2.1 83 = .ok (.ireturn, 1) := by decide +kernel
theorem dX8_tells__84 : decode YX8_tells_.2.1 84 = .ok (.iload_n 3, 1) := by decide +kernel
theorem dX8_tells__85 : decode YX8_tells_.2.1 85 = .ok (.ifCond .ne 10, 3) := by decide +kernel
theorem dX8_tells__88 : decode YX8_tells_.2.1 88 = .ok (.aload_n 0, 1) := by decide +kernel
theorem dX8_tells__89 : decode YX8_tells_.2.1 89 = .ok (.iload_n 1, 1) := by decide +kernel
theorem dX8_tells__90 : decode YX8_tells_.2.1 90 = .ok (.iload_n 2, 1) := by decide +kernel
theorem dX8_tells__91 : decode YX8_tells_.2.1 91 = .ok (.invokevirtual 298, 3) := by decide +kernel
theorem dX8_tells__94 : decode YX8_tells_.2.1 94 = .ok (.ireturn, 1) := by decide +kernel
theorem dX8_tells__95 : decode YX8_tells_.2.1 95 = .ok (.iload_n 3, 1) := by decide +kernel
theorem dX8_tells__96 : decode YX8_tells_.2.1 96 = .ok (.iconst 2, 1) := by decide +kernel
theorem dX8_tells__97 : decode YX8_tells_.2.1 97 = .ok (.if_icmp .ne 10, 3) := by decide +kernel
theorem dX8_tells__100 : decode YX8_tells_.2.1 100 = .ok (.aload_n 0, 1) := by decide +kernel
theorem dX8_tells__101 : decode YX8_tells_.2.1 101 = .ok (.iload_n 1, 1) := by decide +kernel
theorem dX8_tells__102 : decode YX8_tells_.2.1 102 = .ok (.iload_n 2, 1) := by decide +kernel
theorem dX8_tells__103 : decode YX8_tells_.2.1 103 = .ok (.invokevirtual 304, 3) := by decide +kernel
theorem dX8_tells__106 : decode YX8_tells_.2.1 106 = .ok (.ireturn, 1) := by decide +kernel
theorem dX8_tells__107 : decode YX8_tells_.2.1 107 = .ok (.iload_n 3, 1) := by decide +kernel
theorem dX8_tells__108 : decode YX8_tells_.2.1 108 = .ok (.iconst 3, 1) := by decide +kernel
theorem dX8_tells__109 : decode YX8_tells_.2.1 109 = .ok (.if_icmp .le 27, 3) := by decide +kernel
theorem dX8_tells__112 : decode YX8_tells_.2.1 112 = .ok (.aload_n 0, 1) := by decide +kernel
theorem dX8_tells__113 : decode YX8_tells_.2.1 113 = .ok (.iload_n 1, 1) := by decide +kernel
theorem dX8_tells__114 : decode YX8_tells_.2.1 114 = .ok (.iload_n 2, 1) := by decide +kernel
theorem dX8_tells__115 : decode YX8_tells_.2.1 115 = .ok (.iload_n 3, 1) := by decide +kernel
theorem dX8_tells__116 : decode YX8_tells_.2.1 116 = .ok (.iconst 4, 1) := by decide +kernel
theorem dX8_tells__117 : decode YX8_tells_.2.1 117 = .ok (.idiv, 1) := by decide +kernel
theorem dX8_tells__118 : decode YX8_tells_.2.1 118 = .ok (.iconst 1, 1) := by decide +kernel
theorem dX8_tells__119 : decode YX8_tells_.2.1 119 = .ok (.isub, 1) := by decide +kernel
theorem dX8_tells__120 : decode YX8_tells_.2.1 120 = .ok (.iload_n 3, 1) := by decide +kernel
theorem dX8_tells__121 : decode YX8_tells_.2.1 121 = .ok (.iconst 4, 1) := by decide +kernel
theorem dX8_tells__122 : decode YX8_tells_.2.1 122 = .ok (.irem, 1) := by decide +kernel
theorem dX8_tells__123 : decode YX8_tells_.2.1 123 = .ok (.iconst 1, 1) := by decide +kernel
theorem dX8_tells__124 : decode YX8_tells_.2.1 124 = .ok (.if_icmp .ne 7, 3) := by decide +kernel
theorem dX8_tells__127 : decode YX8_tells_.2.1 127 = .ok (.iconst 1, 1) := by decide +kernel
theorem dX8_tells__128 : decode YX8_tells_.2.1 128 = .ok (.goto 4, 3) := by decide +kernel
theorem dX8_tells__131 : decode YX8_tells_.2.1 131 = .ok (.iconst 0, 1) := by decide +kernel
theorem dX8_tells__132 : decode YX8_tells_.2.1 132 = .ok (.invokevirtual 307, 3) := by decide +kernel
theorem dX8_tells__135 : decode YX8_tells_.2.1 135 = .ok (.ireturn, 1) := by decide +kernel
theorem dX8_tells__136 : decode YX8_tells_.2.1 136 = .ok (.iconst 0, 1) := by decide +kernel
theorem dX8_tells__137 : decode YX8_tells_.2.1 137 = .ok (.istore 4, 2) := by decide +kernel
theorem dX8_tells__139 : decode YX8_tells_.2.1 139 = .ok (.iconst 0, 1) := by decide +kernel
theorem dX8_tells__140 : decode YX8_tells_.2.1 140 = .ok (.istore 5, 2) := by decide +kernel
theorem dX8_tells__142 : decode YX8_tells_.2.1 142 = .ok (.iload 5, 2) := by decide +kernel
theorem dX8_tells__144 : decode YX8_tells_.2.1 144 = .ok (.bipush 8, 2) := by decide +kernel
theorem dX8_tells__146 : decode YX8_tells_.2.1 146 = .ok (.if_icmp .ge 29, 3) := by decide +kernel
theorem dX8_tells__149 : decode YX8_tells_.2.1 149 = .ok (.aload_n 0, 1) := by decide +kernel
theorem dX8_tells__150 : decode YX8_tells_.2.1 150 = .ok (.iload_n 1, 1) := by decide +kernel
theorem dX8_tells__151 : decode YX8_tells_.2.1 151 = .ok (.iload 5, 2) := by decide +kernel
theorem dX8_tells__153 : decode YX8_tells_.2.1 153 = .ok (.invokevirtual 298, 3) := by decide +kernel
theorem dX8_tells__156 : decode YX8_tells_.2.1 156 = .ok (.iconst (-1), 1) := by decide +kernel
theorem dX8_tells__157 : decode YX8_tells_.2.1 157 = .ok (.if_icmp .ne 12, 3) := by decide +kernel
theorem dX8_tells__160 : decode YX8_tells_.2.1 160 = .ok (.iload 4, 2) := by decide +kernel
theorem dX8_tells__162 : decode YX8_tells_.2.1 162 = .ok (.iconst 1, 1) := by decide +kernel
theorem dX8_tells__163 : decode YX8_tells_.2.1 163 = .ok (.iload 5, 2) := by decide +kernel
theorem dX8_tells__165 : decode YX8_tells_.2.1 165 = .ok (.ishl, 1) := by decide +kernel
theorem dX8_tells__166 : decode YX8_tells_.2.1 166 = .ok (.ior, 1) := by decide +kernel
theorem dX8_tells__167 : decode YX8_tells_.2.1 167 = .ok (.istore 4, 2) := by decide +kernel
theorem dX8_tells__169 : decode YX8_tells_.2.1 169 = .ok (.iinc 5 1, 3) := by decide +kernel
theorem dX8_tells__172 : decode YX8_tells_.2.1 172 = .ok (.goto (-30), 3) := by decide +kernel
theorem dX8_tells__175 : decode YX8_tells_.2.1 175 = .ok (.iload 4, 2) := by decide +kernel
theorem dX8_tells__177 : decode YX8_tells_.2.1 177 = .ok (.ireturn, 1) := by decide +kernel
theorem dX8_film_0 : decode YX8_film.2.1 0 = .ok (.iload_n 1, 1) := by decide +kernel
theorem dX8_film_1 : decode YX8_film.2.1 1 = .ok (.invokestatic 301, 3) := by decide +kernel
theorem dX8_film_4 : decode YX8_film.2.1 4 = .ok (.ifCond .eq 10, 3) := by decide +kernel
theorem dX8_film_7 : decode YX8_film.2.1 7 = .ok (.iload_n 2, 1) := by decide +kernel
theorem dX8_film_8 : decode YX8_film.2.1 8 = .ok (.invokestatic 141, 3) := by decide +kernel
theorem dX8_film_11 : decode YX8_film.2.1 11 = .ok (.ifCond .ne 6, 3) := by decide +kernel
theorem dX8_film_14 : decode YX8_film.2.1 14 = .ok (.bipush (-2), 2) := by decide +kernel
theorem dX8_film_16 : decode YX8_film.2.1 16 = .ok (.ireturn, 1) := by decide +kernel
theorem dX8_film_17 : decode YX8_film.2.1 17 = .ok (.aload_n 0, 1) := by decide +kernel
theorem dX8_film_18 : decode YX8_film.2.1 18 = .ok (.getfield 113, 3) := by decide +kernel
theorem dX8_film_21 : decode YX8_film.2.1 21 = .ok (.iload_n 1, 1) := by decide +kernel
theorem dX8_film_22 : decode YX8_film.2.1 22 = .ok (.iconst 1, 1) := by decide +kernel
theorem dX8_film_23 : decode YX8_film.2.1 23 = .ok (.iastore, 1) := by decide +kernel
theorem dX8_film_24 : decode YX8_film.2.1 24 = .ok (.aload_n 0, 1) := by decide +kernel
theorem dX8_film_25 : decode YX8_film.2.1 25 = .ok (.getfield 116, 3) := by decide +kernel
theorem dX8_film_28 : decode YX8_film.2.1 28 = .ok (.iload_n 1, 1) := by decide +kernel
theorem dX8_film_29 : decode YX8_film.2.1 29 = .ok (.bipush 8, 2) := by decide +kernel
theorem dX8_film_31 : decode YX8_film.2.1 31 = .ok (.iastore, 1) := by decide +kernel
theorem dX8_film_32 : decode YX8_film.2.1 32 = .ok (.iconst 0, 1) := by decide +kernel
theorem dX8_film_33 : decode YX8_film.2.1 33 = .ok (.istore_n 3, 1) := by decide +kernel
theorem dX8_film_34 : decode YX8_film.2.1 34 = .ok (.iload_n 3, 1) := by decide +kernel
theorem dX8_film_35 : decode YX8_film.2.1 35 = .ok (.bipush 8, 2) := by decide +kernel
theorem dX8_film_37 : decode YX8_film.2.1 37 = .ok (.if_icmp .ge 23, 3) := by decide +kernel
theorem dX8_film_40 : decode YX8_film.2.1 40 = .ok (.aload_n 0, 1) := by decide +kernel
theorem dX8_film_41 : decode YX8_film.2.1 41 = .ok (.getfield 119, 3) := by decide +kernel
theorem dX8_film_44 : decode YX8_film.2.1 44 = .ok (.iload_n 1, 1) := by decide +kernel
theorem dX8_film_45 : decode YX8_film.2.1 45 = .ok (.aaload, 1) := by decide +kernel
theorem dX8_film_46 : decode YX8_film.2.1 46 = .ok (.iload_n 3, 1) := by decide +kernel
theorem dX8_film_47 : decode YX8_film.2.1 47 = .ok (.aload_n 0, 1) := by decide +kernel
theorem dX8_film_48 : decode YX8_film.2.1 48 = .ok (.iload_n 2, 1) := by decide +kernel
theorem dX8_film_49 : decode YX8_film.2.1 49 = .ok (.iload_n 3, 1) := by decide +kernel
theorem dX8_film_50 : decode YX8_film.2.1 50 = .ok (.invokevirtual 282, 3) := by decide +kernel
theorem dX8_film_53 : decode YX8_film.2.1 53 = .ok (.iastore, 1) := by decide +kernel
theorem dX8_film_54 : decode YX8_film.2.1 54 = .ok (.iinc 3 1, 3) := by decide +kernel
theorem dX8_film_57 : decode YX8_film.2.1 57 = .ok (.goto (-23), 3) := by decide +kernel
theorem dX8_film_60 : decode YX8_film.2.1 60 = .ok (.bipush 8, 2) := by decide +kernel
theorem dX8_film_62 : decode YX8_film.2.1 62 = .ok (.ireturn, 1) := by decide +kernel
theorem dX8_image_0 : decode YX8_image.2.1 0 = .ok (.aload_n 0, 1) := by decide +kernel
theorem dX8_image_1 : decode YX8_image.2.1 1 = .ok (.iconst 1, 1) := by decide +kernel
theorem dX8_image_2 : decode YX8_image.2.1 2 = .ok (.putfield 311, 3) := by decide +kernel
theorem dX8_image_5 : decode YX8_image.2.1 5 = .ok (.aload_n 0, 1) := by decide +kernel
theorem dX8_image_6 : decode YX8_image.2.1 6 = .ok (.iconst 1, 1) := by decide +kernel
theorem dX8_image_7 : decode YX8_image.2.1 7 = .ok (.invokevirtual 273, 3) := by decide +kernel
theorem dX8_image_10 : decode YX8_image.2.1 10 = .ok (.aload_n 0, 1) := by decide +kernel
theorem dX8_image_11 : decode YX8_image.2.1 11 = .ok (.getfield 129, 3) := by decide +kernel
theorem dX8_image_14 : decode YX8_image.2.1 14 = .ok (.ireturn, 1) := by decide +kernel
theorem dX8_back_0 : decode YX8_back.2.1 0 = .ok (.aload_n 0, 1) := by decide +kernel
theorem dX8_back_1 : decode YX8_back.2.1 1 = .ok (.getfield 311, 3) := by decide +kernel
theorem dX8_back_4 : decode YX8_back.2.1 4 = .ok (.ifCond .ne 6, 3) := by decide +kernel
theorem dX8_back_7 : decode YX8_back.2.1 7 = .ok (.bipush (-3), 2) := by decide +kernel
theorem dX8_back_9 : decode YX8_back.2.1 9 = .ok (.ireturn, 1) := by decide +kernel
theorem dX8_back_10 : decode YX8_back.2.1 10 = .ok (.aload_n 0, 1) := by decide +kernel
theorem dX8_back_11 : decode YX8_back.2.1 11 = .ok (.iconst 1, 1) := by decide +kernel
theorem dX8_back_12 : decode YX8_back.2.1 12 = .ok (.invokevirtual 276, 3) := by decide +kernel
theorem dX8_back_15 : decode YX8_back.2.1 15 = .ok (.aload_n 0, 1) := by decide +kernel
theorem dX8_back_16 : decode YX8_back.2.1 16 = .ok (.getfield 129, 3) := by decide +kernel
theorem dX8_back_19 : decode YX8_back.2.1 19 = .ok (.ireturn, 1) := by decide +kernel
theorem dX8_count_0 : decode YX8_count.2.1 0 = .ok (.iconst 0, 1) := by decide +kernel
theorem dX8_count_1 : decode YX8_count.2.1 1 = .ok (.istore_n 2, 1) := by decide +kernel
theorem dX8_count_2 : decode YX8_count.2.1 2 = .ok (.iload_n 1, 1) := by decide +kernel
theorem dX8_count_3 : decode YX8_count.2.1 3 = .ok (.tableswitch 109 0 5 #[37, 42, 69, 74, 79, 84], 37) := by decide +kernel
theorem dX8_count_40 : decode YX8_count.2.1 40 = .ok (.aload_n 0, 1) := by decide +kernel
theorem dX8_count_41 : decode YX8_count.2.1 41 = .ok (.getfield 129, 3) := by decide +kernel
theorem dX8_count_44 : decode YX8_count.2.1 44 = .ok (.ireturn, 1) := by decide +kernel
theorem dX8_count_45 : decode YX8_count.2.1 45 = .ok (.iconst 0, 1) := by decide +kernel
theorem dX8_count_46 : decode YX8_count.2.1 46 = .ok (.istore_n 3, 1) := by decide +kernel
theorem dX8_count_47 : decode YX8_count.2.1 47 = .ok (.iload_n 3, 1) := by decide +kernel
theorem dX8_count_48 : decode YX8_count.2.1 48 = .ok (.aload_n 0, 1) := by decide +kernel
theorem dX8_count_49 : decode YX8_count.2.1 49 = .ok (.getfield 129, 3) := by decide +kernel
theorem dX8_count_52 : decode YX8_count.2.1 52 = .ok (.if_icmp .ge 18, 3) := by decide +kernel
theorem dX8_count_55 : decode YX8_count.2.1 55 = .ok (.iload_n 2, 1) := by decide +kernel
theorem dX8_count_56 : decode YX8_count.2.1 56 = .ok (.aload_n 0, 1) := by decide +kernel
theorem dX8_count_57 : decode YX8_count.2.1 57 = .ok (.getfield 19, 3) := by decide +kernel
theorem dX8_count_60 : decode YX8_count.2.1 60 = .ok (.iload_n 3, 1) := by decide +kernel
theorem dX8_count_61 : decode YX8_count.2.1 61 = .ok (.iaload, 1) := by decide +kernel
theorem dX8_count_62 : decode YX8_count.2.1 62 = .ok (.iadd, 1) := by decide +kernel
theorem dX8_count_63 : decode YX8_count.2.1 63 = .ok (.istore_n 2, 1) := by decide +kernel
theorem dX8_count_64 : decode YX8_count.2.1 64 = .ok (.iinc 3 1, 3) := by decide +kernel
theorem dX8_count_67 : decode YX8_count.2.1 67 = .ok (.goto (-20), 3) := by decide +kernel
theorem dX8_count_70 : decode YX8_count.2.1 70 = .ok (.iload_n 2, 1) := by decide +kernel
theorem dX8_count_71 : decode YX8_count.2.1 71 = .ok (.ireturn, 1) := by decide +kernel
theorem dX8_count_72 : decode YX8_count.2.1 72 = .ok (.aload_n 0, 1) := by decide +kernel
theorem dX8_count_73 : decode YX8_count.2.1 73 = .ok (.getfield 241, 3) := by decide +kernel
theorem dX8_count_76 : decode YX8_count.2.1 76 = .ok (.ireturn, 1) := by decide +kernel
theorem dX8_count_77 : decode YX8_count.2.1 77 = .ok (.aload_n 0, 1) := by decide +kernel
theorem dX8_count_78 : decode YX8_count.2.1 78 = .ok (.getfield 244, 3) := by decide +kernel
theorem dX8_count_81 : decode YX8_count.2.1 81 = .ok (.ireturn, 1) := by decide +kernel
theorem dX8_count_82 : decode YX8_count.2.1 82 = .ok (.aload_n 0, 1) := by decide +kernel
theorem dX8_count_83 : decode YX8_count.2.1 83 = .ok (.getfield 225, 3) := by decide +kernel
theorem dX8_count_86 : decode YX8_count.2.1 86 = .ok (.ireturn, 1) := by decide +kernel
theorem dX8_count_87 : decode YX8_count.2.1 87 = .ok (.iconst 0, 1) := by decide +kernel
theorem dX8_count_88 : decode YX8_count.2.1 88 = .ok (.istore_n 3, 1) := by decide +kernel
theorem dX8_count_89 : decode YX8_count.2.1 89 = .ok (.iload_n 3, 1) := by decide +kernel
theorem dX8_count_90 : decode YX8_count.2.1 90 = .ok (.bipush 8, 2) := by decide +kernel
theorem dX8_count_92 : decode YX8_count.2.1 92 = .ok (.if_icmp .ge 18, 3) := by decide +kernel
theorem dX8_count_95 : decode YX8_count.2.1 95 = .ok (.iload_n 2, 1) := by decide +kernel
theorem dX8_count_96 : decode YX8_count.2.1 96 = .ok (.aload_n 0, 1) := by decide +kernel
theorem dX8_count_97 : decode YX8_count.2.1 97 = .ok (.iload_n 3, 1) := by decide +kernel
theorem dX8_count_98 : decode YX8_count.2.1 98 = .ok (.iconst 0, 1) := by decide +kernel
theorem dX8_count_99 : decode YX8_count.2.1 99 = .ok (.invokevirtual 165, 3) := by decide +kernel
theorem dX8_count_102 : decode YX8_count.2.1 102 = .ok (.iadd, 1) := by decide +kernel
theorem dX8_count_103 : decode YX8_count.2.1 103 = .ok (.istore_n 2, 1) := by decide +kernel
theorem dX8_count_104 : decode YX8_count.2.1 104 = .ok (.iinc 3 1, 3) := by decide +kernel
theorem dX8_count_107 : decode YX8_count.2.1 107 = .ok (.goto (-18), 3) := by decide +kernel
theorem dX8_count_110 : decode YX8_count.2.1 110 = .ok (.iload_n 2, 1) := by decide +kernel
theorem dX8_count_111 : decode YX8_count.2.1 111 = .ok (.ireturn, 1) := by decide +kernel
theorem dX8_count_112 : decode YX8_count.2.1 112 = .ok (.bipush (-2), 2) := by decide +kernel
theorem dX8_count_114 : decode YX8_count.2.1 114 = .ok (.ireturn, 1) := by decide +kernel
theorem dX8_isSheet_0 : decode YX8_isSheet.2.1 0 = .ok (.iload_n 0, 1) := by decide +kernel
theorem dX8_isSheet_1 : decode YX8_isSheet.2.1 1 = .ok (.iconst 0, 1) := by decide +kernel
theorem dX8_isSheet_2 : decode YX8_isSheet.2.1 2 = .ok (.iconst 3, 1) := by decide +kernel
theorem dX8_isSheet_3 : decode YX8_isSheet.2.1 3 = .ok (.invokestatic 125, 3) := by decide +kernel
theorem dX8_isSheet_6 : decode YX8_isSheet.2.1 6 = .ok (.ireturn, 1) := by decide +kernel
theorem dX8_sheet_0 : decode YX8_sheet.2.1 0 = .ok (.iload_n 1, 1) := by decide +kernel
theorem dX8_sheet_1 : decode YX8_sheet.2.1 1 = .ok (.invokestatic 301, 3) := by decide +kernel
theorem dX8_sheet_4 : decode YX8_sheet.2.1 4 = .ok (.ifCond .eq 22, 3) := by decide +kernel
theorem dX8_sheet_7 : decode YX8_sheet.2.1 7 = .ok (.iload_n 2, 1) := by decide +kernel
theorem dX8_sheet_8 : decode YX8_sheet.2.1 8 = .ok (.iconst (-1), 1) := by decide +kernel
theorem dX8_sheet_9 : decode YX8_sheet.2.1 9 = .ok (.iconst 1, 1) := by decide +kernel
theorem dX8_sheet_10 : decode YX8_sheet.2.1 10 = .ok (.invokestatic 125, 3) := by decide +kernel
theorem dX8_sheet_13 : decode YX8_sheet.2.1 13 = .ok (.ifCond .eq 13, 3) := by decide +kernel
theorem dX8_sheet_16 : decode YX8_sheet.2.1 16 = .ok (.iload_n 2, 1) := by decide +kernel
theorem dX8_sheet_17 : decode YX8_sheet.2.1 17 = .ok (.ifCond .lt 12, 3) := by decide +kernel
theorem dX8_sheet_20 : decode YX8_sheet.2.1 20 = .ok (.iload_n 3, 1) := by decide +kernel
theorem dX8_sheet_21 : decode YX8_sheet.2.1 21 = .ok (.bipush 40, 2) := by decide +kernel
theorem dX8_sheet_23 : decode YX8_sheet.2.1 23 = .ok (.if_icmp .le 6, 3) := by decide +kernel
theorem dX8_sheet_26 : decode YX8_sheet.2.1 26 = .ok (.bipush (-2), 2) := by decide +kernel
theorem dX8_sheet_28 : decode YX8_sheet.2.1 28 = .ok (.ireturn, 1) := by decide +kernel
theorem dX8_sheet_29 : decode YX8_sheet.2.1 29 = .ok (.iload_n 2, 1) := by decide +kernel
theorem dX8_sheet_30 : decode YX8_sheet.2.1 30 = .ok (.ifCond .lt 10, 3) := by decide +kernel
theorem dX8_sheet_33 : decode YX8_sheet.2.1 33 = .ok (.iload_n 3, 1) := by decide +kernel
theorem dX8_sheet_34 : decode YX8_sheet.2.1 34 = .ok (.ifCond .ge 6, 3) := by decide +kernel
theorem dX8_sheet_37 : decode YX8_sheet.2.1 37 = .ok (.bipush (-14), 2) := by decide +kernel
theorem dX8_sheet_39 : decode YX8_sheet.2.1 39 = .ok (.ireturn, 1) := by decide +kernel
theorem dX8_sheet_40 : decode YX8_sheet.2.1 40 = .ok (.aload_n 0, 1) := by decide +kernel
theorem dX8_sheet_41 : decode YX8_sheet.2.1 41 = .ok (.getfield 113, 3) := by decide +kernel
theorem dX8_sheet_44 : decode YX8_sheet.2.1 44 = .ok (.iload_n 1, 1) := by decide +kernel
theorem dX8_sheet_45 : decode YX8_sheet.2.1 45 = .ok (.iload_n 2, 1) := by decide +kernel
theorem dX8_sheet_46 : decode YX8_sheet.2.1 46 = .ok (.iastore, 1) := by decide +kernel
theorem dX8_sheet_47 : decode YX8_sheet.2.1 47 = .ok (.aload_n 0, 1) := by decide +kernel
theorem dX8_sheet_48 : decode YX8_sheet.2.1 48 = .ok (.getfield 116, 3) := by decide +kernel
theorem dX8_sheet_51 : decode YX8_sheet.2.1 51 = .ok (.iload_n 1, 1) := by decide +kernel
theorem dX8_sheet_52 : decode YX8_sheet.2.1 52 = .ok (.iload_n 2, 1) := by decide +kernel
theorem dX8_sheet_53 : decode YX8_sheet.2.1 53 = .ok (.ifCond .ge 7, 3) := by decide +kernel
theorem dX8_sheet_56 : decode YX8_sheet.2.1 56 = .ok (.iconst 0, 1) := by decide +kernel
theorem dX8_sheet_57 : decode YX8_sheet.2.1 57 = .ok (.goto 4, 3) := by decide +kernel
theorem dX8_sheet_60 : decode YX8_sheet.2.1 60 = .ok (.iload_n 3, 1) := by decide +kernel
theorem dX8_sheet_61 : decode YX8_sheet.2.1 61 = .ok (.iastore, 1) := by decide +kernel
theorem dX8_sheet_62 : decode YX8_sheet.2.1 62 = .ok (.iconst 0, 1) := by decide +kernel
theorem dX8_sheet_63 : decode YX8_sheet.2.1 63 = .ok (.istore 4, 2) := by decide +kernel
theorem dX8_sheet_65 : decode YX8_sheet.2.1 65 = .ok (.iload 4, 2) := by decide +kernel
theorem dX8_sheet_67 : decode YX8_sheet.2.1 67 = .ok (.bipush 40, 2) := by decide +kernel
theorem dX8_sheet_69 : decode YX8_sheet.2.1 69 = .ok (.if_icmp .ge 19, 3) := by decide +kernel
theorem dX8_sheet_72 : decode YX8_sheet.2.1 72 = .ok (.aload_n 0, 1) := by decide +kernel
theorem dX8_sheet_73 : decode YX8_sheet.2.1 73 = .ok (.getfield 119, 3) := by decide +kernel
theorem dX8_sheet_76 : decode YX8_sheet.2.1 76 = .ok (.iload_n 1, 1) := by decide +kernel
theorem dX8_sheet_77 : decode YX8_sheet.2.1 77 = .ok (.aaload, 1) := by decide +kernel
theorem dX8_sheet_78 : decode YX8_sheet.2.1 78 = .ok (.iload 4, 2) := by decide +kernel
theorem dX8_sheet_80 : decode YX8_sheet.2.1 80 = .ok (.iconst 0, 1) := by decide +kernel
theorem dX8_sheet_81 : decode YX8_sheet.2.1 81 = .ok (.iastore, 1) := by decide +kernel
theorem dX8_sheet_82 : decode YX8_sheet.2.1 82 = .ok (.iinc 4 1, 3) := by decide +kernel
theorem dX8_sheet_85 : decode YX8_sheet.2.1 85 = .ok (.goto (-20), 3) := by decide +kernel
theorem dX8_sheet_88 : decode YX8_sheet.2.1 88 = .ok (.iconst 1, 1) := by decide +kernel
theorem dX8_sheet_89 : decode YX8_sheet.2.1 89 = .ok (.ireturn, 1) := by decide +kernel
theorem dX8_cell_0 : decode YX8_cell.2.1 0 = .ok (.iload_n 1, 1) := by decide +kernel
theorem dX8_cell_1 : decode YX8_cell.2.1 1 = .ok (.invokestatic 301, 3) := by decide +kernel
theorem dX8_cell_4 : decode YX8_cell.2.1 4 = .ok (.ifCond .ne 6, 3) := by decide +kernel
theorem dX8_cell_7 : decode YX8_cell.2.1 7 = .ok (.bipush (-2), 2) := by decide +kernel
theorem dX8_cell_9 : decode YX8_cell.2.1 9 = .ok (.ireturn, 1) := by decide +kernel
theorem dX8_cell_10 : decode YX8_cell.2.1 10 = .ok (.aload_n 0, 1) := by decide +kernel
theorem dX8_cell_11 : decode YX8_cell.2.1 11 = .ok (.getfield 113, 3) := by decide +kernel
theorem dX8_cell_14 : decode YX8_cell.2.1 14 = .ok (.iload_n 1, 1) := by decide +kernel
theorem dX8_cell_15 : decode YX8_cell.2.1 15 = .ok (.iaload, 1) := by decide +kernel
theorem dX8_cell_16 : decode YX8_cell.2.1 16 = .ok (.ifCond .ge 6, 3) := by decide +kernel
theorem dX8_cell_19 : decode YX8_cell.2.1 19 = .ok (.bipush (-11), 2) := by decide +kernel
theorem dX8_cell_21 : decode YX8_cell.2.1 21 = .ok (.ireturn, 1) := by decide +kernel
theorem dX8_cell_22 : decode YX8_cell.2.1 22 = .ok (.iload_n 2, 1) := by decide +kernel
theorem dX8_cell_23 : decode YX8_cell.2.1 23 = .ok (.iconst 0, 1) := by decide +kernel
theorem dX8_cell_24 : decode YX8_cell.2.1 24 = .ok (.aload_n 0, 1) := by decide +kernel
theorem dX8_cell_25 : decode YX8_cell.2.1 25 = .ok (.getfield 116, 3) := by decide +kernel
theorem dX8_cell_28 : decode YX8_cell.2.1 28 = .ok (.iload_n 1, 1) := by decide +kernel
theorem dX8_cell_29 : decode YX8_cell.2.1 29 = .ok (.iaload, 1) := by decide +kernel
theorem dX8_cell_30 : decode YX8_cell.2.1 30 = .ok (.iconst 1, 1) := by decide +kernel
theorem dX8_cell_31 : decode YX8_cell.2.1 31 = .ok (.isub, 1) := by decide +kernel
theorem dX8_cell_32 : decode YX8_cell.2.1 32 = .ok (.invokestatic 125, 3) := by decide +kernel
theorem dX8_cell_35 : decode YX8_cell.2.1 35 = .ok (.ifCond .ne 6, 3) := by decide +kernel
theorem dX8_cell_38 : decode YX8_cell.2.1 38 = .ok (.bipush (-12), 2) := by decide +kernel
theorem dX8_cell_40 : decode YX8_cell.2.1 40 = .ok (.ireturn, 1) := by decide +kernel
theorem dX8_cell_41 : decode YX8_cell.2.1 41 = .ok (.aload_n 0, 1) := by decide +kernel
theorem dX8_cell_42 : decode YX8_cell.2.1 42 = .ok (.getfield 119, 3) := by decide +kernel
theorem dX8_cell_45 : decode YX8_cell.2.1 45 = .ok (.iload_n 1, 1) := by decide +kernel
theorem dX8_cell_46 : decode YX8_cell.2.1 46 = .ok (.aaload, 1) := by decide +kernel
theorem dX8_cell_47 : decode YX8_cell.2.1 47 = .ok (.iload_n 2, 1) := by decide +kernel
theorem dX8_cell_48 : decode YX8_cell.2.1 48 = .ok (.aload_n 0, 1) := by decide +kernel
theorem dX8_cell_49 : decode YX8_cell.2.1 49 = .ok (.getfield 113, 3) := by decide +kernel
theorem dX8_cell_52 : decode YX8_cell.2.1 52 = .ok (.iload_n 1, 1) := by decide +kernel
theorem dX8_cell_53 : decode YX8_cell.2.1 53 = .ok (.iaload, 1) := by decide +kernel
theorem dX8_cell_54 : decode YX8_cell.2.1 54 = .ok (.ifCond .ne 8, 3) := by decide +kernel
theorem dX8_cell_57 : decode YX8_cell.2.1 57 = .ok (.iload_n 3, 1) := by decide +kernel
theorem dX8_cell_58 : decode YX8_cell.2.1 58 = .ok (.i2s, 1) := by decide +kernel
theorem dX8_cell_59 : decode YX8_cell.2.1 59 = .ok (.goto 4, 3) := by decide +kernel
theorem dX8_cell_62 : decode YX8_cell.2.1 62 = .ok (.iload_n 3, 1) := by decide +kernel
theorem dX8_cell_63 : decode YX8_cell.2.1 63 = .ok (.iastore, 1) := by decide +kernel
theorem dX8_cell_64 : decode YX8_cell.2.1 64 = .ok (.iconst 1, 1) := by decide +kernel
theorem dX8_cell_65 : decode YX8_cell.2.1 65 = .ok (.ireturn, 1) := by decide +kernel
theorem dX8_copy_0 : decode YX8_copy.2.1 0 = .ok (.iload_n 1, 1) := by decide +kernel
theorem dX8_copy_1 : decode YX8_copy.2.1 1 = .ok (.invokestatic 301, 3) := by decide +kernel
theorem dX8_copy_4 : decode YX8_copy.2.1 4 = .ok (.ifCond .eq 10, 3) := by decide +kernel
theorem dX8_copy_7 : decode YX8_copy.2.1 7 = .ok (.iload_n 3, 1) := by decide +kernel
theorem dX8_copy_8 : decode YX8_copy.2.1 8 = .ok (.invokestatic 301, 3) := by decide +kernel
theorem dX8_copy_11 : decode YX8_copy.2.1 11 = .ok (.ifCond .ne 6, 3) := by decide +kernel
theorem dX8_copy_14 : decode YX8_copy.2.1 14 = .ok (.bipush (-2), 2) := by decide +kernel
theorem dX8_copy_16 : decode YX8_copy.2.1 16 = .ok (.ireturn, 1) := by decide +kernel
theorem dX8_copy_17 : decode YX8_copy.2.1 17 = .ok (.aload_n 0, 1) := by decide +kernel
theorem dX8_copy_18 : decode YX8_copy.2.1 18 = .ok (.getfield 113, 3) := by decide +kernel
theorem dX8_copy_21 : decode YX8_copy.2.1 21 = .ok (.iload_n 1, 1) := by decide +kernel
theorem dX8_copy_22 : decode YX8_copy.2.1 22 = .ok (.iaload, 1) := by decide +kernel
theorem dX8_copy_23 : decode YX8_copy.2.1 23 = .ok (.ifCond .lt 12, 3) := by decide +kernel
theorem dX8_copy_26 : decode YX8_copy.2.1 26 = .ok (.aload_n 0, 1) := by decide +kernel
theorem dX8_copy_27 : decode YX8_copy.2.1 27 = .ok (.getfield 113, 3) := by decide +kernel
theorem dX8_copy_30 : decode YX8_copy.2.1 30 = .ok (.iload_n 3, 1) := by decide +kernel
theorem dX8_copy_31 : decode YX8_copy.2.1 31 = .ok (.iaload, 1) := by decide +kernel
theorem dX8_copy_32 : decode YX8_copy.2.1 32 = .ok (.ifCond .ge 6, 3) := by decide +kernel
theorem dX8_copy_35 : decode YX8_copy.2.1 35 = .ok (.bipush (-11), 2) := by decide +kernel
theorem dX8_copy_37 : decode YX8_copy.2.1 37 = .ok (.ireturn, 1) := by decide +kernel
theorem dX8_copy_38 : decode YX8_copy.2.1 38 = .ok (.aload_n 0, 1) := by decide +kernel
theorem dX8_copy_39 : decode YX8_copy.2.1 39 = .ok (.getfield 113, 3) := by decide +kernel
theorem dX8_copy_42 : decode YX8_copy.2.1 42 = .ok (.iload_n 1, 1) := by decide +kernel
theorem dX8_copy_43 : decode YX8_copy.2.1 43 = .ok (.iaload, 1) := by decide +kernel
theorem dX8_copy_44 : decode YX8_copy.2.1 44 = .ok (.aload_n 0, 1) := by decide +kernel
theorem dX8_copy_45 : decode YX8_copy.2.1 45 = .ok (.getfield 113, 3) := by decide +kernel
theorem dX8_copy_48 : decode YX8_copy.2.1 48 = .ok (.iload_n 3, 1) := by decide +kernel
theorem dX8_copy_49 : decode YX8_copy.2.1 49 = .ok (.iaload, 1) := by decide +kernel
theorem dX8_copy_50 : decode YX8_copy.2.1 50 = .ok (.if_icmp .eq 6, 3) := by decide +kernel
theorem dX8_copy_53 : decode YX8_copy.2.1 53 = .ok (.bipush (-13), 2) := by decide +kernel
theorem dX8_copy_55 : decode YX8_copy.2.1 55 = .ok (.ireturn, 1) := by decide +kernel
theorem dX8_copy_56 : decode YX8_copy.2.1 56 = .ok (.iload 5, 2) := by decide +kernel
theorem dX8_copy_58 : decode YX8_copy.2.1 58 = .ok (.ifCond .lt 39, 3) := by decide +kernel
theorem dX8_copy_61 : decode YX8_copy.2.1 61 = .ok (.iload_n 2, 1) := by decide +kernel
theorem dX8_copy_62 : decode YX8_copy.2.1 62 = .ok (.ifCond .lt 35, 3) := by decide +kernel
theorem dX8_copy_65 : decode YX8_copy.2.1 65 = .ok (.iload 4, 2) := by decide +kernel
theorem dX8_copy_67 : decode YX8_copy.2.1 67 = .ok (.ifCond .lt 30, 3) := by decide +kernel
theorem dX8_copy_70 : decode YX8_copy.2.1 70 = .ok (.iload_n 2, 1) := by decide +kernel
theorem dX8_copy_71 : decode YX8_copy.2.1 71 = .ok (.aload_n 0, 1) := by decide +kernel
theorem dX8_copy_72 : decode YX8_copy.2.1 72 = .ok (.getfield 116, 3) := by decide +kernel
theorem dX8_copy_75 : decode YX8_copy.2.1 75 = .ok (.iload_n 1, 1) := by decide +kernel
theorem dX8_copy_76 : decode YX8_copy.2.1 76 = .ok (.iaload, 1) := by decide +kernel
theorem dX8_copy_77 : decode YX8_copy.2.1 77 = .ok (.iload 5, 2) := by decide +kernel
theorem dX8_copy_79 : decode YX8_copy.2.1 79 = .ok (.isub, 1) := by decide +kernel
theorem dX8_copy_80 : decode YX8_copy.2.1 80 = .ok (.if_icmp .gt 17, 3) := by decide +kernel
theorem dX8_copy_83 : decode YX8_copy.2.1 83 = .ok (.iload 4, 2) := by decide +kernel
theorem dX8_copy_85 : decode YX8_copy.2.1 85 = .ok (.aload_n 0, 1) := by decide +kernel
theorem dX8_copy_86 : decode YX8_copy.2.1 86 = .ok (.getfield 116, 3) := by decide +kernel
theorem dX8_copy_89 : decode YX8_copy.2.1 89 = .ok (.iload_n 3, 1) := by decide +kernel
theorem dX8_copy_90 : decode YX8_copy.2.1 90 = .ok (.iaload, 1) := by decide +kernel
theorem dX8_copy_91 : decode YX8_copy.2.1 91 = .ok (.iload 5, 2) := by decide +kernel
theorem dX8_copy_93 : decode YX8_copy.2.1 93 = .ok (.isub, 1) := by decide +kernel
theorem dX8_copy_94 : decode YX8_copy.2.1 94 = .ok (.if_icmp .le 6, 3) := by decide +kernel
theorem dX8_copy_97 : decode YX8_copy.2.1 97 = .ok (.bipush (-12), 2) := by decide +kernel
theorem dX8_copy_99 : decode YX8_copy.2.1 99 = .ok (.ireturn, 1) := by decide +kernel
theorem dX8_copy_100 : decode YX8_copy.2.1 100 = .ok (.aload_n 0, 1) := by decide +kernel
theorem dX8_copy_101 : decode YX8_copy.2.1 101 = .ok (.getfield 119, 3) := by decide +kernel
theorem dX8_copy_104 : decode YX8_copy.2.1 104 = .ok (.iload_n 1, 1) := by decide +kernel
theorem dX8_copy_105 : decode YX8_copy.2.1 105 = .ok (.aaload, 1) := by decide +kernel
theorem dX8_copy_106 : decode YX8_copy.2.1 106 = .ok (.iload_n 2, 1) := by decide +kernel
theorem dX8_copy_107 : decode YX8_copy.2.1 107 = .ok (.aload_n 0, 1) := by decide +kernel
theorem dX8_copy_108 : decode YX8_copy.2.1 108 = .ok (.getfield 122, 3) := by decide +kernel
theorem dX8_copy_111 : decode YX8_copy.2.1 111 = .ok (.iconst 0, 1) := by decide +kernel
theorem dX8_copy_112 : decode YX8_copy.2.1 112 = .ok (.iload 5, 2) := by decide +kernel
theorem dX8_copy_114 : decode YX8_copy.2.1 114 = .ok (.invokestatic 213, 3) := by decide +kernel
theorem dX8_copy_117 : decode YX8_copy.2.1 117 = .ok (.aload_n 0, 1) := by decide +kernel
theorem dX8_copy_118 : decode YX8_copy.2.1 118 = .ok (.getfield 122, 3) := by decide +kernel
theorem dX8_copy_121 : decode YX8_copy.2.1 121 = .ok (.iconst 0, 1) := by decide +kernel
theorem dX8_copy_122 : decode YX8_copy.2.1 122 = .ok (.aload_n 0, 1) := by decide +kernel
theorem dX8_copy_123 : decode YX8_copy.2.1 123 = .ok (.getfield 119, 3) := by decide +kernel
theorem dX8_copy_126 : decode YX8_copy.2.1 126 = .ok (.iload_n 3, 1) := by decide +kernel
theorem dX8_copy_127 : decode YX8_copy.2.1 127 = .ok (.aaload, 1) := by decide +kernel
theorem dX8_copy_128 : decode YX8_copy.2.1 128 = .ok (.iload 4, 2) := by decide +kernel
theorem dX8_copy_130 : decode YX8_copy.2.1 130 = .ok (.iload 5, 2) := by decide +kernel
theorem dX8_copy_132 : decode YX8_copy.2.1 132 = .ok (.invokestatic 213, 3) := by decide +kernel
theorem dX8_copy_135 : decode YX8_copy.2.1 135 = .ok (.iload 5, 2) := by decide +kernel
theorem dX8_copy_137 : decode YX8_copy.2.1 137 = .ok (.ireturn, 1) := by decide +kernel
theorem dJ6_bitCount_0f7a4_0 : decode YJ6_bitCount_0f7a4.2.1 0 = .ok (.iload_n 0, 1) := by decide +kernel
theorem dJ6_bitCount_0f7a4_1 : decode YJ6_bitCount_0f7a4.2.1 1 = .ok (.iload_n 0, 1) := by decide +kernel
theorem dJ6_bitCount_0f7a4_2 : decode YJ6_bitCount_0f7a4.2.1 2 = .ok (.iconst 1, 1) := by decide +kernel
theorem dJ6_bitCount_0f7a4_3 : decode YJ6_bitCount_0f7a4.2.1 3 = .ok (.iushr, 1) := by decide +kernel
theorem dJ6_bitCount_0f7a4_4 : decode YJ6_bitCount_0f7a4.2.1 4 = .ok (.ldc_w 265, 3) := by decide +kernel
theorem dJ6_bitCount_0f7a4_7 : decode YJ6_bitCount_0f7a4.2.1 7 = .ok (.iand, 1) := by decide +kernel
theorem dJ6_bitCount_0f7a4_8 : decode YJ6_bitCount_0f7a4.2.1 8 = .ok (.isub, 1) := by decide +kernel
theorem dJ6_bitCount_0f7a4_9 : decode YJ6_bitCount_0f7a4.2.1 9 = .ok (.istore_n 0, 1) := by decide +kernel
theorem dJ6_bitCount_0f7a4_10 : decode YJ6_bitCount_0f7a4.2.1 10 = .ok (.iload_n 0, 1) := by decide +kernel
theorem dJ6_bitCount_0f7a4_11 : decode YJ6_bitCount_0f7a4.2.1 11 = .ok (.ldc_w 266, 3) := by decide +kernel
theorem dJ6_bitCount_0f7a4_14 : decode YJ6_bitCount_0f7a4.2.1 14 = .ok (.iand, 1) := by decide +kernel
theorem dJ6_bitCount_0f7a4_15 : decode YJ6_bitCount_0f7a4.2.1 15 = .ok (.iload_n 0, 1) := by decide +kernel
theorem dJ6_bitCount_0f7a4_16 : decode YJ6_bitCount_0f7a4.2.1 16 = .ok (.iconst 2, 1) := by decide +kernel
theorem dJ6_bitCount_0f7a4_17 : decode YJ6_bitCount_0f7a4.2.1 17 = .ok (.iushr, 1) := by decide +kernel
theorem dJ6_bitCount_0f7a4_18 : decode YJ6_bitCount_0f7a4.2.1 18 = .ok (.ldc_w 266, 3) := by decide +kernel
theorem dJ6_bitCount_0f7a4_21 : decode YJ6_bitCount_0f7a4.2.1 21 = .ok (.iand, 1) := by decide +kernel
theorem dJ6_bitCount_0f7a4_22 : decode YJ6_bitCount_0f7a4.2.1 22 = .ok (.iadd, 1) := by decide +kernel
theorem dJ6_bitCount_0f7a4_23 : decode YJ6_bitCount_0f7a4.2.1 23 = .ok (.istore_n 0, 1) := by decide +kernel
theorem dJ6_bitCount_0f7a4_24 : decode YJ6_bitCount_0f7a4.2.1 24 = .ok (.iload_n 0, 1) := by decide +kernel
theorem dJ6_bitCount_0f7a4_25 : decode YJ6_bitCount_0f7a4.2.1 25 = .ok (.iload_n 0, 1) := by decide +kernel
theorem dJ6_bitCount_0f7a4_26 : decode YJ6_bitCount_0f7a4.2.1 26 = .ok (.iconst 4, 1) := by decide +kernel
theorem dJ6_bitCount_0f7a4_27 : decode YJ6_bitCount_0f7a4.2.1 27 = .ok (.iushr, 1) := by decide +kernel
theorem dJ6_bitCount_0f7a4_28 : decode YJ6_bitCount_0f7a4.2.1 28 = .ok (.iadd, 1) := by decide +kernel
theorem dJ6_bitCount_0f7a4_29 : decode YJ6_bitCount_0f7a4.2.1 29 = .ok (.ldc_w 267, 3) := by decide +kernel
theorem dJ6_bitCount_0f7a4_32 : decode YJ6_bitCount_0f7a4.2.1 32 = .ok (.iand, 1) := by decide +kernel
theorem dJ6_bitCount_0f7a4_33 : decode YJ6_bitCount_0f7a4.2.1 33 = .ok (.istore_n 0, 1) := by decide +kernel
theorem dJ6_bitCount_0f7a4_34 : decode YJ6_bitCount_0f7a4.2.1 34 = .ok (.iload_n 0, 1) := by decide +kernel
theorem dJ6_bitCount_0f7a4_35 : decode YJ6_bitCount_0f7a4.2.1 35 = .ok (.iload_n 0, 1) := by decide +kernel
theorem dJ6_bitCount_0f7a4_36 : decode YJ6_bitCount_0f7a4.2.1 36 = .ok (.bipush 8, 2) := by decide +kernel
theorem dJ6_bitCount_0f7a4_38 : decode YJ6_bitCount_0f7a4.2.1 38 = .ok (.iushr, 1) := by decide +kernel
theorem dJ6_bitCount_0f7a4_39 : decode YJ6_bitCount_0f7a4.2.1 39 = .ok (.iadd, 1) := by decide +kernel
theorem dJ6_bitCount_0f7a4_40 : decode YJ6_bitCount_0f7a4.2.1 40 = .ok (.istore_n 0, 1) := by decide +kernel
theorem dJ6_bitCount_0f7a4_41 : decode YJ6_bitCount_0f7a4.2.1 41 = .ok (.iload_n 0, 1) := by decide +kernel
theorem dJ6_bitCount_0f7a4_42 : decode YJ6_bitCount_0f7a4.2.1 42 = .ok (.iload_n 0, 1) := by decide +kernel
theorem dJ6_bitCount_0f7a4_43 : decode YJ6_bitCount_0f7a4.2.1 43 = .ok (.bipush 16, 2) := by decide +kernel
theorem dJ6_bitCount_0f7a4_45 : decode YJ6_bitCount_0f7a4.2.1 45 = .ok (.iushr, 1) := by decide +kernel
theorem dJ6_bitCount_0f7a4_46 : decode YJ6_bitCount_0f7a4.2.1 46 = .ok (.iadd, 1) := by decide +kernel
theorem dJ6_bitCount_0f7a4_47 : decode YJ6_bitCount_0f7a4.2.1 47 = .ok (.istore_n 0, 1) := by decide +kernel
theorem dJ6_bitCount_0f7a4_48 : decode YJ6_bitCount_0f7a4.2.1 48 = .ok (.iload_n 0, 1) := by decide +kernel
theorem dJ6_bitCount_0f7a4_49 : decode YJ6_bitCount_0f7a4.2.1 49 = .ok (.bipush 63, 2) := by decide +kernel
theorem dJ6_bitCount_0f7a4_51 : decode YJ6_bitCount_0f7a4.2.1 51 = .ok (.iand, 1) := by decide +kernel
theorem dJ6_bitCount_0f7a4_52 : decode YJ6_bitCount_0f7a4.2.1 52 = .ok (.ireturn, 1) := by decide +kernel
theorem dJ9_min_7cf53_0 : decode YJ9_min_7cf53.2.1 0 = .ok (.iload_n 0, 1) := by decide +kernel
theorem dJ9_min_7cf53_1 : decode YJ9_min_7cf53.2.1 1 = .ok (.iload_n 1, 1) := by decide +kernel
theorem dJ9_min_7cf53_2 : decode YJ9_min_7cf53.2.1 2 = .ok (.if_icmp .gt 7, 3) := by decide +kernel
theorem dJ9_min_7cf53_5 : decode YJ9_min_7cf53.2.1 5 = .ok (.iload_n 0, 1) := by decide +kernel
theorem dJ9_min_7cf53_6 : decode YJ9_min_7cf53.2.1 6 = .ok (.goto 4, 3) := by decide +kernel
theorem dJ9_min_7cf53_9 : decode YJ9_min_7cf53.2.1 9 = .ok (.iload_n 1, 1) := by decide +kernel
theorem dJ9_min_7cf53_10 : decode YJ9_min_7cf53.2.1 10 = .ok (.ireturn, 1) := by decide +kernel
theorem dJ7_fill_53178_0 : decode YJ7_fill_53178.2.1 0 = .ok (.iconst 0, 1) := by decide +kernel
theorem dJ7_fill_53178_1 : decode YJ7_fill_53178.2.1 1 = .ok (.istore_n 2, 1) := by decide +kernel
theorem dJ7_fill_53178_2 : decode YJ7_fill_53178.2.1 2 = .ok (.aload_n 0, 1) := by decide +kernel
theorem dJ7_fill_53178_3 : decode YJ7_fill_53178.2.1 3 = .ok (.arraylength, 1) := by decide +kernel
theorem dJ7_fill_53178_4 : decode YJ7_fill_53178.2.1 4 = .ok (.istore_n 3, 1) := by decide +kernel
theorem dJ7_fill_53178_5 : decode YJ7_fill_53178.2.1 5 = .ok (.iload_n 2, 1) := by decide +kernel
theorem dJ7_fill_53178_6 : decode YJ7_fill_53178.2.1 6 = .ok (.iload_n 3, 1) := by decide +kernel
theorem dJ7_fill_53178_7 : decode YJ7_fill_53178.2.1 7 = .ok (.if_icmp .ge 13, 3) := by decide +kernel
theorem dJ7_fill_53178_10 : decode YJ7_fill_53178.2.1 10 = .ok (.aload_n 0, 1) := by decide +kernel
theorem dJ7_fill_53178_11 : decode YJ7_fill_53178.2.1 11 = .ok (.iload_n 2, 1) := by decide +kernel
theorem dJ7_fill_53178_12 : decode YJ7_fill_53178.2.1 12 = .ok (.iload_n 1, 1) := by decide +kernel
theorem dJ7_fill_53178_13 : decode YJ7_fill_53178.2.1 13 = .ok (.iastore, 1) := by decide +kernel
theorem dJ7_fill_53178_14 : decode YJ7_fill_53178.2.1 14 = .ok (.iinc 2 1, 3) := by decide +kernel
theorem dJ7_fill_53178_17 : decode YJ7_fill_53178.2.1 17 = .ok (.goto (-12), 3) := by decide +kernel
theorem dJ7_fill_53178_20 : decode YJ7_fill_53178.2.1 20 = .ok (.return_, 1) := by decide +kernel
theorem dL_law_0 : decode YL_law.2.1 0 = .ok (.new 7, 3) := by decide +kernel
theorem dL_law_3 : decode YL_law.2.1 3 = .ok (.dup, 1) := by decide +kernel
theorem dL_law_4 : decode YL_law.2.1 4 = .ok (.invokespecial 9, 3) := by decide +kernel
theorem dL_law_7 : decode YL_law.2.1 7 = .ok (.astore_n 1, 1) := by decide +kernel
theorem dL_law_8 : decode YL_law.2.1 8 = .ok (.new 10, 3) := by decide +kernel
theorem dL_law_11 : decode YL_law.2.1 11 = .ok (.dup, 1) := by decide +kernel
theorem dL_law_12 : decode YL_law.2.1 12 = .ok (.invokespecial 12, 3) := by decide +kernel
theorem dL_law_15 : decode YL_law.2.1 15 = .ok (.astore_n 2, 1) := by decide +kernel
theorem dL_law_16 : decode YL_law.2.1 16 = .ok (.iconst 0, 1) := by decide +kernel
theorem dL_law_17 : decode YL_law.2.1 17 = .ok (.istore_n 3, 1) := by decide +kernel
theorem dL_law_18 : decode YL_law.2.1 18 = .ok (.iload_n 3, 1) := by decide +kernel
theorem dL_law_19 : decode YL_law.2.1 19 = .ok (.aload_n 0, 1) := by decide +kernel
theorem dL_law_20 : decode YL_law.2.1 20 = .ok (.arraylength, 1) := by decide +kernel
theorem dL_law_21 : decode YL_law.2.1 21 = .ok (.bipush 6, 2) := by decide +kernel
theorem dL_law_23 : decode YL_law.2.1 23 = .ok (.isub, 1) := by decide +kernel
theorem dL_law_24 : decode YL_law.2.1 24 = .ok (.if_icmp .gt 1129, 3) := by decide +kernel
theorem dL_law_27 : decode YL_law.2.1 27 = .ok (.aload_n 0, 1) := by decide +kernel
theorem dL_law_28 : decode YL_law.2.1 28 = .ok (.iload_n 3, 1) := by decide +kernel
theorem dL_law_29 : decode YL_law.2.1 29 = .ok (.iaload, 1) := by decide +kernel
theorem dL_law_30 : decode YL_law.2.1 30 = .ok (.bipush 31, 2) := by decide +kernel
theorem dL_law_32 : decode YL_law.2.1 32 = .ok (.iand, 1) := by decide +kernel
theorem dL_law_33 : decode YL_law.2.1 33 = .ok (.tableswitch 1114 0 26 #[123, 186, 219, 262, 295, 328, 361, 374, 397, 450, 483, 536, 579, 622, 655, 688, 711, 754, 787, 840, 883, 916, 929, 942, 965, 1008, 1051], 123) := by decide +kernel
theorem dL_law_156 : decode YL_law.2.1 156 = .ok (.aload_n 1, 1) := by decide +kernel
theorem dL_law_157 : decode YL_law.2.1 157 = .ok (.aload_n 0, 1) := by decide +kernel
theorem dL_law_158 : decode YL_law.2.1 158 = .ok (.iload_n 3, 1) := by decide +kernel
theorem dL_law_159 : decode YL_law.2.1 159 = .ok (.iconst 1, 1) := by decide +kernel
theorem dL_law_160 : decode YL_law.2.1 160 = .ok (.iadd, 1) := by decide +kernel
theorem dL_law_161 : decode YL_law.2.1 161 = .ok (.iaload, 1) := by decide +kernel
theorem dL_law_162 : decode YL_law.2.1 162 = .ok (.aload_n 0, 1) := by decide +kernel
theorem dL_law_163 : decode YL_law.2.1 163 = .ok (.iload_n 3, 1) := by decide +kernel
theorem dL_law_164 : decode YL_law.2.1 164 = .ok (.iconst 2, 1) := by decide +kernel
theorem dL_law_165 : decode YL_law.2.1 165 = .ok (.iadd, 1) := by decide +kernel
theorem dL_law_166 : decode YL_law.2.1 166 = .ok (.iaload, 1) := by decide +kernel
theorem dL_law_167 : decode YL_law.2.1 167 = .ok (.aload_n 0, 1) := by decide +kernel
theorem dL_law_168 : decode YL_law.2.1 168 = .ok (.iload_n 3, 1) := by decide +kernel
theorem dL_law_169 : decode YL_law.2.1 169 = .ok (.iconst 3, 1) := by decide +kernel
theorem dL_law_170 : decode YL_law.2.1 170 = .ok (.iadd, 1) := by decide +kernel
theorem dL_law_171 : decode YL_law.2.1 171 = .ok (.iaload, 1) := by decide +kernel
theorem dL_law_172 : decode YL_law.2.1 172 = .ok (.aload_n 0, 1) := by decide +kernel
theorem dL_law_173 : decode YL_law.2.1 173 = .ok (.iload_n 3, 1) := by decide +kernel
theorem dL_law_174 : decode YL_law.2.1 174 = .ok (.iconst 4, 1) := by decide +kernel
theorem dL_law_175 : decode YL_law.2.1 175 = .ok (.iadd, 1) := by decide +kernel
theorem dL_law_176 : decode YL_law.2.1 176 = .ok (.iaload, 1) := by decide +kernel
theorem dL_law_177 : decode YL_law.2.1 177 = .ok (.aload_n 0, 1) := by decide +kernel
theorem dL_law_178 : decode YL_law.2.1 178 = .ok (.iload_n 3, 1) := by decide +kernel
theorem dL_law_179 : decode YL_law.2.1 179 = .ok (.iconst 5, 1) := by decide +kernel
theorem dL_law_180 : decode YL_law.2.1 180 = .ok (.iadd, 1) := by decide +kernel
theorem dL_law_181 : decode YL_law.2.1 181 = .ok (.iaload, 1) := by decide +kernel
theorem dL_law_182 : decode YL_law.2.1 182 = .ok (.invokevirtual 13, 3) := by decide +kernel
theorem dL_law_185 : decode YL_law.2.1 185 = .ok (.aload_n 2, 1) := by decide +kernel
theorem dL_law_186 : decode YL_law.2.1 186 = .ok (.aload_n 0, 1) := by decide +kernel
theorem dL_law_187 : decode YL_law.2.1 187 = .ok (.iload_n 3, 1) := by decide +kernel
theorem dL_law_188 : decode YL_law.2.1 188 = .ok (.iconst 1, 1) := by decide +kernel
theorem dL_law_189 : decode YL_law.2.1 189 = .ok (.iadd, 1) := by decide +kernel
theorem dL_law_190 : decode YL_law.2.1 190 = .ok (.iaload, 1) := by decide +kernel
theorem dL_law_191 : decode YL_law.2.1 191 = .ok (.aload_n 0, 1) := by decide +kernel
theorem dL_law_192 : decode YL_law.2.1 192 = .ok (.iload_n 3, 1) := by decide +kernel
theorem dL_law_193 : decode YL_law.2.1 193 = .ok (.iconst 2, 1) := by decide +kernel
theorem dL_law_194 : decode YL_law.2.1 194 = .ok (.iadd, 1) := by decide +kernel
theorem dL_law_195 : decode YL_law.2.1 195 = .ok (.iaload, 1) := by decide +kernel
theorem dL_law_196 : decode YL_law.2.1 196 = .ok (.aload_n 0, 1) := by decide +kernel
theorem dL_law_197 : decode YL_law.2.1 197 = .ok (.iload_n 3, 1) := by decide +kernel
theorem dL_law_198 : decode YL_law.2.1 198 = .ok (.iconst 3, 1) := by decide +kernel
theorem dL_law_199 : decode YL_law.2.1 199 = .ok (.iadd, 1) := by decide +kernel
theorem dL_law_200 : decode YL_law.2.1 200 = .ok (.iaload, 1) := by decide +kernel
theorem dL_law_201 : decode YL_law.2.1 201 = .ok (.aload_n 0, 1) := by decide +kernel
theorem dL_law_202 : decode YL_law.2.1 202 = .ok (.iload_n 3, 1) := by decide +kernel
theorem dL_law_203 : decode YL_law.2.1 203 = .ok (.iconst 4, 1) := by decide +kernel
theorem dL_law_204 : decode YL_law.2.1 204 = .ok (.iadd, 1) := by decide +kernel
theorem dL_law_205 : decode YL_law.2.1 205 = .ok (.iaload, 1) := by decide +kernel
theorem dL_law_206 : decode YL_law.2.1 206 = .ok (.aload_n 0, 1) := by decide +kernel
theorem dL_law_207 : decode YL_law.2.1 207 = .ok (.iload_n 3, 1) := by decide +kernel
theorem dL_law_208 : decode YL_law.2.1 208 = .ok (.iconst 5, 1) := by decide +kernel
theorem dL_law_209 : decode YL_law.2.1 209 = .ok (.iadd, 1) := by decide +kernel
theorem dL_law_210 : decode YL_law.2.1 210 = .ok (.iaload, 1) := by decide +kernel
theorem dL_law_211 : decode YL_law.2.1 211 = .ok (.invokevirtual 17, 3) := by decide +kernel
theorem dL_law_214 : decode YL_law.2.1 214 = .ok (.if_icmp .eq 933, 3) := by decide +kernel
theorem dL_law_217 : decode YL_law.2.1 217 = .ok (.iconst 0, 1) := by decide +kernel
theorem dL_law_218 : decode YL_law.2.1 218 = .ok (.ireturn, 1) := by decide +kernel
theorem dL_law_219 : decode YL_law.2.1 219 = .ok (.aload_n 1, 1) := by decide +kernel
theorem dL_law_220 : decode YL_law.2.1 220 = .ok (.aload_n 0, 1) := by decide +kernel
theorem dL_law_221 : decode YL_law.2.1 221 = .ok (.iload_n 3, 1) := by decide +kernel
theorem dL_law_222 : decode YL_law.2.1 222 = .ok (.iconst 1, 1) := by decide +kernel
theorem dL_law_223 : decode YL_law.2.1 223 = .ok (.iadd, 1) := by decide +kernel
theorem dL_law_224 : decode YL_law.2.1 224 = .ok (.iaload, 1) := by decide +kernel
theorem dL_law_225 : decode YL_law.2.1 225 = .ok (.aload_n 0, 1) := by decide +kernel
theorem dL_law_226 : decode YL_law.2.1 226 = .ok (.iload_n 3, 1) := by decide +kernel
theorem dL_law_227 : decode YL_law.2.1 227 = .ok (.iconst 2, 1) := by decide +kernel
theorem dL_law_228 : decode YL_law.2.1 228 = .ok (.iadd, 1) := by decide +kernel
theorem dL_law_229 : decode YL_law.2.1 229 = .ok (.iaload, 1) := by decide +kernel
theorem dL_law_230 : decode YL_law.2.1 230 = .ok (.invokevirtual 18, 3) := by decide +kernel
theorem dL_law_233 : decode YL_law.2.1 233 = .ok (.aload_n 2, 1) := by decide +kernel
theorem dL_law_234 : decode YL_law.2.1 234 = .ok (.aload_n 0, 1) := by decide +kernel
theorem dL_law_235 : decode YL_law.2.1 235 = .ok (.iload_n 3, 1) := by decide +kernel
theorem dL_law_236 : decode YL_law.2.1 236 = .ok (.iconst 1, 1) := by decide +kernel
theorem dL_law_237 : decode YL_law.2.1 237 = .ok (.iadd, 1) := by decide +kernel
theorem dL_law_238 : decode YL_law.2.1 238 = .ok (.iaload, 1) := by decide +kernel
theorem dL_law_239 : decode YL_law.2.1 239 = .ok (.aload_n 0, 1) := by decide +kernel
theorem dL_law_240 : decode YL_law.2.1 240 = .ok (.iload_n 3, 1) := by decide +kernel
theorem dL_law_241 : decode YL_law.2.1 241 = .ok (.iconst 2, 1) := by decide +kernel
theorem dL_law_242 : decode YL_law.2.1 242 = .ok (.iadd, 1) := by decide +kernel
theorem dL_law_243 : decode YL_law.2.1 243 = .ok (.iaload, 1) := by decide +kernel
theorem dL_law_244 : decode YL_law.2.1 244 = .ok (.invokevirtual 22, 3) := by decide +kernel
theorem dL_law_247 : decode YL_law.2.1 247 = .ok (.if_icmp .eq 900, 3) := by decide +kernel
theorem dL_law_250 : decode YL_law.2.1 250 = .ok (.iconst 0, 1) := by decide +kernel
theorem dL_law_251 : decode YL_law.2.1 251 = .ok (.ireturn, 1) := by decide +kernel
theorem dL_law_252 : decode YL_law.2.1 252 = .ok (.aload_n 1, 1) := by decide +kernel
theorem dL_law_253 : decode YL_law.2.1 253 = .ok (.aload_n 0, 1) := by decide +kernel
theorem dL_law_254 : decode YL_law.2.1 254 = .ok (.iload_n 3, 1) := by decide +kernel
theorem dL_law_255 : decode YL_law.2.1 255 = .ok (.iconst 1, 1) := by decide +kernel
theorem dL_law_256 : decode YL_law.2.1 256 = .ok (.iadd, 1) := by decide +kernel
theorem dL_law_257 : decode YL_law.2.1 257 = .ok (.iaload, 1) := by decide +kernel
theorem dL_law_258 : decode YL_law.2.1 258 = .ok (.aload_n 0, 1) := by decide +kernel
theorem dL_law_259 : decode YL_law.2.1 259 = .ok (.iload_n 3, 1) := by decide +kernel
theorem dL_law_260 : decode YL_law.2.1 260 = .ok (.iconst 2, 1) := by decide +kernel
theorem dL_law_261 : decode YL_law.2.1 261 = .ok (.iadd, 1) := by decide +kernel
theorem dL_law_262 : decode YL_law.2.1 262 = .ok (.iaload, 1) := by decide +kernel
theorem dL_law_263 : decode YL_law.2.1 263 = .ok (.aload_n 0, 1) := by decide +kernel
theorem dL_law_264 : decode YL_law.2.1 264 = .ok (.iload_n 3, 1) := by decide +kernel
theorem dL_law_265 : decode YL_law.2.1 265 = .ok (.iconst 3, 1) := by decide +kernel
theorem dL_law_266 : decode YL_law.2.1 266 = .ok (.iadd, 1) := by decide +kernel
theorem dL_law_267 : decode YL_law.2.1 267 = .ok (.iaload, 1) := by decide +kernel
theorem dL_law_268 : decode YL_law.2.1 268 = .ok (.invokevirtual 23, 3) := by decide +kernel
theorem dL_law_271 : decode YL_law.2.1 271 = .ok (.aload_n 2, 1) := by decide +kernel
theorem dL_law_272 : decode YL_law.2.1 272 = .ok (.aload_n 0, 1) := by decide +kernel
theorem dL_law_273 : decode YL_law.2.1 273 = .ok (.iload_n 3, 1) := by decide +kernel
theorem dL_law_274 : decode YL_law.2.1 274 = .ok (.iconst 1, 1) := by decide +kernel
theorem dL_law_275 : decode YL_law.2.1 275 = .ok (.iadd, 1) := by decide +kernel
theorem dL_law_276 : decode YL_law.2.1 276 = .ok (.iaload, 1) := by decide +kernel
theorem dL_law_277 : decode YL_law.2.1 277 = .ok (.aload_n 0, 1) := by decide +kernel
theorem dL_law_278 : decode YL_law.2.1 278 = .ok (.iload_n 3, 1) := by decide +kernel
theorem dL_law_279 : decode YL_law.2.1 279 = .ok (.iconst 2, 1) := by decide +kernel
theorem dL_law_280 : decode YL_law.2.1 280 = .ok (.iadd, 1) := by decide +kernel
theorem dL_law_281 : decode YL_law.2.1 281 = .ok (.iaload, 1) := by decide +kernel
theorem dL_law_282 : decode YL_law.2.1 282 = .ok (.aload_n 0, 1) := by decide +kernel
theorem dL_law_283 : decode YL_law.2.1 283 = .ok (.iload_n 3, 1) := by decide +kernel
theorem dL_law_284 : decode YL_law.2.1 284 = .ok (.iconst 3, 1) := by decide +kernel
theorem dL_law_285 : decode YL_law.2.1 285 = .ok (.iadd, 1) := by decide +kernel
theorem dL_law_286 : decode YL_law.2.1 286 = .ok (.iaload, 1) := by decide +kernel
theorem dL_law_287 : decode YL_law.2.1 287 = .ok (.invokevirtual 27, 3) := by decide +kernel
theorem dL_law_290 : decode YL_law.2.1 290 = .ok (.if_icmp .eq 857, 3) := by decide +kernel
theorem dL_law_293 : decode YL_law.2.1 293 = .ok (.iconst 0, 1) := by decide +kernel
theorem dL_law_294 : decode YL_law.2.1 294 = .ok (.ireturn, 1) := by decide +kernel
theorem dL_law_295 : decode YL_law.2.1 295 = .ok (.aload_n 1, 1) := by decide +kernel
theorem dL_law_296 : decode YL_law.2.1 296 = .ok (.aload_n 0, 1) := by decide +kernel
theorem dL_law_297 : decode YL_law.2.1 297 = .ok (.iload_n 3, 1) := by decide +kernel
theorem dL_law_298 : decode YL_law.2.1 298 = .ok (.iconst 1, 1) := by decide +kernel
theorem dL_law_299 : decode YL_law.2.1 299 = .ok (.iadd, 1) := by decide +kernel
theorem dL_law_300 : decode YL_law.2.1 300 = .ok (.iaload, 1) := by decide +kernel
theorem dL_law_301 : decode YL_law.2.1 301 = .ok (.aload_n 0, 1) := by decide +kernel
theorem dL_law_302 : decode YL_law.2.1 302 = .ok (.iload_n 3, 1) := by decide +kernel
theorem dL_law_303 : decode YL_law.2.1 303 = .ok (.iconst 2, 1) := by decide +kernel
theorem dL_law_304 : decode YL_law.2.1 304 = .ok (.iadd, 1) := by decide +kernel
theorem dL_law_305 : decode YL_law.2.1 305 = .ok (.iaload, 1) := by decide +kernel
theorem dL_law_306 : decode YL_law.2.1 306 = .ok (.invokevirtual 28, 3) := by decide +kernel
theorem dL_law_309 : decode YL_law.2.1 309 = .ok (.aload_n 2, 1) := by decide +kernel
theorem dL_law_310 : decode YL_law.2.1 310 = .ok (.aload_n 0, 1) := by decide +kernel
theorem dL_law_311 : decode YL_law.2.1 311 = .ok (.iload_n 3, 1) := by decide +kernel
theorem dL_law_312 : decode YL_law.2.1 312 = .ok (.iconst 1, 1) := by decide +kernel
theorem dL_law_313 : decode YL_law.2.1 313 = .ok (.iadd, 1) := by decide +kernel
theorem dL_law_314 : decode YL_law.2.1 314 = .ok (.iaload, 1) := by decide +kernel
theorem dL_law_315 : decode YL_law.2.1 315 = .ok (.aload_n 0, 1) := by decide +kernel
theorem dL_law_316 : decode YL_law.2.1 316 = .ok (.iload_n 3, 1) := by decide +kernel
theorem dL_law_317 : decode YL_law.2.1 317 = .ok (.iconst 2, 1) := by decide +kernel
theorem dL_law_318 : decode YL_law.2.1 318 = .ok (.iadd, 1) := by decide +kernel
theorem dL_law_319 : decode YL_law.2.1 319 = .ok (.iaload, 1) := by decide +kernel
theorem dL_law_320 : decode YL_law.2.1 320 = .ok (.invokevirtual 31, 3) := by decide +kernel
theorem dL_law_323 : decode YL_law.2.1 323 = .ok (.if_icmp .eq 824, 3) := by decide +kernel
theorem dL_law_326 : decode YL_law.2.1 326 = .ok (.iconst 0, 1) := by decide +kernel
theorem dL_law_327 : decode YL_law.2.1 327 = .ok (.ireturn, 1) := by decide +kernel
theorem dL_law_328 : decode YL_law.2.1 328 = .ok (.aload_n 1, 1) := by decide +kernel
theorem dL_law_329 : decode YL_law.2.1 329 = .ok (.aload_n 0, 1) := by decide +kernel
theorem dL_law_330 : decode YL_law.2.1 330 = .ok (.iload_n 3, 1) := by decide +kernel
theorem dL_law_331 : decode YL_law.2.1 331 = .ok (.iconst 1, 1) := by decide +kernel
theorem dL_law_332 : decode YL_law.2.1 332 = .ok (.iadd, 1) := by decide +kernel
theorem dL_law_333 : decode YL_law.2.1 333 = .ok (.iaload, 1) := by decide +kernel
theorem dL_law_334 : decode YL_law.2.1 334 = .ok (.aload_n 0, 1) := by decide +kernel
theorem dL_law_335 : decode YL_law.2.1 335 = .ok (.iload_n 3, 1) := by decide +kernel
theorem dL_law_336 : decode YL_law.2.1 336 = .ok (.iconst 2, 1) := by decide +kernel
theorem dL_law_337 : decode YL_law.2.1 337 = .ok (.iadd, 1) := by decide +kernel
theorem dL_law_338 : decode YL_law.2.1 338 = .ok (.iaload, 1) := by decide +kernel
theorem dL_law_339 : decode YL_law.2.1 339 = .ok (.invokevirtual 32, 3) := by decide +kernel
theorem dL_law_342 : decode YL_law.2.1 342 = .ok (.aload_n 2, 1) := by decide +kernel
theorem dL_law_343 : decode YL_law.2.1 343 = .ok (.aload_n 0, 1) := by decide +kernel
theorem dL_law_344 : decode YL_law.2.1 344 = .ok (.iload_n 3, 1) := by decide +kernel
theorem dL_law_345 : decode YL_law.2.1 345 = .ok (.iconst 1, 1) := by decide +kernel
theorem dL_law_346 : decode YL_law.2.1 346 = .ok (.iadd, 1) := by decide +kernel
theorem dL_law_347 : decode YL_law.2.1 347 = .ok (.iaload, 1) := by decide +kernel
theorem dL_law_348 : decode YL_law.2.1 348 = .ok (.aload_n 0, 1) := by decide +kernel
theorem dL_law_349 : decode YL_law.2.1 349 = .ok (.iload_n 3, 1) := by decide +kernel
theorem dL_law_350 : decode YL_law.2.1 350 = .ok (.iconst 2, 1) := by decide +kernel
theorem dL_law_351 : decode YL_law.2.1 351 = .ok (.iadd, 1) := by decide +kernel
theorem dL_law_352 : decode YL_law.2.1 352 = .ok (.iaload, 1) := by decide +kernel
theorem dL_law_353 : decode YL_law.2.1 353 = .ok (.invokevirtual 35, 3) := by decide +kernel
theorem dL_law_356 : decode YL_law.2.1 356 = .ok (.if_icmp .eq 791, 3) := by decide +kernel
theorem dL_law_359 : decode YL_law.2.1 359 = .ok (.iconst 0, 1) := by decide +kernel
theorem dL_law_360 : decode YL_law.2.1 360 = .ok (.ireturn, 1) := by decide +kernel
theorem dL_law_361 : decode YL_law.2.1 361 = .ok (.aload_n 1, 1) := by decide +kernel
theorem dL_law_362 : decode YL_law.2.1 362 = .ok (.aload_n 0, 1) := by decide +kernel
theorem dL_law_363 : decode YL_law.2.1 363 = .ok (.iload_n 3, 1) := by decide +kernel
theorem dL_law_364 : decode YL_law.2.1 364 = .ok (.iconst 1, 1) := by decide +kernel
theorem dL_law_365 : decode YL_law.2.1 365 = .ok (.iadd, 1) := by decide +kernel
theorem dL_law_366 : decode YL_law.2.1 366 = .ok (.iaload, 1) := by decide +kernel
theorem dL_law_367 : decode YL_law.2.1 367 = .ok (.aload_n 0, 1) := by decide +kernel
theorem dL_law_368 : decode YL_law.2.1 368 = .ok (.iload_n 3, 1) := by decide +kernel
theorem dL_law_369 : decode YL_law.2.1 369 = .ok (.iconst 2, 1) := by decide +kernel
theorem dL_law_370 : decode YL_law.2.1 370 = .ok (.iadd, 1) := by decide +kernel
theorem dL_law_371 : decode YL_law.2.1 371 = .ok (.iaload, 1) := by decide +kernel
theorem dL_law_372 : decode YL_law.2.1 372 = .ok (.invokevirtual 36, 3) := by decide +kernel
theorem dL_law_375 : decode YL_law.2.1 375 = .ok (.aload_n 2, 1) := by decide +kernel
theorem dL_law_376 : decode YL_law.2.1 376 = .ok (.aload_n 0, 1) := by decide +kernel
theorem dL_law_377 : decode YL_law.2.1 377 = .ok (.iload_n 3, 1) := by decide +kernel
theorem dL_law_378 : decode YL_law.2.1 378 = .ok (.iconst 1, 1) := by decide +kernel
theorem dL_law_379 : decode YL_law.2.1 379 = .ok (.iadd, 1) := by decide +kernel
theorem dL_law_380 : decode YL_law.2.1 380 = .ok (.iaload, 1) := by decide +kernel
theorem dL_law_381 : decode YL_law.2.1 381 = .ok (.aload_n 0, 1) := by decide +kernel
theorem dL_law_382 : decode YL_law.2.1 382 = .ok (.iload_n 3, 1) := by decide +kernel
theorem dL_law_383 : decode YL_law.2.1 383 = .ok (.iconst 2, 1) := by decide +kernel
theorem dL_law_384 : decode YL_law.2.1 384 = .ok (.iadd, 1) := by decide +kernel
theorem dL_law_385 : decode YL_law.2.1 385 = .ok (.iaload, 1) := by decide +kernel
theorem dL_law_386 : decode YL_law.2.1 386 = .ok (.invokevirtual 39, 3) := by decide +kernel
theorem dL_law_389 : decode YL_law.2.1 389 = .ok (.if_icmp .eq 758, 3) := by decide +kernel
theorem dL_law_392 : decode YL_law.2.1 392 = .ok (.iconst 0, 1) := by decide +kernel
theorem dL_law_393 : decode YL_law.2.1 393 = .ok (.ireturn, 1) := by decide +kernel
theorem dL_law_394 : decode YL_law.2.1 394 = .ok (.aload_n 1, 1) := by decide +kernel
theorem dL_law_395 : decode YL_law.2.1 395 = .ok (.invokevirtual 40, 3) := by decide +kernel
theorem dL_law_398 : decode YL_law.2.1 398 = .ok (.aload_n 2, 1) := by decide +kernel
theorem dL_law_399 : decode YL_law.2.1 399 = .ok (.invokevirtual 44, 3) := by decide +kernel
theorem dL_law_402 : decode YL_law.2.1 402 = .ok (.if_icmp .eq 745, 3) := by decide +kernel
theorem dL_law_405 : decode YL_law.2.1 405 = .ok (.iconst 0, 1) := by decide +kernel
theorem dL_law_406 : decode YL_law.2.1 406 = .ok (.ireturn, 1) := by decide +kernel
theorem dL_law_407 : decode YL_law.2.1 407 = .ok (.aload_n 1, 1) := by decide +kernel
theorem dL_law_408 : decode YL_law.2.1 408 = .ok (.aload_n 0, 1) := by decide +kernel
theorem dL_law_409 : decode YL_law.2.1 409 = .ok (.iload_n 3, 1) := by decide +kernel
theorem dL_law_410 : decode YL_law.2.1 410 = .ok (.iconst 1, 1) := by decide +kernel
theorem dL_law_411 : decode YL_law.2.1 411 = .ok (.iadd, 1) := by decide +kernel
theorem dL_law_412 : decode YL_law.2.1 412 = .ok (.iaload, 1) := by decide +kernel
theorem dL_law_413 : decode YL_law.2.1 413 = .ok (.invokevirtual 45, 3) := by decide +kernel
theorem dL_law_416 : decode YL_law.2.1 416 = .ok (.aload_n 2, 1) := by decide +kernel
theorem dL_law_417 : decode YL_law.2.1 417 = .ok (.aload_n 0, 1) := by decide +kernel
theorem dL_law_418 : decode YL_law.2.1 418 = .ok (.iload_n 3, 1) := by decide +kernel
theorem dL_law_419 : decode YL_law.2.1 419 = .ok (.iconst 1, 1) := by decide +kernel
theorem dL_law_420 : decode YL_law.2.1 420 = .ok (.iadd, 1) := by decide +kernel
theorem dL_law_421 : decode YL_law.2.1 421 = .ok (.iaload, 1) := by decide +kernel
theorem dL_law_422 : decode YL_law.2.1 422 = .ok (.invokevirtual 49, 3) := by decide +kernel
theorem dL_law_425 : decode YL_law.2.1 425 = .ok (.if_icmp .eq 722, 3) := by decide +kernel
theorem dL_law_428 : decode YL_law.2.1 428 = .ok (.iconst 0, 1) := by decide +kernel
theorem dL_law_429 : decode YL_law.2.1 429 = .ok (.ireturn, 1) := by decide +kernel
theorem dL_law_430 : decode YL_law.2.1 430 = .ok (.aload_n 1, 1) := by decide +kernel
theorem dL_law_431 : decode YL_law.2.1 431 = .ok (.aload_n 0, 1) := by decide +kernel
theorem dL_law_432 : decode YL_law.2.1 432 = .ok (.iload_n 3, 1) := by decide +kernel
theorem dL_law_433 : decode YL_law.2.1 433 = .ok (.iconst 1, 1) := by decide +kernel
theorem dL_law_434 : decode YL_law.2.1 434 = .ok (.iadd, 1) := by decide +kernel
theorem dL_law_435 : decode YL_law.2.1 435 = .ok (.iaload, 1) := by decide +kernel
theorem dL_law_436 : decode YL_law.2.1 436 = .ok (.aload_n 0, 1) := by decide +kernel
theorem dL_law_437 : decode YL_law.2.1 437 = .ok (.iload_n 3, 1) := by decide +kernel
theorem dL_law_438 : decode YL_law.2.1 438 = .ok (.iconst 2, 1) := by decide +kernel
theorem dL_law_439 : decode YL_law.2.1 439 = .ok (.iadd, 1) := by decide +kernel
theorem dL_law_440 : decode YL_law.2.1 440 = .ok (.iaload, 1) := by decide +kernel
theorem dL_law_441 : decode YL_law.2.1 441 = .ok (.aload_n 0, 1) := by decide +kernel
theorem dL_law_442 : decode YL_law.2.1 442 = .ok (.iload_n 3, 1) := by decide +kernel
theorem dL_law_443 : decode YL_law.2.1 443 = .ok (.iconst 3, 1) := by decide +kernel
theorem dL_law_444 : decode YL_law.2.1 444 = .ok (.iadd, 1) := by decide +kernel
theorem dL_law_445 : decode YL_law.2.1 445 = .ok (.iaload, 1) := by decide +kernel
theorem dL_law_446 : decode YL_law.2.1 446 = .ok (.aload_n 0, 1) := by decide +kernel
theorem dL_law_447 : decode YL_law.2.1 447 = .ok (.iload_n 3, 1) := by decide +kernel
theorem dL_law_448 : decode YL_law.2.1 448 = .ok (.iconst 4, 1) := by decide +kernel
theorem dL_law_449 : decode YL_law.2.1 449 = .ok (.iadd, 1) := by decide +kernel
theorem dL_law_450 : decode YL_law.2.1 450 = .ok (.iaload, 1) := by decide +kernel
theorem dL_law_451 : decode YL_law.2.1 451 = .ok (.invokevirtual 50, 3) := by decide +kernel
theorem dL_law_454 : decode YL_law.2.1 454 = .ok (.aload_n 2, 1) := by decide +kernel
theorem dL_law_455 : decode YL_law.2.1 455 = .ok (.aload_n 0, 1) := by decide +kernel
theorem dL_law_456 : decode YL_law.2.1 456 = .ok (.iload_n 3, 1) := by decide +kernel
theorem dL_law_457 : decode YL_law.2.1 457 = .ok (.iconst 1, 1) := by decide +kernel
theorem dL_law_458 : decode YL_law.2.1 458 = .ok (.iadd, 1) := by decide +kernel
theorem dL_law_459 : decode YL_law.2.1 459 = .ok (.iaload, 1) := by decide +kernel
theorem dL_law_460 : decode YL_law.2.1 460 = .ok (.aload_n 0, 1) := by decide +kernel
theorem dL_law_461 : decode YL_law.2.1 461 = .ok (.iload_n 3, 1) := by decide +kernel
theorem dL_law_462 : decode YL_law.2.1 462 = .ok (.iconst 2, 1) := by decide +kernel
theorem dL_law_463 : decode YL_law.2.1 463 = .ok (.iadd, 1) := by decide +kernel
theorem dL_law_464 : decode YL_law.2.1 464 = .ok (.iaload, 1) := by decide +kernel
theorem dL_law_465 : decode YL_law.2.1 465 = .ok (.aload_n 0, 1) := by decide +kernel
theorem dL_law_466 : decode YL_law.2.1 466 = .ok (.iload_n 3, 1) := by decide +kernel
theorem dL_law_467 : decode YL_law.2.1 467 = .ok (.iconst 3, 1) := by decide +kernel
theorem dL_law_468 : decode YL_law.2.1 468 = .ok (.iadd, 1) := by decide +kernel
theorem dL_law_469 : decode YL_law.2.1 469 = .ok (.iaload, 1) := by decide +kernel
theorem dL_law_470 : decode YL_law.2.1 470 = .ok (.aload_n 0, 1) := by decide +kernel
theorem dL_law_471 : decode YL_law.2.1 471 = .ok (.iload_n 3, 1) := by decide +kernel
theorem dL_law_472 : decode YL_law.2.1 472 = .ok (.iconst 4, 1) := by decide +kernel
theorem dL_law_473 : decode YL_law.2.1 473 = .ok (.iadd, 1) := by decide +kernel
theorem dL_law_474 : decode YL_law.2.1 474 = .ok (.iaload, 1) := by decide +kernel
theorem dL_law_475 : decode YL_law.2.1 475 = .ok (.invokevirtual 54, 3) := by decide +kernel
theorem dL_law_478 : decode YL_law.2.1 478 = .ok (.if_icmp .eq 669, 3) := by decide +kernel
theorem dL_law_481 : decode YL_law.2.1 481 = .ok (.iconst 0, 1) := by decide +kernel
theorem dL_law_482 : decode YL_law.2.1 482 = .ok (.ireturn, 1) := by decide +kernel
theorem dL_law_483 : decode YL_law.2.1 483 = .ok (.aload_n 1, 1) := by decide +kernel
theorem dL_law_484 : decode YL_law.2.1 484 = .ok (.aload_n 0, 1) := by decide +kernel
theorem dL_law_485 : decode YL_law.2.1 485 = .ok (.iload_n 3, 1) := by decide +kernel
theorem dL_law_486 : decode YL_law.2.1 486 = .ok (.iconst 1, 1) := by decide +kernel
theorem dL_law_487 : decode YL_law.2.1 487 = .ok (.iadd, 1) := by decide +kernel
theorem dL_law_488 : decode YL_law.2.1 488 = .ok (.iaload, 1) := by decide +kernel
theorem dL_law_489 : decode YL_law.2.1 489 = .ok (.aload_n 0, 1) := by decide +kernel
theorem dL_law_490 : decode YL_law.2.1 490 = .ok (.iload_n 3, 1) := by decide +kernel
theorem dL_law_491 : decode YL_law.2.1 491 = .ok (.iconst 2, 1) := by decide +kernel
theorem dL_law_492 : decode YL_law.2.1 492 = .ok (.iadd, 1) := by decide +kernel
theorem dL_law_493 : decode YL_law.2.1 493 = .ok (.iaload, 1) := by decide +kernel
theorem dL_law_494 : decode YL_law.2.1 494 = .ok (.invokevirtual 55, 3) := by decide +kernel
theorem dL_law_497 : decode YL_law.2.1 497 = .ok (.aload_n 2, 1) := by decide +kernel
theorem dL_law_498 : decode YL_law.2.1 498 = .ok (.aload_n 0, 1) := by decide +kernel
theorem dL_law_499 : decode YL_law.2.1 499 = .ok (.iload_n 3, 1) := by decide +kernel
theorem dL_law_500 : decode YL_law.2.1 500 = .ok (.iconst 1, 1) := by decide +kernel
theorem dL_law_501 : decode YL_law.2.1 501 = .ok (.iadd, 1) := by decide +kernel
theorem dL_law_502 : decode YL_law.2.1 502 = .ok (.iaload, 1) := by decide +kernel
theorem dL_law_503 : decode YL_law.2.1 503 = .ok (.aload_n 0, 1) := by decide +kernel
theorem dL_law_504 : decode YL_law.2.1 504 = .ok (.iload_n 3, 1) := by decide +kernel
theorem dL_law_505 : decode YL_law.2.1 505 = .ok (.iconst 2, 1) := by decide +kernel
theorem dL_law_506 : decode YL_law.2.1 506 = .ok (.iadd, 1) := by decide +kernel
theorem dL_law_507 : decode YL_law.2.1 507 = .ok (.iaload, 1) := by decide +kernel
theorem dL_law_508 : decode YL_law.2.1 508 = .ok (.invokevirtual 58, 3) := by decide +kernel
theorem dL_law_511 : decode YL_law.2.1 511 = .ok (.if_icmp .eq 636, 3) := by decide +kernel
theorem dL_law_514 : decode YL_law.2.1 514 = .ok (.iconst 0, 1) := by decide +kernel
theorem dL_law_515 : decode YL_law.2.1 515 = .ok (.ireturn, 1) := by decide +kernel
theorem dL_law_516 : decode YL_law.2.1 516 = .ok (.aload_n 1, 1) := by decide +kernel
theorem dL_law_517 : decode YL_law.2.1 517 = .ok (.aload_n 0, 1) := by decide +kernel
theorem dL_law_518 : decode YL_law.2.1 518 = .ok (.iload_n 3, 1) := by decide +kernel
theorem dL_law_519 : decode YL_law.2.1 519 = .ok (.iconst 1, 1) := by decide +kernel
theorem dL_law_520 : decode YL_law.2.1 520 = .ok (.iadd, 1) := by decide +kernel
theorem dL_law_521 : decode YL_law.2.1 521 = .ok (.iaload, 1) := by decide +kernel
theorem dL_law_522 : decode YL_law.2.1 522 = .ok (.aload_n 0, 1) := by decide +kernel
theorem dL_law_523 : decode YL_law.2.1 523 = .ok (.iload_n 3, 1) := by decide +kernel
theorem dL_law_524 : decode YL_law.2.1 524 = .ok (.iconst 2, 1) := by decide +kernel
theorem dL_law_525 : decode YL_law.2.1 525 = .ok (.iadd, 1) := by decide +kernel
theorem dL_law_526 : decode YL_law.2.1 526 = .ok (.iaload, 1) := by decide +kernel
theorem dL_law_527 : decode YL_law.2.1 527 = .ok (.aload_n 0, 1) := by decide +kernel
theorem dL_law_528 : decode YL_law.2.1 528 = .ok (.iload_n 3, 1) := by decide +kernel
theorem dL_law_529 : decode YL_law.2.1 529 = .ok (.iconst 3, 1) := by decide +kernel
theorem dL_law_530 : decode YL_law.2.1 530 = .ok (.iadd, 1) := by decide +kernel
theorem dL_law_531 : decode YL_law.2.1 531 = .ok (.iaload, 1) := by decide +kernel
theorem dL_law_532 : decode YL_law.2.1 532 = .ok (.aload_n 0, 1) := by decide +kernel
theorem dL_law_533 : decode YL_law.2.1 533 = .ok (.iload_n 3, 1) := by decide +kernel
theorem dL_law_534 : decode YL_law.2.1 534 = .ok (.iconst 4, 1) := by decide +kernel
theorem dL_law_535 : decode YL_law.2.1 535 = .ok (.iadd, 1) := by decide +kernel
theorem dL_law_536 : decode YL_law.2.1 536 = .ok (.iaload, 1) := by decide +kernel
theorem dL_law_537 : decode YL_law.2.1 537 = .ok (.invokevirtual 59, 3) := by decide +kernel
theorem dL_law_540 : decode YL_law.2.1 540 = .ok (.aload_n 2, 1) := by decide +kernel
theorem dL_law_541 : decode YL_law.2.1 541 = .ok (.aload_n 0, 1) := by decide +kernel
theorem dL_law_542 : decode YL_law.2.1 542 = .ok (.iload_n 3, 1) := by decide +kernel
theorem dL_law_543 : decode YL_law.2.1 543 = .ok (.iconst 1, 1) := by decide +kernel
theorem dL_law_544 : decode YL_law.2.1 544 = .ok (.iadd, 1) := by decide +kernel
theorem dL_law_545 : decode YL_law.2.1 545 = .ok (.iaload, 1) := by decide +kernel
theorem dL_law_546 : decode YL_law.2.1 546 = .ok (.aload_n 0, 1) := by decide +kernel
theorem dL_law_547 : decode YL_law.2.1 547 = .ok (.iload_n 3, 1) := by decide +kernel
theorem dL_law_548 : decode YL_law.2.1 548 = .ok (.iconst 2, 1) := by decide +kernel
theorem dL_law_549 : decode YL_law.2.1 549 = .ok (.iadd, 1) := by decide +kernel
theorem dL_law_550 : decode YL_law.2.1 550 = .ok (.iaload, 1) := by decide +kernel
theorem dL_law_551 : decode YL_law.2.1 551 = .ok (.aload_n 0, 1) := by decide +kernel
theorem dL_law_552 : decode YL_law.2.1 552 = .ok (.iload_n 3, 1) := by decide +kernel
theorem dL_law_553 : decode YL_law.2.1 553 = .ok (.iconst 3, 1) := by decide +kernel
theorem dL_law_554 : decode YL_law.2.1 554 = .ok (.iadd, 1) := by decide +kernel
theorem dL_law_555 : decode YL_law.2.1 555 = .ok (.iaload, 1) := by decide +kernel
theorem dL_law_556 : decode YL_law.2.1 556 = .ok (.aload_n 0, 1) := by decide +kernel
theorem dL_law_557 : decode YL_law.2.1 557 = .ok (.iload_n 3, 1) := by decide +kernel
theorem dL_law_558 : decode YL_law.2.1 558 = .ok (.iconst 4, 1) := by decide +kernel
theorem dL_law_559 : decode YL_law.2.1 559 = .ok (.iadd, 1) := by decide +kernel
theorem dL_law_560 : decode YL_law.2.1 560 = .ok (.iaload, 1) := by decide +kernel
theorem dL_law_561 : decode YL_law.2.1 561 = .ok (.invokevirtual 62, 3) := by decide +kernel
theorem dL_law_564 : decode YL_law.2.1 564 = .ok (.if_icmp .eq 583, 3) := by decide +kernel
theorem dL_law_567 : decode YL_law.2.1 567 = .ok (.iconst 0, 1) := by decide +kernel
theorem dL_law_568 : decode YL_law.2.1 568 = .ok (.ireturn, 1) := by decide +kernel
theorem dL_law_569 : decode YL_law.2.1 569 = .ok (.aload_n 1, 1) := by decide +kernel
theorem dL_law_570 : decode YL_law.2.1 570 = .ok (.aload_n 0, 1) := by decide +kernel
theorem dL_law_571 : decode YL_law.2.1 571 = .ok (.iload_n 3, 1) := by decide +kernel
theorem dL_law_572 : decode YL_law.2.1 572 = .ok (.iconst 1, 1) := by decide +kernel
theorem dL_law_573 : decode YL_law.2.1 573 = .ok (.iadd, 1) := by decide +kernel
theorem dL_law_574 : decode YL_law.2.1 574 = .ok (.iaload, 1) := by decide +kernel
theorem dL_law_575 : decode YL_law.2.1 575 = .ok (.aload_n 0, 1) := by decide +kernel
theorem dL_law_576 : decode YL_law.2.1 576 = .ok (.iload_n 3, 1) := by decide +kernel
theorem dL_law_577 : decode YL_law.2.1 577 = .ok (.iconst 2, 1) := by decide +kernel
theorem dL_law_578 : decode YL_law.2.1 578 = .ok (.iadd, 1) := by decide +kernel
theorem dL_law_579 : decode YL_law.2.1 579 = .ok (.iaload, 1) := by decide +kernel
theorem dL_law_580 : decode YL_law.2.1 580 = .ok (.aload_n 0, 1) := by decide +kernel
theorem dL_law_581 : decode YL_law.2.1 581 = .ok (.iload_n 3, 1) := by decide +kernel
theorem dL_law_582 : decode YL_law.2.1 582 = .ok (.iconst 3, 1) := by decide +kernel
theorem dL_law_583 : decode YL_law.2.1 583 = .ok (.iadd, 1) := by decide +kernel
theorem dL_law_584 : decode YL_law.2.1 584 = .ok (.iaload, 1) := by decide +kernel
theorem dL_law_585 : decode YL_law.2.1 585 = .ok (.invokevirtual 63, 3) := by decide +kernel
theorem dL_law_588 : decode YL_law.2.1 588 = .ok (.aload_n 2, 1) := by decide +kernel
theorem dL_law_589 : decode YL_law.2.1 589 = .ok (.aload_n 0, 1) := by decide +kernel
theorem dL_law_590 : decode YL_law.2.1 590 = .ok (.iload_n 3, 1) := by decide +kernel
theorem dL_law_591 : decode YL_law.2.1 591 = .ok (.iconst 1, 1) := by decide +kernel
theorem dL_law_592 : decode YL_law.2.1 592 = .ok (.iadd, 1) := by decide +kernel
theorem dL_law_593 : decode YL_law.2.1 593 = .ok (.iaload, 1) := by decide +kernel
theorem dL_law_594 : decode YL_law.2.1 594 = .ok (.aload_n 0, 1) := by decide +kernel
theorem dL_law_595 : decode YL_law.2.1 595 = .ok (.iload_n 3, 1) := by decide +kernel
theorem dL_law_596 : decode YL_law.2.1 596 = .ok (.iconst 2, 1) := by decide +kernel
theorem dL_law_597 : decode YL_law.2.1 597 = .ok (.iadd, 1) := by decide +kernel
theorem dL_law_598 : decode YL_law.2.1 598 = .ok (.iaload, 1) := by decide +kernel
theorem dL_law_599 : decode YL_law.2.1 599 = .ok (.aload_n 0, 1) := by decide +kernel
theorem dL_law_600 : decode YL_law.2.1 600 = .ok (.iload_n 3, 1) := by decide +kernel
theorem dL_law_601 : decode YL_law.2.1 601 = .ok (.iconst 3, 1) := by decide +kernel
theorem dL_law_602 : decode YL_law.2.1 602 = .ok (.iadd, 1) := by decide +kernel
theorem dL_law_603 : decode YL_law.2.1 603 = .ok (.iaload, 1) := by decide +kernel
theorem dL_law_604 : decode YL_law.2.1 604 = .ok (.invokevirtual 66, 3) := by decide +kernel
theorem dL_law_607 : decode YL_law.2.1 607 = .ok (.if_icmp .eq 540, 3) := by decide +kernel
theorem dL_law_610 : decode YL_law.2.1 610 = .ok (.iconst 0, 1) := by decide +kernel
theorem dL_law_611 : decode YL_law.2.1 611 = .ok (.ireturn, 1) := by decide +kernel
theorem dL_law_612 : decode YL_law.2.1 612 = .ok (.aload_n 1, 1) := by decide +kernel
theorem dL_law_613 : decode YL_law.2.1 613 = .ok (.aload_n 0, 1) := by decide +kernel
theorem dL_law_614 : decode YL_law.2.1 614 = .ok (.iload_n 3, 1) := by decide +kernel
theorem dL_law_615 : decode YL_law.2.1 615 = .ok (.iconst 1, 1) := by decide +kernel
theorem dL_law_616 : decode YL_law.2.1 616 = .ok (.iadd, 1) := by decide +kernel
theorem dL_law_617 : decode YL_law.2.1 617 = .ok (.iaload, 1) := by decide +kernel
theorem dL_law_618 : decode YL_law.2.1 618 = .ok (.aload_n 0, 1) := by decide +kernel
theorem dL_law_619 : decode YL_law.2.1 619 = .ok (.iload_n 3, 1) := by decide +kernel
theorem dL_law_620 : decode YL_law.2.1 620 = .ok (.iconst 2, 1) := by decide +kernel
theorem dL_law_621 : decode YL_law.2.1 621 = .ok (.iadd, 1) := by decide +kernel
theorem dL_law_622 : decode YL_law.2.1 622 = .ok (.iaload, 1) := by decide +kernel
theorem dL_law_623 : decode YL_law.2.1 623 = .ok (.aload_n 0, 1) := by decide +kernel
theorem dL_law_624 : decode YL_law.2.1 624 = .ok (.iload_n 3, 1) := by decide +kernel
theorem dL_law_625 : decode YL_law.2.1 625 = .ok (.iconst 3, 1) := by decide +kernel
theorem dL_law_626 : decode YL_law.2.1 626 = .ok (.iadd, 1) := by decide +kernel
theorem dL_law_627 : decode YL_law.2.1 627 = .ok (.iaload, 1) := by decide +kernel
theorem dL_law_628 : decode YL_law.2.1 628 = .ok (.invokevirtual 67, 3) := by decide +kernel
theorem dL_law_631 : decode YL_law.2.1 631 = .ok (.aload_n 2, 1) := by decide +kernel
theorem dL_law_632 : decode YL_law.2.1 632 = .ok (.aload_n 0, 1) := by decide +kernel
theorem dL_law_633 : decode YL_law.2.1 633 = .ok (.iload_n 3, 1) := by decide +kernel
theorem dL_law_634 : decode YL_law.2.1 634 = .ok (.iconst 1, 1) := by decide +kernel
theorem dL_law_635 : decode YL_law.2.1 635 = .ok (.iadd, 1) := by decide +kernel
theorem dL_law_636 : decode YL_law.2.1 636 = .ok (.iaload, 1) := by decide +kernel
theorem dL_law_637 : decode YL_law.2.1 637 = .ok (.aload_n 0, 1) := by decide +kernel
theorem dL_law_638 : decode YL_law.2.1 638 = .ok (.iload_n 3, 1) := by decide +kernel
theorem dL_law_639 : decode YL_law.2.1 639 = .ok (.iconst 2, 1) := by decide +kernel
theorem dL_law_640 : decode YL_law.2.1 640 = .ok (.iadd, 1) := by decide +kernel
theorem dL_law_641 : decode YL_law.2.1 641 = .ok (.iaload, 1) := by decide +kernel
theorem dL_law_642 : decode YL_law.2.1 642 = .ok (.aload_n 0, 1) := by decide +kernel
theorem dL_law_643 : decode YL_law.2.1 643 = .ok (.iload_n 3, 1) := by decide +kernel
theorem dL_law_644 : decode YL_law.2.1 644 = .ok (.iconst 3, 1) := by decide +kernel
theorem dL_law_645 : decode YL_law.2.1 645 = .ok (.iadd, 1) := by decide +kernel
theorem dL_law_646 : decode YL_law.2.1 646 = .ok (.iaload, 1) := by decide +kernel
theorem dL_law_647 : decode YL_law.2.1 647 = .ok (.invokevirtual 70, 3) := by decide +kernel
theorem dL_law_650 : decode YL_law.2.1 650 = .ok (.if_icmp .eq 497, 3) := by decide +kernel
theorem dL_law_653 : decode YL_law.2.1 653 = .ok (.iconst 0, 1) := by decide +kernel
theorem dL_law_654 : decode YL_law.2.1 654 = .ok (.ireturn, 1) := by decide +kernel
theorem dL_law_655 : decode YL_law.2.1 655 = .ok (.aload_n 1, 1) := by decide +kernel
theorem dL_law_656 : decode YL_law.2.1 656 = .ok (.aload_n 0, 1) := by decide +kernel
theorem dL_law_657 : decode YL_law.2.1 657 = .ok (.iload_n 3, 1) := by decide +kernel
theorem dL_law_658 : decode YL_law.2.1 658 = .ok (.iconst 1, 1) := by decide +kernel
theorem dL_law_659 : decode YL_law.2.1 659 = .ok (.iadd, 1) := by decide +kernel
theorem dL_law_660 : decode YL_law.2.1 660 = .ok (.iaload, 1) := by decide +kernel
theorem dL_law_661 : decode YL_law.2.1 661 = .ok (.aload_n 0, 1) := by decide +kernel
theorem dL_law_662 : decode YL_law.2.1 662 = .ok (.iload_n 3, 1) := by decide +kernel
theorem dL_law_663 : decode YL_law.2.1 663 = .ok (.iconst 2, 1) := by decide +kernel
theorem dL_law_664 : decode YL_law.2.1 664 = .ok (.iadd, 1) := by decide +kernel
theorem dL_law_665 : decode YL_law.2.1 665 = .ok (.iaload, 1) := by decide +kernel
theorem dL_law_666 : decode YL_law.2.1 666 = .ok (.invokevirtual 71, 3) := by decide +kernel
theorem dL_law_669 : decode YL_law.2.1 669 = .ok (.aload_n 2, 1) := by decide +kernel
theorem dL_law_670 : decode YL_law.2.1 670 = .ok (.aload_n 0, 1) := by decide +kernel
theorem dL_law_671 : decode YL_law.2.1 671 = .ok (.iload_n 3, 1) := by decide +kernel
theorem dL_law_672 : decode YL_law.2.1 672 = .ok (.iconst 1, 1) := by decide +kernel
theorem dL_law_673 : decode YL_law.2.1 673 = .ok (.iadd, 1) := by decide +kernel
theorem dL_law_674 : decode YL_law.2.1 674 = .ok (.iaload, 1) := by decide +kernel
theorem dL_law_675 : decode YL_law.2.1 675 = .ok (.aload_n 0, 1) := by decide +kernel
theorem dL_law_676 : decode YL_law.2.1 676 = .ok (.iload_n 3, 1) := by decide +kernel
theorem dL_law_677 : decode YL_law.2.1 677 = .ok (.iconst 2, 1) := by decide +kernel
theorem dL_law_678 : decode YL_law.2.1 678 = .ok (.iadd, 1) := by decide +kernel
theorem dL_law_679 : decode YL_law.2.1 679 = .ok (.iaload, 1) := by decide +kernel
theorem dL_law_680 : decode YL_law.2.1 680 = .ok (.invokevirtual 74, 3) := by decide +kernel
theorem dL_law_683 : decode YL_law.2.1 683 = .ok (.if_icmp .eq 464, 3) := by decide +kernel
theorem dL_law_686 : decode YL_law.2.1 686 = .ok (.iconst 0, 1) := by decide +kernel
theorem dL_law_687 : decode YL_law.2.1 687 = .ok (.ireturn, 1) := by decide +kernel
theorem dL_law_688 : decode YL_law.2.1 688 = .ok (.aload_n 1, 1) := by decide +kernel
theorem dL_law_689 : decode YL_law.2.1 689 = .ok (.aload_n 0, 1) := by decide +kernel
theorem dL_law_690 : decode YL_law.2.1 690 = .ok (.iload_n 3, 1) := by decide +kernel
theorem dL_law_691 : decode YL_law.2.1 691 = .ok (.iconst 1, 1) := by decide +kernel
theorem dL_law_692 : decode YL_law.2.1 692 = .ok (.iadd, 1) := by decide +kernel
theorem dL_law_693 : decode YL_law.2.1 693 = .ok (.iaload, 1) := by decide +kernel
theorem dL_law_694 : decode YL_law.2.1 694 = .ok (.aload_n 0, 1) := by decide +kernel
theorem dL_law_695 : decode YL_law.2.1 695 = .ok (.iload_n 3, 1) := by decide +kernel
theorem dL_law_696 : decode YL_law.2.1 696 = .ok (.iconst 2, 1) := by decide +kernel
theorem dL_law_697 : decode YL_law.2.1 697 = .ok (.iadd, 1) := by decide +kernel
theorem dL_law_698 : decode YL_law.2.1 698 = .ok (.iaload, 1) := by decide +kernel
theorem dL_law_699 : decode YL_law.2.1 699 = .ok (.invokevirtual 75, 3) := by decide +kernel
theorem dL_law_702 : decode YL_law.2.1 702 = .ok (.aload_n 2, 1) := by decide +kernel
theorem dL_law_703 : decode YL_law.2.1 703 = .ok (.aload_n 0, 1) := by decide +kernel
theorem dL_law_704 : decode YL_law.2.1 704 = .ok (.iload_n 3, 1) := by decide +kernel
theorem dL_law_705 : decode YL_law.2.1 705 = .ok (.iconst 1, 1) := by decide +kernel
theorem dL_law_706 : decode YL_law.2.1 706 = .ok (.iadd, 1) := by decide +kernel
theorem dL_law_707 : decode YL_law.2.1 707 = .ok (.iaload, 1) := by decide +kernel
theorem dL_law_708 : decode YL_law.2.1 708 = .ok (.aload_n 0, 1) := by decide +kernel
theorem dL_law_709 : decode YL_law.2.1 709 = .ok (.iload_n 3, 1) := by decide +kernel
theorem dL_law_710 : decode YL_law.2.1 710 = .ok (.iconst 2, 1) := by decide +kernel
theorem dL_law_711 : decode YL_law.2.1 711 = .ok (.iadd, 1) := by decide +kernel
theorem dL_law_712 : decode YL_law.2.1 712 = .ok (.iaload, 1) := by decide +kernel
theorem dL_law_713 : decode YL_law.2.1 713 = .ok (.invokevirtual 78, 3) := by decide +kernel
theorem dL_law_716 : decode YL_law.2.1 716 = .ok (.if_icmp .eq 431, 3) := by decide +kernel
theorem dL_law_719 : decode YL_law.2.1 719 = .ok (.iconst 0, 1) := by decide +kernel
theorem dL_law_720 : decode YL_law.2.1 720 = .ok (.ireturn, 1) := by decide +kernel
theorem dL_law_721 : decode YL_law.2.1 721 = .ok (.aload_n 1, 1) := by decide +kernel
theorem dL_law_722 : decode YL_law.2.1 722 = .ok (.aload_n 0, 1) := by decide +kernel
theorem dL_law_723 : decode YL_law.2.1 723 = .ok (.iload_n 3, 1) := by decide +kernel
theorem dL_law_724 : decode YL_law.2.1 724 = .ok (.iconst 1, 1) := by decide +kernel
theorem dL_law_725 : decode YL_law.2.1 725 = .ok (.iadd, 1) := by decide +kernel
theorem dL_law_726 : decode YL_law.2.1 726 = .ok (.iaload, 1) := by decide +kernel
theorem dL_law_727 : decode YL_law.2.1 727 = .ok (.invokevirtual 79, 3) := by decide +kernel
theorem dL_law_730 : decode YL_law.2.1 730 = .ok (.aload_n 2, 1) := by decide +kernel
theorem dL_law_731 : decode YL_law.2.1 731 = .ok (.aload_n 0, 1) := by decide +kernel
theorem dL_law_732 : decode YL_law.2.1 732 = .ok (.iload_n 3, 1) := by decide +kernel
theorem dL_law_733 : decode YL_law.2.1 733 = .ok (.iconst 1, 1) := by decide +kernel
theorem dL_law_734 : decode YL_law.2.1 734 = .ok (.iadd, 1) := by decide +kernel
theorem dL_law_735 : decode YL_law.2.1 735 = .ok (.iaload, 1) := by decide +kernel
theorem dL_law_736 : decode YL_law.2.1 736 = .ok (.invokevirtual 82, 3) := by decide +kernel
theorem dL_law_739 : decode YL_law.2.1 739 = .ok (.if_icmp .eq 408, 3) := by decide +kernel
theorem dL_law_742 : decode YL_law.2.1 742 = .ok (.iconst 0, 1) := by decide +kernel
theorem dL_law_743 : decode YL_law.2.1 743 = .ok (.ireturn, 1) := by decide +kernel
theorem dL_law_744 : decode YL_law.2.1 744 = .ok (.aload_n 1, 1) := by decide +kernel
theorem dL_law_745 : decode YL_law.2.1 745 = .ok (.aload_n 0, 1) := by decide +kernel
theorem dL_law_746 : decode YL_law.2.1 746 = .ok (.iload_n 3, 1) := by decide +kernel
theorem dL_law_747 : decode YL_law.2.1 747 = .ok (.iconst 1, 1) := by decide +kernel
theorem dL_law_748 : decode YL_law.2.1 748 = .ok (.iadd, 1) := by decide +kernel
theorem dL_law_749 : decode YL_law.2.1 749 = .ok (.iaload, 1) := by decide +kernel
theorem dL_law_750 : decode YL_law.2.1 750 = .ok (.aload_n 0, 1) := by decide +kernel
theorem dL_law_751 : decode YL_law.2.1 751 = .ok (.iload_n 3, 1) := by decide +kernel
theorem dL_law_752 : decode YL_law.2.1 752 = .ok (.iconst 2, 1) := by decide +kernel
theorem dL_law_753 : decode YL_law.2.1 753 = .ok (.iadd, 1) := by decide +kernel
theorem dL_law_754 : decode YL_law.2.1 754 = .ok (.iaload, 1) := by decide +kernel
theorem dL_law_755 : decode YL_law.2.1 755 = .ok (.aload_n 0, 1) := by decide +kernel
theorem dL_law_756 : decode YL_law.2.1 756 = .ok (.iload_n 3, 1) := by decide +kernel
theorem dL_law_757 : decode YL_law.2.1 757 = .ok (.iconst 3, 1) := by decide +kernel
theorem dL_law_758 : decode YL_law.2.1 758 = .ok (.iadd, 1) := by decide +kernel
theorem dL_law_759 : decode YL_law.2.1 759 = .ok (.iaload, 1) := by decide +kernel
theorem dL_law_760 : decode YL_law.2.1 760 = .ok (.invokevirtual 83, 3) := by decide +kernel
theorem dL_law_763 : decode YL_law.2.1 763 = .ok (.aload_n 2, 1) := by decide +kernel
theorem dL_law_764 : decode YL_law.2.1 764 = .ok (.aload_n 0, 1) := by decide +kernel
theorem dL_law_765 : decode YL_law.2.1 765 = .ok (.iload_n 3, 1) := by decide +kernel
theorem dL_law_766 : decode YL_law.2.1 766 = .ok (.iconst 1, 1) := by decide +kernel
theorem dL_law_767 : decode YL_law.2.1 767 = .ok (.iadd, 1) := by decide +kernel
theorem dL_law_768 : decode YL_law.2.1 768 = .ok (.iaload, 1) := by decide +kernel
theorem dL_law_769 : decode YL_law.2.1 769 = .ok (.aload_n 0, 1) := by decide +kernel
theorem dL_law_770 : decode YL_law.2.1 770 = .ok (.iload_n 3, 1) := by decide +kernel
theorem dL_law_771 : decode YL_law.2.1 771 = .ok (.iconst 2, 1) := by decide +kernel
theorem dL_law_772 : decode YL_law.2.1 772 = .ok (.iadd, 1) := by decide +kernel
theorem dL_law_773 : decode YL_law.2.1 773 = .ok (.iaload, 1) := by decide +kernel
theorem dL_law_774 : decode YL_law.2.1 774 = .ok (.aload_n 0, 1) := by decide +kernel
theorem dL_law_775 : decode YL_law.2.1 775 = .ok (.iload_n 3, 1) := by decide +kernel
theorem dL_law_776 : decode YL_law.2.1 776 = .ok (.iconst 3, 1) := by decide +kernel
theorem dL_law_777 : decode YL_law.2.1 777 = .ok (.iadd, 1) := by decide +kernel
theorem dL_law_778 : decode YL_law.2.1 778 = .ok (.iaload, 1) := by decide +kernel
theorem dL_law_779 : decode YL_law.2.1 779 = .ok (.invokevirtual 86, 3) := by decide +kernel
theorem dL_law_782 : decode YL_law.2.1 782 = .ok (.if_icmp .eq 365, 3) := by decide +kernel
theorem dL_law_785 : decode YL_law.2.1 785 = .ok (.iconst 0, 1) := by decide +kernel
theorem dL_law_786 : decode YL_law.2.1 786 = .ok (.ireturn, 1) := by decide +kernel
theorem dL_law_787 : decode YL_law.2.1 787 = .ok (.aload_n 1, 1) := by decide +kernel
theorem dL_law_788 : decode YL_law.2.1 788 = .ok (.aload_n 0, 1) := by decide +kernel
theorem dL_law_789 : decode YL_law.2.1 789 = .ok (.iload_n 3, 1) := by decide +kernel
theorem dL_law_790 : decode YL_law.2.1 790 = .ok (.iconst 1, 1) := by decide +kernel
theorem dL_law_791 : decode YL_law.2.1 791 = .ok (.iadd, 1) := by decide +kernel
theorem dL_law_792 : decode YL_law.2.1 792 = .ok (.iaload, 1) := by decide +kernel
theorem dL_law_793 : decode YL_law.2.1 793 = .ok (.aload_n 0, 1) := by decide +kernel
theorem dL_law_794 : decode YL_law.2.1 794 = .ok (.iload_n 3, 1) := by decide +kernel
theorem dL_law_795 : decode YL_law.2.1 795 = .ok (.iconst 2, 1) := by decide +kernel
theorem dL_law_796 : decode YL_law.2.1 796 = .ok (.iadd, 1) := by decide +kernel
theorem dL_law_797 : decode YL_law.2.1 797 = .ok (.iaload, 1) := by decide +kernel
theorem dL_law_798 : decode YL_law.2.1 798 = .ok (.invokevirtual 87, 3) := by decide +kernel
theorem dL_law_801 : decode YL_law.2.1 801 = .ok (.aload_n 2, 1) := by decide +kernel
theorem dL_law_802 : decode YL_law.2.1 802 = .ok (.aload_n 0, 1) := by decide +kernel
theorem dL_law_803 : decode YL_law.2.1 803 = .ok (.iload_n 3, 1) := by decide +kernel
theorem dL_law_804 : decode YL_law.2.1 804 = .ok (.iconst 1, 1) := by decide +kernel
theorem dL_law_805 : decode YL_law.2.1 805 = .ok (.iadd, 1) := by decide +kernel
theorem dL_law_806 : decode YL_law.2.1 806 = .ok (.iaload, 1) := by decide +kernel
theorem dL_law_807 : decode YL_law.2.1 807 = .ok (.aload_n 0, 1) := by decide +kernel
theorem dL_law_808 : decode YL_law.2.1 808 = .ok (.iload_n 3, 1) := by decide +kernel
theorem dL_law_809 : decode YL_law.2.1 809 = .ok (.iconst 2, 1) := by decide +kernel
theorem dL_law_810 : decode YL_law.2.1 810 = .ok (.iadd, 1) := by decide +kernel
theorem dL_law_811 : decode YL_law.2.1 811 = .ok (.iaload, 1) := by decide +kernel
theorem dL_law_812 : decode YL_law.2.1 812 = .ok (.invokevirtual 90, 3) := by decide +kernel
theorem dL_law_815 : decode YL_law.2.1 815 = .ok (.if_icmp .eq 332, 3) := by decide +kernel
theorem dL_law_818 : decode YL_law.2.1 818 = .ok (.iconst 0, 1) := by decide +kernel
theorem dL_law_819 : decode YL_law.2.1 819 = .ok (.ireturn, 1) := by decide +kernel
theorem dL_law_820 : decode YL_law.2.1 820 = .ok (.aload_n 1, 1) := by decide +kernel
theorem dL_law_821 : decode YL_law.2.1 821 = .ok (.aload_n 0, 1) := by decide +kernel
theorem dL_law_822 : decode YL_law.2.1 822 = .ok (.iload_n 3, 1) := by decide +kernel
theorem dL_law_823 : decode YL_law.2.1 823 = .ok (.iconst 1, 1) := by decide +kernel
theorem dL_law_824 : decode YL_law.2.1 824 = .ok (.iadd, 1) := by decide +kernel
theorem dL_law_825 : decode YL_law.2.1 825 = .ok (.iaload, 1) := by decide +kernel
theorem dL_law_826 : decode YL_law.2.1 826 = .ok (.aload_n 0, 1) := by decide +kernel
theorem dL_law_827 : decode YL_law.2.1 827 = .ok (.iload_n 3, 1) := by decide +kernel
theorem dL_law_828 : decode YL_law.2.1 828 = .ok (.iconst 2, 1) := by decide +kernel
theorem dL_law_829 : decode YL_law.2.1 829 = .ok (.iadd, 1) := by decide +kernel
theorem dL_law_830 : decode YL_law.2.1 830 = .ok (.iaload, 1) := by decide +kernel
theorem dL_law_831 : decode YL_law.2.1 831 = .ok (.aload_n 0, 1) := by decide +kernel
theorem dL_law_832 : decode YL_law.2.1 832 = .ok (.iload_n 3, 1) := by decide +kernel
theorem dL_law_833 : decode YL_law.2.1 833 = .ok (.iconst 3, 1) := by decide +kernel
theorem dL_law_834 : decode YL_law.2.1 834 = .ok (.iadd, 1) := by decide +kernel
theorem dL_law_835 : decode YL_law.2.1 835 = .ok (.iaload, 1) := by decide +kernel
theorem dL_law_836 : decode YL_law.2.1 836 = .ok (.aload_n 0, 1) := by decide +kernel
theorem dL_law_837 : decode YL_law.2.1 837 = .ok (.iload_n 3, 1) := by decide +kernel
theorem dL_law_838 : decode YL_law.2.1 838 = .ok (.iconst 4, 1) := by decide +kernel
theorem dL_law_839 : decode YL_law.2.1 839 = .ok (.iadd, 1) := by decide +kernel
theorem dL_law_840 : decode YL_law.2.1 840 = .ok (.iaload, 1) := by decide +kernel
theorem dL_law_841 : decode YL_law.2.1 841 = .ok (.invokevirtual 91, 3) := by decide +kernel
theorem dL_law_844 : decode YL_law.2.1 844 = .ok (.aload_n 2, 1) := by decide +kernel
theorem dL_law_845 : decode YL_law.2.1 845 = .ok (.aload_n 0, 1) := by decide +kernel
theorem dL_law_846 : decode YL_law.2.1 846 = .ok (.iload_n 3, 1) := by decide +kernel
theorem dL_law_847 : decode YL_law.2.1 847 = .ok (.iconst 1, 1) := by decide +kernel
theorem dL_law_848 : decode YL_law.2.1 848 = .ok (.iadd, 1) := by decide +kernel
theorem dL_law_849 : decode YL_law.2.1 849 = .ok (.iaload, 1) := by decide +kernel
theorem dL_law_850 : decode YL_law.2.1 850 = .ok (.aload_n 0, 1) := by decide +kernel
theorem dL_law_851 : decode YL_law.2.1 851 = .ok (.iload_n 3, 1) := by decide +kernel
theorem dL_law_852 : decode YL_law.2.1 852 = .ok (.iconst 2, 1) := by decide +kernel
theorem dL_law_853 : decode YL_law.2.1 853 = .ok (.iadd, 1) := by decide +kernel
theorem dL_law_854 : decode YL_law.2.1 854 = .ok (.iaload, 1) := by decide +kernel
theorem dL_law_855 : decode YL_law.2.1 855 = .ok (.aload_n 0, 1) := by decide +kernel
theorem dL_law_856 : decode YL_law.2.1 856 = .ok (.iload_n 3, 1) := by decide +kernel
theorem dL_law_857 : decode YL_law.2.1 857 = .ok (.iconst 3, 1) := by decide +kernel
theorem dL_law_858 : decode YL_law.2.1 858 = .ok (.iadd, 1) := by decide +kernel
theorem dL_law_859 : decode YL_law.2.1 859 = .ok (.iaload, 1) := by decide +kernel
theorem dL_law_860 : decode YL_law.2.1 860 = .ok (.aload_n 0, 1) := by decide +kernel
theorem dL_law_861 : decode YL_law.2.1 861 = .ok (.iload_n 3, 1) := by decide +kernel
theorem dL_law_862 : decode YL_law.2.1 862 = .ok (.iconst 4, 1) := by decide +kernel
theorem dL_law_863 : decode YL_law.2.1 863 = .ok (.iadd, 1) := by decide +kernel
theorem dL_law_864 : decode YL_law.2.1 864 = .ok (.iaload, 1) := by decide +kernel
theorem dL_law_865 : decode YL_law.2.1 865 = .ok (.invokevirtual 94, 3) := by decide +kernel
theorem dL_law_868 : decode YL_law.2.1 868 = .ok (.if_icmp .eq 279, 3) := by decide +kernel
theorem dL_law_871 : decode YL_law.2.1 871 = .ok (.iconst 0, 1) := by decide +kernel
theorem dL_law_872 : decode YL_law.2.1 872 = .ok (.ireturn, 1) := by decide +kernel
theorem dL_law_873 : decode YL_law.2.1 873 = .ok (.aload_n 1, 1) := by decide +kernel
theorem dL_law_874 : decode YL_law.2.1 874 = .ok (.aload_n 0, 1) := by decide +kernel
theorem dL_law_875 : decode YL_law.2.1 875 = .ok (.iload_n 3, 1) := by decide +kernel
theorem dL_law_876 : decode YL_law.2.1 876 = .ok (.iconst 1, 1) := by decide +kernel
theorem dL_law_877 : decode YL_law.2.1 877 = .ok (.iadd, 1) := by decide +kernel
theorem dL_law_878 : decode YL_law.2.1 878 = .ok (.iaload, 1) := by decide +kernel
theorem dL_law_879 : decode YL_law.2.1 879 = .ok (.aload_n 0, 1) := by decide +kernel
theorem dL_law_880 : decode YL_law.2.1 880 = .ok (.iload_n 3, 1) := by decide +kernel
theorem dL_law_881 : decode YL_law.2.1 881 = .ok (.iconst 2, 1) := by decide +kernel
theorem dL_law_882 : decode YL_law.2.1 882 = .ok (.iadd, 1) := by decide +kernel
theorem dL_law_883 : decode YL_law.2.1 883 = .ok (.iaload, 1) := by decide +kernel
theorem dL_law_884 : decode YL_law.2.1 884 = .ok (.aload_n 0, 1) := by decide +kernel
theorem dL_law_885 : decode YL_law.2.1 885 = .ok (.iload_n 3, 1) := by decide +kernel
theorem dL_law_886 : decode YL_law.2.1 886 = .ok (.iconst 3, 1) := by decide +kernel
theorem dL_law_887 : decode YL_law.2.1 887 = .ok (.iadd, 1) := by decide +kernel
theorem dL_law_888 : decode YL_law.2.1 888 = .ok (.iaload, 1) := by decide +kernel
theorem dL_law_889 : decode YL_law.2.1 889 = .ok (.invokevirtual 95, 3) := by decide +kernel
theorem dL_law_892 : decode YL_law.2.1 892 = .ok (.aload_n 2, 1) := by decide +kernel
theorem dL_law_893 : decode YL_law.2.1 893 = .ok (.aload_n 0, 1) := by decide +kernel
theorem dL_law_894 : decode YL_law.2.1 894 = .ok (.iload_n 3, 1) := by decide +kernel
theorem dL_law_895 : decode YL_law.2.1 895 = .ok (.iconst 1, 1) := by decide +kernel
theorem dL_law_896 : decode YL_law.2.1 896 = .ok (.iadd, 1) := by decide +kernel
theorem dL_law_897 : decode YL_law.2.1 897 = .ok (.iaload, 1) := by decide +kernel
theorem dL_law_898 : decode YL_law.2.1 898 = .ok (.aload_n 0, 1) := by decide +kernel
theorem dL_law_899 : decode YL_law.2.1 899 = .ok (.iload_n 3, 1) := by decide +kernel
theorem dL_law_900 : decode YL_law.2.1 900 = .ok (.iconst 2, 1) := by decide +kernel
theorem dL_law_901 : decode YL_law.2.1 901 = .ok (.iadd, 1) := by decide +kernel
theorem dL_law_902 : decode YL_law.2.1 902 = .ok (.iaload, 1) := by decide +kernel
theorem dL_law_903 : decode YL_law.2.1 903 = .ok (.aload_n 0, 1) := by decide +kernel
theorem dL_law_904 : decode YL_law.2.1 904 = .ok (.iload_n 3, 1) := by decide +kernel
theorem dL_law_905 : decode YL_law.2.1 905 = .ok (.iconst 3, 1) := by decide +kernel
theorem dL_law_906 : decode YL_law.2.1 906 = .ok (.iadd, 1) := by decide +kernel
theorem dL_law_907 : decode YL_law.2.1 907 = .ok (.iaload, 1) := by decide +kernel
theorem dL_law_908 : decode YL_law.2.1 908 = .ok (.invokevirtual 98, 3) := by decide +kernel
theorem dL_law_911 : decode YL_law.2.1 911 = .ok (.if_icmp .eq 236, 3) := by decide +kernel
theorem dL_law_914 : decode YL_law.2.1 914 = .ok (.iconst 0, 1) := by decide +kernel
theorem dL_law_915 : decode YL_law.2.1 915 = .ok (.ireturn, 1) := by decide +kernel
theorem dL_law_916 : decode YL_law.2.1 916 = .ok (.aload_n 1, 1) := by decide +kernel
theorem dL_law_917 : decode YL_law.2.1 917 = .ok (.aload_n 0, 1) := by decide +kernel
theorem dL_law_918 : decode YL_law.2.1 918 = .ok (.iload_n 3, 1) := by decide +kernel
theorem dL_law_919 : decode YL_law.2.1 919 = .ok (.iconst 1, 1) := by decide +kernel
theorem dL_law_920 : decode YL_law.2.1 920 = .ok (.iadd, 1) := by decide +kernel
theorem dL_law_921 : decode YL_law.2.1 921 = .ok (.iaload, 1) := by decide +kernel
theorem dL_law_922 : decode YL_law.2.1 922 = .ok (.aload_n 0, 1) := by decide +kernel
theorem dL_law_923 : decode YL_law.2.1 923 = .ok (.iload_n 3, 1) := by decide +kernel
theorem dL_law_924 : decode YL_law.2.1 924 = .ok (.iconst 2, 1) := by decide +kernel
theorem dL_law_925 : decode YL_law.2.1 925 = .ok (.iadd, 1) := by decide +kernel
theorem dL_law_926 : decode YL_law.2.1 926 = .ok (.iaload, 1) := by decide +kernel
theorem dL_law_927 : decode YL_law.2.1 927 = .ok (.invokevirtual 99, 3) := by decide +kernel
theorem dL_law_930 : decode YL_law.2.1 930 = .ok (.aload_n 2, 1) := by decide +kernel
theorem dL_law_931 : decode YL_law.2.1 931 = .ok (.aload_n 0, 1) := by decide +kernel
theorem dL_law_932 : decode YL_law.2.1 932 = .ok (.iload_n 3, 1) := by decide +kernel
theorem dL_law_933 : decode YL_law.2.1 933 = .ok (.iconst 1, 1) := by decide +kernel
theorem dL_law_934 : decode YL_law.2.1 934 = .ok (.iadd, 1) := by decide +kernel
theorem dL_law_935 : decode YL_law.2.1 935 = .ok (.iaload, 1) := by decide +kernel
theorem dL_law_936 : decode YL_law.2.1 936 = .ok (.aload_n 0, 1) := by decide +kernel
theorem dL_law_937 : decode YL_law.2.1 937 = .ok (.iload_n 3, 1) := by decide +kernel
theorem dL_law_938 : decode YL_law.2.1 938 = .ok (.iconst 2, 1) := by decide +kernel
theorem dL_law_939 : decode YL_law.2.1 939 = .ok (.iadd, 1) := by decide +kernel
theorem dL_law_940 : decode YL_law.2.1 940 = .ok (.iaload, 1) := by decide +kernel
theorem dL_law_941 : decode YL_law.2.1 941 = .ok (.invokevirtual 102, 3) := by decide +kernel
theorem dL_law_944 : decode YL_law.2.1 944 = .ok (.if_icmp .eq 203, 3) := by decide +kernel
theorem dL_law_947 : decode YL_law.2.1 947 = .ok (.iconst 0, 1) := by decide +kernel
theorem dL_law_948 : decode YL_law.2.1 948 = .ok (.ireturn, 1) := by decide +kernel
theorem dL_law_949 : decode YL_law.2.1 949 = .ok (.aload_n 1, 1) := by decide +kernel
theorem dL_law_950 : decode YL_law.2.1 950 = .ok (.invokevirtual 103, 3) := by decide +kernel
theorem dL_law_953 : decode YL_law.2.1 953 = .ok (.aload_n 2, 1) := by decide +kernel
theorem dL_law_954 : decode YL_law.2.1 954 = .ok (.invokevirtual 106, 3) := by decide +kernel
theorem dL_law_957 : decode YL_law.2.1 957 = .ok (.if_icmp .eq 190, 3) := by decide +kernel
theorem dL_law_960 : decode YL_law.2.1 960 = .ok (.iconst 0, 1) := by decide +kernel
theorem dL_law_961 : decode YL_law.2.1 961 = .ok (.ireturn, 1) := by decide +kernel
theorem dL_law_962 : decode YL_law.2.1 962 = .ok (.aload_n 1, 1) := by decide +kernel
theorem dL_law_963 : decode YL_law.2.1 963 = .ok (.invokevirtual 107, 3) := by decide +kernel
theorem dL_law_966 : decode YL_law.2.1 966 = .ok (.aload_n 2, 1) := by decide +kernel
theorem dL_law_967 : decode YL_law.2.1 967 = .ok (.invokevirtual 110, 3) := by decide +kernel
theorem dL_law_970 : decode YL_law.2.1 970 = .ok (.if_icmp .eq 177, 3) := by decide +kernel
theorem dL_law_973 : decode YL_law.2.1 973 = .ok (.iconst 0, 1) := by decide +kernel
theorem dL_law_974 : decode YL_law.2.1 974 = .ok (.ireturn, 1) := by decide +kernel
theorem dL_law_975 : decode YL_law.2.1 975 = .ok (.aload_n 1, 1) := by decide +kernel
theorem dL_law_976 : decode YL_law.2.1 976 = .ok (.aload_n 0, 1) := by decide +kernel
theorem dL_law_977 : decode YL_law.2.1 977 = .ok (.iload_n 3, 1) := by decide +kernel
theorem dL_law_978 : decode YL_law.2.1 978 = .ok (.iconst 1, 1) := by decide +kernel
theorem dL_law_979 : decode YL_law.2.1 979 = .ok (.iadd, 1) := by decide +kernel
theorem dL_law_980 : decode YL_law.2.1 980 = .ok (.iaload, 1) := by decide +kernel
theorem dL_law_981 : decode YL_law.2.1 981 = .ok (.invokevirtual 111, 3) := by decide +kernel
theorem dL_law_984 : decode YL_law.2.1 984 = .ok (.aload_n 2, 1) := by decide +kernel
theorem dL_law_985 : decode YL_law.2.1 985 = .ok (.aload_n 0, 1) := by decide +kernel
theorem dL_law_986 : decode YL_law.2.1 986 = .ok (.iload_n 3, 1) := by decide +kernel
theorem dL_law_987 : decode YL_law.2.1 987 = .ok (.iconst 1, 1) := by decide +kernel
theorem dL_law_988 : decode YL_law.2.1 988 = .ok (.iadd, 1) := by decide +kernel
theorem dL_law_989 : decode YL_law.2.1 989 = .ok (.iaload, 1) := by decide +kernel
theorem dL_law_990 : decode YL_law.2.1 990 = .ok (.invokevirtual 114, 3) := by decide +kernel
theorem dL_law_993 : decode YL_law.2.1 993 = .ok (.if_icmp .eq 154, 3) := by decide +kernel
theorem dL_law_996 : decode YL_law.2.1 996 = .ok (.iconst 0, 1) := by decide +kernel
theorem dL_law_997 : decode YL_law.2.1 997 = .ok (.ireturn, 1) := by decide +kernel
theorem dL_law_998 : decode YL_law.2.1 998 = .ok (.aload_n 1, 1) := by decide +kernel
theorem dL_law_999 : decode YL_law.2.1 999 = .ok (.aload_n 0, 1) := by decide +kernel
theorem dL_law_1000 : decode YL_law.2.1 1000 = .ok (.iload_n 3, 1) := by decide +kernel
theorem dL_law_1001 : decode YL_law.2.1 1001 = .ok (.iconst 1, 1) := by decide +kernel
theorem dL_law_1002 : decode YL_law.2.1 1002 = .ok (.iadd, 1) := by decide +kernel
theorem dL_law_1003 : decode YL_law.2.1 1003 = .ok (.iaload, 1) := by decide +kernel
theorem dL_law_1004 : decode YL_law.2.1 1004 = .ok (.aload_n 0, 1) := by decide +kernel
theorem dL_law_1005 : decode YL_law.2.1 1005 = .ok (.iload_n 3, 1) := by decide +kernel
theorem dL_law_1006 : decode YL_law.2.1 1006 = .ok (.iconst 2, 1) := by decide +kernel
theorem dL_law_1007 : decode YL_law.2.1 1007 = .ok (.iadd, 1) := by decide +kernel
theorem dL_law_1008 : decode YL_law.2.1 1008 = .ok (.iaload, 1) := by decide +kernel
theorem dL_law_1009 : decode YL_law.2.1 1009 = .ok (.aload_n 0, 1) := by decide +kernel
theorem dL_law_1010 : decode YL_law.2.1 1010 = .ok (.iload_n 3, 1) := by decide +kernel
theorem dL_law_1011 : decode YL_law.2.1 1011 = .ok (.iconst 3, 1) := by decide +kernel
theorem dL_law_1012 : decode YL_law.2.1 1012 = .ok (.iadd, 1) := by decide +kernel
theorem dL_law_1013 : decode YL_law.2.1 1013 = .ok (.iaload, 1) := by decide +kernel
theorem dL_law_1014 : decode YL_law.2.1 1014 = .ok (.invokevirtual 115, 3) := by decide +kernel
theorem dL_law_1017 : decode YL_law.2.1 1017 = .ok (.aload_n 2, 1) := by decide +kernel
theorem dL_law_1018 : decode YL_law.2.1 1018 = .ok (.aload_n 0, 1) := by decide +kernel
theorem dL_law_1019 : decode YL_law.2.1 1019 = .ok (.iload_n 3, 1) := by decide +kernel
theorem dL_law_1020 : decode YL_law.2.1 1020 = .ok (.iconst 1, 1) := by decide +kernel
theorem dL_law_1021 : decode YL_law.2.1 1021 = .ok (.iadd, 1) := by decide +kernel
theorem dL_law_1022 : decode YL_law.2.1 1022 = .ok (.iaload, 1) := by decide +kernel
theorem dL_law_1023 : decode YL_law.2.1 1023 = .ok (.aload_n 0, 1) := by decide +kernel
theorem dL_law_1024 : decode YL_law.2.1 1024 = .ok (.iload_n 3, 1) := by decide +kernel
theorem dL_law_1025 : decode YL_law.2.1 1025 = .ok (.iconst 2, 1) := by decide +kernel
theorem dL_law_1026 : decode YL_law.2.1 1026 = .ok (.iadd, 1) := by decide +kernel
theorem dL_law_1027 : decode YL_law.2.1 1027 = .ok (.iaload, 1) := by decide +kernel
theorem dL_law_1028 : decode YL_law.2.1 1028 = .ok (.aload_n 0, 1) := by decide +kernel
theorem dL_law_1029 : decode YL_law.2.1 1029 = .ok (.iload_n 3, 1) := by decide +kernel
theorem dL_law_1030 : decode YL_law.2.1 1030 = .ok (.iconst 3, 1) := by decide +kernel
theorem dL_law_1031 : decode YL_law.2.1 1031 = .ok (.iadd, 1) := by decide +kernel
theorem dL_law_1032 : decode YL_law.2.1 1032 = .ok (.iaload, 1) := by decide +kernel
theorem dL_law_1033 : decode YL_law.2.1 1033 = .ok (.invokevirtual 118, 3) := by decide +kernel
theorem dL_law_1036 : decode YL_law.2.1 1036 = .ok (.if_icmp .eq 111, 3) := by decide +kernel
theorem dL_law_1039 : decode YL_law.2.1 1039 = .ok (.iconst 0, 1) := by decide +kernel
theorem dL_law_1040 : decode YL_law.2.1 1040 = .ok (.ireturn, 1) := by decide +kernel
theorem dL_law_1041 : decode YL_law.2.1 1041 = .ok (.aload_n 1, 1) := by decide +kernel
theorem dL_law_1042 : decode YL_law.2.1 1042 = .ok (.aload_n 0, 1) := by decide +kernel
theorem dL_law_1043 : decode YL_law.2.1 1043 = .ok (.iload_n 3, 1) := by decide +kernel
theorem dL_law_1044 : decode YL_law.2.1 1044 = .ok (.iconst 1, 1) := by decide +kernel
theorem dL_law_1045 : decode YL_law.2.1 1045 = .ok (.iadd, 1) := by decide +kernel
theorem dL_law_1046 : decode YL_law.2.1 1046 = .ok (.iaload, 1) := by decide +kernel
theorem dL_law_1047 : decode YL_law.2.1 1047 = .ok (.aload_n 0, 1) := by decide +kernel
theorem dL_law_1048 : decode YL_law.2.1 1048 = .ok (.iload_n 3, 1) := by decide +kernel
theorem dL_law_1049 : decode YL_law.2.1 1049 = .ok (.iconst 2, 1) := by decide +kernel
theorem dL_law_1050 : decode YL_law.2.1 1050 = .ok (.iadd, 1) := by decide +kernel
theorem dL_law_1051 : decode YL_law.2.1 1051 = .ok (.iaload, 1) := by decide +kernel
theorem dL_law_1052 : decode YL_law.2.1 1052 = .ok (.aload_n 0, 1) := by decide +kernel
theorem dL_law_1053 : decode YL_law.2.1 1053 = .ok (.iload_n 3, 1) := by decide +kernel
theorem dL_law_1054 : decode YL_law.2.1 1054 = .ok (.iconst 3, 1) := by decide +kernel
theorem dL_law_1055 : decode YL_law.2.1 1055 = .ok (.iadd, 1) := by decide +kernel
theorem dL_law_1056 : decode YL_law.2.1 1056 = .ok (.iaload, 1) := by decide +kernel
theorem dL_law_1057 : decode YL_law.2.1 1057 = .ok (.invokevirtual 119, 3) := by decide +kernel
theorem dL_law_1060 : decode YL_law.2.1 1060 = .ok (.aload_n 2, 1) := by decide +kernel
theorem dL_law_1061 : decode YL_law.2.1 1061 = .ok (.aload_n 0, 1) := by decide +kernel
theorem dL_law_1062 : decode YL_law.2.1 1062 = .ok (.iload_n 3, 1) := by decide +kernel
theorem dL_law_1063 : decode YL_law.2.1 1063 = .ok (.iconst 1, 1) := by decide +kernel
theorem dL_law_1064 : decode YL_law.2.1 1064 = .ok (.iadd, 1) := by decide +kernel
theorem dL_law_1065 : decode YL_law.2.1 1065 = .ok (.iaload, 1) := by decide +kernel
theorem dL_law_1066 : decode YL_law.2.1 1066 = .ok (.aload_n 0, 1) := by decide +kernel
theorem dL_law_1067 : decode YL_law.2.1 1067 = .ok (.iload_n 3, 1) := by decide +kernel
theorem dL_law_1068 : decode YL_law.2.1 1068 = .ok (.iconst 2, 1) := by decide +kernel
theorem dL_law_1069 : decode YL_law.2.1 1069 = .ok (.iadd, 1) := by decide +kernel
theorem dL_law_1070 : decode YL_law.2.1 1070 = .ok (.iaload, 1) := by decide +kernel
theorem dL_law_1071 : decode YL_law.2.1 1071 = .ok (.aload_n 0, 1) := by decide +kernel
theorem dL_law_1072 : decode YL_law.2.1 1072 = .ok (.iload_n 3, 1) := by decide +kernel
theorem dL_law_1073 : decode YL_law.2.1 1073 = .ok (.iconst 3, 1) := by decide +kernel
theorem dL_law_1074 : decode YL_law.2.1 1074 = .ok (.iadd, 1) := by decide +kernel
theorem dL_law_1075 : decode YL_law.2.1 1075 = .ok (.iaload, 1) := by decide +kernel
theorem dL_law_1076 : decode YL_law.2.1 1076 = .ok (.invokevirtual 122, 3) := by decide +kernel
theorem dL_law_1079 : decode YL_law.2.1 1079 = .ok (.if_icmp .eq 68, 3) := by decide +kernel
theorem dL_law_1082 : decode YL_law.2.1 1082 = .ok (.iconst 0, 1) := by decide +kernel
theorem dL_law_1083 : decode YL_law.2.1 1083 = .ok (.ireturn, 1) := by decide +kernel
theorem dL_law_1084 : decode YL_law.2.1 1084 = .ok (.aload_n 1, 1) := by decide +kernel
theorem dL_law_1085 : decode YL_law.2.1 1085 = .ok (.aload_n 0, 1) := by decide +kernel
theorem dL_law_1086 : decode YL_law.2.1 1086 = .ok (.iload_n 3, 1) := by decide +kernel
theorem dL_law_1087 : decode YL_law.2.1 1087 = .ok (.iconst 1, 1) := by decide +kernel
theorem dL_law_1088 : decode YL_law.2.1 1088 = .ok (.iadd, 1) := by decide +kernel
theorem dL_law_1089 : decode YL_law.2.1 1089 = .ok (.iaload, 1) := by decide +kernel
theorem dL_law_1090 : decode YL_law.2.1 1090 = .ok (.aload_n 0, 1) := by decide +kernel
theorem dL_law_1091 : decode YL_law.2.1 1091 = .ok (.iload_n 3, 1) := by decide +kernel
theorem dL_law_1092 : decode YL_law.2.1 1092 = .ok (.iconst 2, 1) := by decide +kernel
theorem dL_law_1093 : decode YL_law.2.1 1093 = .ok (.iadd, 1) := by decide +kernel
theorem dL_law_1094 : decode YL_law.2.1 1094 = .ok (.iaload, 1) := by decide +kernel
theorem dL_law_1095 : decode YL_law.2.1 1095 = .ok (.aload_n 0, 1) := by decide +kernel
theorem dL_law_1096 : decode YL_law.2.1 1096 = .ok (.iload_n 3, 1) := by decide +kernel
theorem dL_law_1097 : decode YL_law.2.1 1097 = .ok (.iconst 3, 1) := by decide +kernel
theorem dL_law_1098 : decode YL_law.2.1 1098 = .ok (.iadd, 1) := by decide +kernel
theorem dL_law_1099 : decode YL_law.2.1 1099 = .ok (.iaload, 1) := by decide +kernel
theorem dL_law_1100 : decode YL_law.2.1 1100 = .ok (.aload_n 0, 1) := by decide +kernel
theorem dL_law_1101 : decode YL_law.2.1 1101 = .ok (.iload_n 3, 1) := by decide +kernel
theorem dL_law_1102 : decode YL_law.2.1 1102 = .ok (.iconst 4, 1) := by decide +kernel
theorem dL_law_1103 : decode YL_law.2.1 1103 = .ok (.iadd, 1) := by decide +kernel
theorem dL_law_1104 : decode YL_law.2.1 1104 = .ok (.iaload, 1) := by decide +kernel
theorem dL_law_1105 : decode YL_law.2.1 1105 = .ok (.aload_n 0, 1) := by decide +kernel
theorem dL_law_1106 : decode YL_law.2.1 1106 = .ok (.iload_n 3, 1) := by decide +kernel
theorem dL_law_1107 : decode YL_law.2.1 1107 = .ok (.iconst 5, 1) := by decide +kernel
theorem dL_law_1108 : decode YL_law.2.1 1108 = .ok (.iadd, 1) := by decide +kernel
theorem dL_law_1109 : decode YL_law.2.1 1109 = .ok (.iaload, 1) := by decide +kernel
theorem dL_law_1110 : decode YL_law.2.1 1110 = .ok (.invokevirtual 123, 3) := by decide +kernel
theorem dL_law_1113 : decode YL_law.2.1 1113 = .ok (.aload_n 2, 1) := by decide +kernel
theorem dL_law_1114 : decode YL_law.2.1 1114 = .ok (.aload_n 0, 1) := by decide +kernel
theorem dL_law_1115 : decode YL_law.2.1 1115 = .ok (.iload_n 3, 1) := by decide +kernel
theorem dL_law_1116 : decode YL_law.2.1 1116 = .ok (.iconst 1, 1) := by decide +kernel
theorem dL_law_1117 : decode YL_law.2.1 1117 = .ok (.iadd, 1) := by decide +kernel
theorem dL_law_1118 : decode YL_law.2.1 1118 = .ok (.iaload, 1) := by decide +kernel
theorem dL_law_1119 : decode YL_law.2.1 1119 = .ok (.aload_n 0, 1) := by decide +kernel
theorem dL_law_1120 : decode YL_law.2.1 1120 = .ok (.iload_n 3, 1) := by decide +kernel
theorem dL_law_1121 : decode YL_law.2.1 1121 = .ok (.iconst 2, 1) := by decide +kernel
theorem dL_law_1122 : decode YL_law.2.1 1122 = .ok (.iadd, 1) := by decide +kernel
theorem dL_law_1123 : decode YL_law.2.1 1123 = .ok (.iaload, 1) := by decide +kernel
theorem dL_law_1124 : decode YL_law.2.1 1124 = .ok (.aload_n 0, 1) := by decide +kernel
theorem dL_law_1125 : decode YL_law.2.1 1125 = .ok (.iload_n 3, 1) := by decide +kernel
theorem dL_law_1126 : decode YL_law.2.1 1126 = .ok (.iconst 3, 1) := by decide +kernel
theorem dL_law_1127 : decode YL_law.2.1 1127 = .ok (.iadd, 1) := by decide +kernel
theorem dL_law_1128 : decode YL_law.2.1 1128 = .ok (.iaload, 1) := by decide +kernel
theorem dL_law_1129 : decode YL_law.2.1 1129 = .ok (.aload_n 0, 1) := by decide +kernel
theorem dL_law_1130 : decode YL_law.2.1 1130 = .ok (.iload_n 3, 1) := by decide +kernel
theorem dL_law_1131 : decode YL_law.2.1 1131 = .ok (.iconst 4, 1) := by decide +kernel
theorem dL_law_1132 : decode YL_law.2.1 1132 = .ok (.iadd, 1) := by decide +kernel
theorem dL_law_1133 : decode YL_law.2.1 1133 = .ok (.iaload, 1) := by decide +kernel
theorem dL_law_1134 : decode YL_law.2.1 1134 = .ok (.aload_n 0, 1) := by decide +kernel
theorem dL_law_1135 : decode YL_law.2.1 1135 = .ok (.iload_n 3, 1) := by decide +kernel
theorem dL_law_1136 : decode YL_law.2.1 1136 = .ok (.iconst 5, 1) := by decide +kernel
theorem dL_law_1137 : decode YL_law.2.1 1137 = .ok (.iadd, 1) := by decide +kernel
theorem dL_law_1138 : decode YL_law.2.1 1138 = .ok (.iaload, 1) := by decide +kernel
theorem dL_law_1139 : decode YL_law.2.1 1139 = .ok (.invokevirtual 126, 3) := by decide +kernel
theorem dL_law_1142 : decode YL_law.2.1 1142 = .ok (.if_icmp .eq 5, 3) := by decide +kernel
theorem dL_law_1145 : decode YL_law.2.1 1145 = .ok (.iconst 0, 1) := by decide +kernel
theorem dL_law_1146 : decode YL_law.2.1 1146 = .ok (.ireturn, 1) := by decide +kernel
theorem dL_law_1147 : decode YL_law.2.1 1147 = .ok (.iinc 3 6, 3) := by decide +kernel
theorem dL_law_1150 : decode YL_law.2.1 1150 = .ok (.goto (-1132), 3) := by decide +kernel
theorem dL_law_1153 : decode YL_law.2.1 1153 = .ok (.iconst 1, 1) := by decide +kernel
theorem dL_law_1154 : decode YL_law.2.1 1154 = .ok (.ireturn, 1) := by decide +kernel
abbrev vwCl : List vw_C := [(RX0, TX0, 5), (RX1, TX1, 8), (RX2, TX2, 13), (RX3, TX3, 3), (RX4, TX4, 5), (RX5, TX5, 3), (RX6, TX6, 4), (RX7, TX7, 7), (RX8, TX8, 48)]
end
section
/-! THE ABSTRACT MACHINE: memory by relative addresses; a judgement JV over W, an instruction a lemma -/
abbrev JE : Type := Launch × Nat × va_G × (FieldType → ClassId)
abbrev JM : Type := Nat → Nat → Int32
abbrev JR : Type := Nat → Nat → Option Nat
abbrev JS : Type := Nat × JR × JM
abbrev JY : Type := MethodName × ByteArray × Nat × Option FieldType
/-- a kind of cell: an object of class ci, or an array of n elements of a type -/
abbrev JK : Type := Nat ⊕ (FieldType × Nat)
def jkf : List (Nat × JK) → Nat → JK → JK
  | [], _, d => d
  | (s, k) :: r, a, d => if a < s then d else jkf r a k
def jkl : List (Nat × JK) := [(0, .inl 7), (1, .inl 2), (2, .inl 1), (3, .inr (.int, 12)), (8, .inr (.boolean, 12)), (9, .inr (.int, 8)), (10, .inl 0), (11, .inr (.int, 192)), (14, .inr (.int, 2304)), (15, .inr (.int, 1536)), (16, .inl 0), (17, .inr (.int, 192)), (20, .inr (.int, 2304)), (21, .inr (.int, 1536)), (22, .inr (.int, 192)), (25, .inr (.boolean, 192)), (26, .inr (.int, 192)), (27, .inl 0), (28, .inr (.int, 1)), (31, .inr (.int, 12)), (32, .inr (.int, 8)), (33, .inl 3), (34, .inr (.int, 8)), (36, .inr (.boolean, 8)), (37, .inl 2), (38, .inl 1), (39, .inr (.int, 12)), (44, .inr (.boolean, 12)), (45, .inr (.int, 8)), (46, .inl 0), (47, .inr (.int, 192)), (50, .inr (.int, 2304)), (51, .inr (.int, 1536)), (52, .inl 0), (53, .inr (.int, 192)), (56, .inr (.int, 2304)), (57, .inr (.int, 1536)), (58, .inr (.int, 192)), (61, .inr (.boolean, 192)), (62, .inr (.int, 192)), (63, .inl 0), (64, .inr (.int, 1)), (67, .inr (.int, 12)), (68, .inr (.int, 8)), (69, .inl 3), (70, .inr (.int, 8)), (72, .inr (.boolean, 8)), (73, .inl 2), (74, .inl 1), (75, .inr (.int, 12)), (80, .inr (.boolean, 12)), (81, .inr (.int, 8)), (82, .inl 0), (83, .inr (.int, 192)), (86, .inr (.int, 2304)), (87, .inr (.int, 1536)), (88, .inl 0), (89, .inr (.int, 192)), (92, .inr (.int, 2304)), (93, .inr (.int, 1536)), (94, .inr (.int, 192)), (97, .inr (.boolean, 192)), (98, .inr (.int, 192)), (99, .inl 0), (100, .inr (.int, 1)), (103, .inr (.int, 12)), (104, .inr (.int, 8)), (105, .inl 3), (106, .inr (.int, 8)), (108, .inr (.boolean, 8)), (109, .inl 4), (110, .inr (.int, 8)), (114, .inr (.object RX3, 3)), (115, .inl 3), (116, .inr (.int, 8)), (118, .inr (.boolean, 8)), (119, .inl 3), (120, .inr (.int, 8)), (122, .inr (.boolean, 8)), (123, .inl 3), (124, .inr (.int, 8)), (126, .inr (.boolean, 8)), (127, .inl 6), (128, .inr (.int, 9)), (129, .inl 5), (130, .inr (.int, 4)), (132, .inr (.array .int, 4)), (133, .inr (.int, 40)), (137, .inl 8), (138, .inr (.int, 12)), (142, .inr (.int, 24)), (143, .inr (.int, 192)), (147, .inr (.array .int, 192)), (148, .inr (.int, 12)), (340, .inr (.array .int, 192)), (341, .inr (.int, 8)), (533, .inr (.int, 400)), (539, .inr (.array .int, 400)), (540, .inr (.int, 12)), (940, .inr (.array .int, 400)), (941, .inr (.int, 8)), (1343, .inr (.int, 12)), (1344, .inr (.int, 8)), (1345, .inr (.int, 9)), (1346, .inr (.array .int, 2)), (1347, .inr (.int, 4)), (1349, .inr (.array .int, 8)), (1350, .inr (.int, 24)), (1358, .inr (.array .int, 8)), (1359, .inr (.int, 192)), (1367, .inr (.array .int, 12)), (1368, .inr (.int, 400)), (1380, .inr (.array (.array .int), 2)), (1381, .inr (.array .int, 192)), (1382, .inr (.int, 12)), (1574, .inr (.array .int, 192)), (1575, .inr (.int, 12)), (1767, .inr (.array (.array .int), 2)), (1768, .inr (.array .int, 192)), (1769, .inr (.int, 8)), (1961, .inr (.array .int, 192)), (1962, .inr (.int, 8)), (2154, .inr (.array (.array .int), 2)), (2155, .inr (.array .int, 400)), (2156, .inr (.int, 12)), (2556, .inr (.array .int, 400)), (2557, .inr (.int, 12)), (2957, .inr (.array (.array .int), 2)), (2958, .inr (.array .int, 400)), (2959, .inr (.int, 8)), (3359, .inr (.array .int, 400)), (3360, .inr (.int, 8)), (3760, .inr (.array .int, 2)), (3761, .inr (.int, 24)), (3763, .inr (.int, 4)), (3765, .inr (.array .int, 4)), (3766, .inr (.int, 40))]
def jkd (a : Nat) : JK := jkf jkl a (.inl 0)
/-- how many fields class ci has; which of them hold references -/
def jisR : FieldType → Bool
  | .array _ => true
  | .object _ => true
  | _ => false
def jnf : Nat → Nat
  | 0 => 5
  | 1 => 8
  | 2 => 13
  | 3 => 3
  | 4 => 5
  | 5 => 3
  | 6 => 4
  | 7 => 7
  | _ => 48
def jfr (ci k : Nat) : Bool := jisR ((match ci with
  | 0 => tyX0
  | 1 => tyX1
  | 2 => tyX2
  | 3 => tyX3
  | 4 => tyX4
  | 5 => tyX5
  | 6 => tyX6
  | 7 => tyX7
  | _ => tyX8) k)
def jsz (a : Nat) : Nat := match jkd a with
  | .inl ci => jnf ci
  | .inr q => q.2
def jsl : Nat → Nat
  | 0 => 0
  | n + 1 => jsl n + jsz n
theorem jsl_mono {a b : Nat} (h : a ≤ b) : jsl a ≤ jsl b := by
  induction b with
  | zero => rw [Nat.le_zero.mp h]; exact Nat.le_refl _
  | succ b ih =>
    rcases Nat.lt_or_ge a (b + 1) with q | q
    · exact Nat.le_trans (ih (Nat.lt_succ_iff.mp q)) (Nat.le_add_right _ _)
    · rw [show a = b + 1 by omega]; exact Nat.le_refl _
def jrl (b : Nat) (v : Value) : Value := match v with
  | .ref a => .ref (b + a)
  | w => w
theorem jrl_cat (b : Nat) (v : Value) : (jrl b v).category = v.category := by cases v <;> rfl
def jfv (b : Nat) (r : JR) (u : JM) (a ci k : Nat) : Value := if jfr ci k = true then va_rf ((r a k).map (b + ·)) else .int (u a k)
def jen (E : JE) (r : JR) (u : JM) (a : Nat) : va_E := match jkd a with
  | .inl ci => .inr (ci, (List.range (jnf ci)).map (jfv E.2.1 r u a ci))
  | .inr q => if jisR q.1 = true then .inl (E.2.2.2 q.1, q.2, .inr (.inr (.inr (.inr fun i => (r a i).map (E.2.1 + ·))))) else .inl (E.2.2.2 q.1, q.2, .inl (u a))
def JH (E : JE) (g : JS) (H : Heap) : Prop := H.size = E.2.1 + g.1 ∧ ∀ a, a < g.1 → va_at E.2.2.1 vwCl (E.2.1 + a, jen E g.2.1 g.2.2 a) H
def jtys (E : JE) : List (ClassId × FieldType) := [(E.2.2.2 .int, .int), (E.2.2.2 .boolean, .boolean), (E.2.2.2 (.array .int), .array .int), (E.2.2.2 (.array (.array .int)), .array (.array .int)), (E.2.2.2 (.object RX3), .object RX3)]
def jAO (t : FieldType) (U : State) : Prop := (Cond.arrayOver t).before #[] U = true
theorem jAO.use {t : FieldType} {A : Array Value} {U : State} (h : jAO t U) : (Cond.arrayOver t).before A U = true := h
theorem jAO.movedA {t : FieldType} {u U : State} (hvm : u.vm.Alike U.vm) (h : jAO (.array t) u) : jAO (.array t) U := by
  have fc : ∀ n, U.vm.findClass n = u.vm.findClass n := fun n => by rw [hvm.findClass]
  have hi : ∀ comp : ClassId, (U.vm.classes.findIdx? fun (x : Class) => match x.kind with | .array component _ => component == comp | _ => false) = (u.vm.classes.findIdx? fun (x : Class) => match x.kind with | .array component _ => component == comp | _ => false) := by
    intro comp
    refine (va_idx_bare U.vm comp).symm.trans (Eq.trans ?_ (va_idx_bare u.vm comp))
    first | rw [hvm.bare_eq] | rw [← hvm.bare_eq]
  have h' : (Cond.arrayOver (.array t)).holds #[] u none u [] = true := h
  simp only [Cond.holds, Cond.value, beq_iff_eq] at h'
  show (Cond.arrayOver (.array t)).holds #[] U none U [] = true
  simp only [Cond.holds, Cond.value, beq_iff_eq]
  cases hc : u.vm.findClass (FieldType.array t).toString with
  | none => simp [hc] at h'
  | some comp =>
    simp only [hc, Option.bind_some, Option.bind_eq_some_iff, Option.map_eq_some_iff] at h'
    obtain ⟨c, hx, k, hk, hb⟩ := h'
    obtain ⟨k', hk', he⟩ := hvm.2.2 _ _ hk
    rw [fc, hc]
    simp only [Option.bind_some, Option.bind_eq_some_iff, Option.map_eq_some_iff]
    exact ⟨c, (hi comp).trans hx, k', hk', by rw [he]; simp only [fc]; exact hb⟩
def JKn (E : JE) (s : State) : Prop := va_K E.2.2.1 vwCl (jtys E) s ∧ jAO (.object RX3) s ∧ jAO (.array .int) s ∧ jAO (.array (.array .int)) s ∧ ∀ w ∈ lw_nest, va_Nw w s
theorem JKn.warm {E : JE} {s U : State} (hW : s.WarmedH U.vm) (h : JKn E s) : JKn E U := by
  obtain ⟨h1, h2, h3, h4, h5⟩ := h
  refine ⟨va_K.moved hW.alike h1, va_AO.moved hW.alike h2, jAO.movedA hW.alike h3, jAO.movedA hW.alike h4, fun w hw => ?_⟩
  have hn := (List.mem_filter.mp hw).2
  cases w with
  | methodLinkNest a i x h => exact va_Nw.warmM hW (h5 _ hw)
  | _ => exact absurd hn (by simp [lw_isN])
def jll (b : Nat) : Nat → List (Option Value) → List (Nat × Value)
  | _, [] => []
  | i, some v :: r => (i, jrl b v) :: jll b (i + 1) r
  | i, none :: r => jll b (i + 1) r
theorem jll_mem {b : Nat} {q : Nat × Value} : ∀ {ls : List (Option Value)} {i : Nat}, q ∈ jll b i ls ↔ ∃ k v, ls[k]? = some (some v) ∧ q = (i + k, jrl b v)
  | [], i => by simp [jll]
  | some w :: r, i => by
    simp only [jll, List.mem_cons, jll_mem (ls := r) (i := i + 1)]
    constructor
    · rintro (rfl | ⟨k, v, h1, h2⟩)
      · exact ⟨0, w, rfl, rfl⟩
      · exact ⟨k + 1, v, h1, by rw [h2]; congr 1; omega⟩
    · rintro ⟨k, v, h1, h2⟩
      cases k with
      | zero => simp at h1; subst h1; exact Or.inl h2
      | succ k => exact Or.inr ⟨k, v, h1, by rw [h2]; congr 1; omega⟩
  | none :: r, i => by
    simp only [jll, jll_mem (ls := r) (i := i + 1)]
    constructor
    · rintro ⟨k, v, h1, h2⟩
      exact ⟨k + 1, v, h1, by rw [h2]; congr 1; omega⟩
    · rintro ⟨k, v, h1, h2⟩
      cases k with
      | zero => simp at h1
      | succ k => exact ⟨k, v, h1, by rw [h2]; congr 1; omega⟩
def jl (b nL : Nat) (ls : List (Option Value)) (A : Array Slot) : Prop := lv_has A nL (jll b 0 ls) ∧ ∀ (k : Nat) (v : Value), ls[k]? = some (some v) → v.category = 1
theorem jl.at {b nL k : Nat} {ls : List (Option Value)} {A : Array Slot} {v : Value} (h : jl b nL ls A) (hk : ls[k]? = some (some v)) : A[k]? = some (.val (jrl b v)) :=
  h.1.2.2 (k, jrl b v) (jll_mem.mpr ⟨k, v, hk, by rw [Nat.zero_add]⟩)
theorem jl.set {b nL i : Nat} {ls ls' : List (Option Value)} {A A' : Array Slot} {v : Value} (h : jl b nL ls A) (hv : v.category = 1) (hs : ls.set i (some v) = ls')
    (h' : lv_has A' nL ((i, jrl b v) :: (jll b 0 ls).filter (fun q => !(q.1 == i) && !(q.1 + 1 == i && q.2.category == 2)))) : jl b nL ls' A' := by
  subst hs
  have key : ∀ (k : Nat) (w : Value), (ls.set i (some v))[k]? = some (some w) → (k = i ∧ w = v) ∨ (k ≠ i ∧ ls[k]? = some (some w)) := by
    intro k w hk
    by_cases e : k = i
    · subst e
      by_cases hl : k < ls.length
      · rw [List.getElem?_set_self hl] at hk
        exact Or.inl ⟨rfl, by injection hk with hk; injection hk with hk; exact hk.symm⟩
      · rw [List.getElem?_eq_none (by rw [List.length_set]; omega)] at hk
        cases hk
    · rw [List.getElem?_set_ne (Ne.symm e)] at hk
      exact Or.inr ⟨e, hk⟩
  refine ⟨⟨h'.1, h'.2.1, fun q hq => ?_⟩, fun k w hk => ?_⟩
  · obtain ⟨k, w, h1, rfl⟩ := jll_mem.mp hq
    rcases key k w h1 with ⟨rfl, rfl⟩ | ⟨e, h2⟩
    · refine h'.2.2 _ ?_
      rw [Nat.zero_add]
      exact List.mem_cons_self
    · refine h'.2.2 _ (List.mem_cons_of_mem _ (List.mem_filter.mpr ⟨jll_mem.mpr ⟨k, w, h2, rfl⟩, ?_⟩))
      have hc := h.2 k w h2
      simp [jrl_cat, hc]
      omega
  · rcases key k w hk with ⟨rfl, rfl⟩ | ⟨e, h2⟩
    · exact hv
    · exact h.2 k w h2
def jwd (y : JY) : List Cond := Cond.code y.1 y.2.1 y.2.2.1 y.2.2.2 :: lw_gd
def jrm (n0 nE d : Nat) : Room := { frames := d, cells := nE - n0, slots := jsl nE - jsl n0, locals := 100 * d }
def jFr (E : JE) : Nat → Prop := fun q => E.2.1 ≤ q
def jQ (E : JE) (nE : Nat) (K : Option Value → JS → Prop) : Array Value → State → Outcome → State → Prop := fun _ st o t =>
  (∃ (v : Option Value) (g : JS), o = .returned (v.map (jrl E.2.1)) ∧ K v g ∧ g.1 = nE ∧ (∀ w, v = some w → w.category = 1) ∧ JH E g t.heap) ∧ va_F (jFr E) st t
def jP (E : JE) (as : List Value) (g : JS) : Array Value → State → Prop := fun v U => v = (as.map (jrl E.2.1)).toArray ∧ JH E g U.heap ∧ JKn E U
/-- the contract of a method, from one memory, with these arguments -/
def JC (E : JE) (n0 nE d : Nat) (y : JY) (as : List Value) (K : Option Value → JS → Prop) (g : JS) : Prop :=
  Met E.1 y.1 (jwd y) (jrm n0 nE d) (jP E as g) (jQ E nE K) (nE - n0) (jsl nE - jsl n0) (jFr E)
def JX (E : JE) (n0 : Nat) (y : JY) (p : Program) (s : State) (m : MethodId) (args : Array Value) (meth : Method) (c : Code) : Prop :=
  p.tables.exec = Jvm.exec ∧ c.code = y.2.1 ∧ c.maxLocals = y.2.2.1 ∧ meth.sig.returnType = y.2.2.2 ∧ meth.locks = false ∧ s.vm.findClass y.1.cls = some m.cls ∧ meth.name = y.1.name ∧ (∀ w ∈ jwd y, w.before args s = true) ∧ JKn E s ∧ s.heap.size = E.2.1 + n0
def JV (E : JE) (n0 nE d : Nat) (y : JY) (K : Option Value → JS → Prop) (pc : Nat) (ls : List (Option Value)) (st : List Value) (g : JS) : Prop :=
  ∀ (p : Program) (e : Env) (s : State) (m : MethodId) (args : Array Value) (below : List Frame) (meth : Method) (c : Code) (H : Heap) (locs : List Loc) (A : Array Slot),
    JX E n0 y p s m args meth c → JH E g H → va_S (jFr E) s.heap H locs → jl E.2.1 y.2.2.1 ls A →
    W p E.1 e (jrm n0 nE d) s m args below meth c H locs (g.1 - n0) (jsl g.1 - jsl n0) (MQ below (jQ E nE K) args s (nE - n0) (jsl nE - jsl n0) (jFr E)) (F0 m pc A (st.map (jrl E.2.1)))
theorem JC.ofV {E : JE} {nE d : Nat} {y : JY} {K : Option Value → JS → Prop} {as : List Value} {g : JS} (hy : plainName y.1.cls = true) (hl : as.length ≤ y.2.2.1) (hc : ∀ v ∈ as, v.category = 1)
    (h : JV E g.1 nE d y K 0 (as.map some ++ List.replicate (y.2.2.1 - as.length) none) [] g) : JC E g.1 nE d y as K g := by
  refine Met.ofW (cc := y.2.1) (maxL := y.2.2.1) (ret := y.2.2.2) hy rfl ?_
  intro p e s m args below meth c s1 B hml hv
  obtain ⟨rfl, hH, hK⟩ := hv
  have hts := atoms_spec (ws := jwd y) B.pre
  have hown : s.vm.findClass y.1.cls = some m.cls := findClass_of_methodNamed B.named
  have hlen : (lg_sl (as.map (jrl E.2.1))).length = as.length := by
    have : ∀ (l : List Value), (∀ v ∈ l, v.category = 1) → (lg_sl (l.map (jrl E.2.1))).length = l.length := by
      intro l
      induction l with
      | nil => intro _; rfl
      | cons a r ih =>
        intro h1
        have h2 := ih (fun v hv => h1 v (List.mem_cons_of_mem _ hv))
        have h3 : (jrl E.2.1 a).category = 1 := by rw [jrl_cat]; exact h1 a List.mem_cons_self
        simp only [List.map_cons, lg_sl, List.flatMap_cons, h3] at h2 ⊢
        simp [h2]
    exact this as hc
  have hargs : lv_args 0 (as.map (jrl E.2.1)) = jll E.2.1 0 (as.map some ++ List.replicate (y.2.2.1 - as.length) none) := by
    have hz : ∀ (n i : Nat), jll E.2.1 i (List.replicate n none) = [] := by
      intro n
      induction n with
      | zero => intro i; rfl
      | succ n ih => intro i; exact ih (i + 1)
    have : ∀ (l : List Value) (i : Nat), (∀ v ∈ l, v.category = 1) → lv_args i (l.map (jrl E.2.1)) = jll E.2.1 i (l.map some ++ List.replicate (y.2.2.1 - as.length) none) := by
      intro l
      induction l with
      | nil => intro i _; exact (hz _ i).symm
      | cons a r ih =>
        intro i h1
        have h3 : (jrl E.2.1 a).category = 1 := by rw [jrl_cat]; exact h1 a List.mem_cons_self
        simp only [List.map_cons, lv_args, h3, List.cons_append, jll]
        rw [← ih (i + 1) (fun v hv => h1 v (List.mem_cons_of_mem _ hv))]
        rfl
    exact this as 0 hc
  have hlv := lv_entry (as.map (jrl E.2.1)) (n := y.2.2.1) (by rw [hlen]; exact hl)
  rw [hargs] at hlv
  rw [lg_entry_eq]
  have hw := h p e s m (as.map (jrl E.2.1)).toArray below meth c s.heap [] _ ⟨B.exec, B.bytes, hml, B.returns, B.notSynchronized, hown, (name_of_methodNamed B.named B.method).1, hts, hK, hH.1⟩ hH va_S.rf ⟨hlv, fun k v hk => by
    rcases List.mem_append.mp (List.mem_of_getElem? hk) with h1 | h1
    · obtain ⟨w, hw, e⟩ := List.mem_map.mp h1
      cases e
      exact hc _ hw
    · have := (List.mem_replicate.mp h1).2
      cases this⟩
  rw [Nat.sub_self, Nat.sub_self] at hw
  exact hw
end
section
section JF
variable {E : JE} {n0 nE d : Nat} {y : JY} {K : Option Value → JS → Prop} {pc : Nat} {ls : List (Option Value)} {st : List Value} {g : JS}
theorem jv_iload_n {i : Fin 4} {x : Int32} (hd : decode y.2.1 pc = .ok (.iload_n i, 1)) (hk : ls[(i : Nat)]? = some (some (.int x)))
    (k : JV E n0 nE d y K (pc + 1) ls (.int x :: st) g) : JV E n0 nE d y K pc ls st g := by
  intro p e s m args below meth c H locs A X hH hS hl
  exact lv_iload_n X.1 X.2.1 hd rfl (hl.at hk) (k p e s m args below meth c H locs A X hH hS hl)
theorem jv_iload {i : Nat} {x : Int32} (hd : decode y.2.1 pc = .ok (.iload i, 2)) (hk : ls[i]? = some (some (.int x)))
    (k : JV E n0 nE d y K (pc + 2) ls (.int x :: st) g) : JV E n0 nE d y K pc ls st g := by
  intro p e s m args below meth c H locs A X hH hS hl
  exact lv_iload X.1 X.2.1 hd (hl.at hk) (k p e s m args below meth c H locs A X hH hS hl)
theorem jv_aload_n {i : Fin 4} {x : Nat} (hd : decode y.2.1 pc = .ok (.aload_n i, 1)) (hk : ls[(i : Nat)]? = some (some (.ref x)))
    (k : JV E n0 nE d y K (pc + 1) ls (.ref x :: st) g) : JV E n0 nE d y K pc ls st g := by
  intro p e s m args below meth c H locs A X hH hS hl
  exact lv_aload_n X.1 X.2.1 hd rfl (hl.at hk) (k p e s m args below meth c H locs A X hH hS hl)
theorem jv_aload {i : Nat} {x : Nat} (hd : decode y.2.1 pc = .ok (.aload i, 2)) (hk : ls[i]? = some (some (.ref x)))
    (k : JV E n0 nE d y K (pc + 2) ls (.ref x :: st) g) : JV E n0 nE d y K pc ls st g := by
  intro p e s m args below meth c H locs A X hH hS hl
  exact lv_aload X.1 X.2.1 hd (hl.at hk) (k p e s m args below meth c H locs A X hH hS hl)
theorem jv_istore_n {i : Fin 4} {x : Int32} {ls' : List (Option Value)} (hd : decode y.2.1 pc = .ok (.istore_n i, 1)) (hi : (i : Nat) < y.2.2.1) (hs : ls.set (i : Nat) (some (.int x)) = ls')
    (k : JV E n0 nE d y K (pc + 1) ls' st g) : JV E n0 nE d y K pc ls (.int x :: st) g := by
  intro p e s m args below meth c H locs A X hH hS hl
  exact lv_istore_n X.1 X.2.1 hd rfl hl.1 hi rfl (fun A' h' => k p e s m args below meth c H locs A' X hH hS (hl.set rfl hs h'))
theorem jv_istore {i : Nat} {x : Int32} {ls' : List (Option Value)} (hd : decode y.2.1 pc = .ok (.istore i, 2)) (hi : i < y.2.2.1) (hs : ls.set i (some (.int x)) = ls')
    (k : JV E n0 nE d y K (pc + 2) ls' st g) : JV E n0 nE d y K pc ls (.int x :: st) g := by
  intro p e s m args below meth c H locs A X hH hS hl
  exact lv_istore X.1 X.2.1 hd hl.1 hi rfl (fun A' h' => k p e s m args below meth c H locs A' X hH hS (hl.set rfl hs h'))
theorem jv_astore_n {i : Fin 4} {x : Nat} {ls' : List (Option Value)} (hd : decode y.2.1 pc = .ok (.astore_n i, 1)) (hi : (i : Nat) < y.2.2.1) (hs : ls.set (i : Nat) (some (.ref x)) = ls')
    (k : JV E n0 nE d y K (pc + 1) ls' st g) : JV E n0 nE d y K pc ls (.ref x :: st) g := by
  intro p e s m args below meth c H locs A X hH hS hl
  exact lv_astore_n X.1 X.2.1 hd rfl hl.1 hi rfl (fun A' h' => k p e s m args below meth c H locs A' X hH hS (hl.set rfl hs h'))
theorem jv_astore {i : Nat} {x : Nat} {ls' : List (Option Value)} (hd : decode y.2.1 pc = .ok (.astore i, 2)) (hi : i < y.2.2.1) (hs : ls.set i (some (.ref x)) = ls')
    (k : JV E n0 nE d y K (pc + 2) ls' st g) : JV E n0 nE d y K pc ls (.ref x :: st) g := by
  intro p e s m args below meth c H locs A X hH hS hl
  exact lv_astore X.1 X.2.1 hd hl.1 hi rfl (fun A' h' => k p e s m args below meth c H locs A' X hH hS (hl.set rfl hs h'))
theorem jv_iinc {i : Nat} {n : Int} {x v : Int32} {ls' : List (Option Value)} (hd : decode y.2.1 pc = .ok (.iinc i n, 3)) (hi : i < y.2.2.1) (hk : ls[i]? = some (some (.int x))) (hv : x + Int32.ofInt n = v) (hs : ls.set i (some (.int v)) = ls')
    (k : JV E n0 nE d y K (pc + 3) ls' st g) : JV E n0 nE d y K pc ls st g := by
  intro p e s m args below meth c H locs A X hH hS hl
  obtain ⟨q, hq⟩ := List.getElem?_of_mem (jll_mem.mpr ⟨i, .int x, hk, rfl⟩ : (0 + i, jrl E.2.1 (.int x)) ∈ jll E.2.1 0 ls)
  rw [Nat.zero_add] at hq
  exact lv_iinc X.1 X.2.1 hd hl.1 hq hv hi rfl (fun A' h' => k p e s m args below meth c H locs A' X hH hS (hl.set rfl hs h'))
theorem jv_iconst {n : Int} {v : Int32} (hd : decode y.2.1 pc = .ok (.iconst n, 1)) (hv : Int32.ofInt n = v)
    (k : JV E n0 nE d y K (pc + 1) ls (.int v :: st) g) : JV E n0 nE d y K pc ls st g := by
  intro p e s m args below meth c H locs A X hH hS hl
  exact lv_iconst X.1 X.2.1 hd hv (k p e s m args below meth c H locs A X hH hS hl)
theorem jv_bipush {n : Int} {v : Int32} (hd : decode y.2.1 pc = .ok (.bipush n, 2)) (hv : (Int8.ofInt n).toInt32 = v)
    (k : JV E n0 nE d y K (pc + 2) ls (.int v :: st) g) : JV E n0 nE d y K pc ls st g := by
  intro p e s m args below meth c H locs A X hH hS hl
  exact lv_bipush X.1 X.2.1 hd hv (k p e s m args below meth c H locs A X hH hS hl)
theorem jv_sipush {n : Int} {v : Int32} (hd : decode y.2.1 pc = .ok (.sipush n, 3)) (hv : (Int16.ofInt n).toInt32 = v)
    (k : JV E n0 nE d y K (pc + 3) ls (.int v :: st) g) : JV E n0 nE d y K pc ls st g := by
  intro p e s m args below meth c H locs A X hH hS hl
  exact lv_sipush X.1 X.2.1 hd hv (k p e s m args below meth c H locs A X hH hS hl)
theorem jv_iadd {x z : Int32} (hd : decode y.2.1 pc = .ok (.iadd, 1))
    (k : JV E n0 nE d y K (pc + 1) ls (.int (x + z) :: st) g) : JV E n0 nE d y K pc ls (.int z :: .int x :: st) g := by
  intro p e s m args below meth c H locs A X hH hS hl
  exact lv_iadd X.1 X.2.1 hd (k p e s m args below meth c H locs A X hH hS hl)
theorem jv_isub {x z : Int32} (hd : decode y.2.1 pc = .ok (.isub, 1))
    (k : JV E n0 nE d y K (pc + 1) ls (.int (x - z) :: st) g) : JV E n0 nE d y K pc ls (.int z :: .int x :: st) g := by
  intro p e s m args below meth c H locs A X hH hS hl
  exact lv_isub X.1 X.2.1 hd (k p e s m args below meth c H locs A X hH hS hl)
theorem jv_imul {x z : Int32} (hd : decode y.2.1 pc = .ok (.imul, 1))
    (k : JV E n0 nE d y K (pc + 1) ls (.int (x * z) :: st) g) : JV E n0 nE d y K pc ls (.int z :: .int x :: st) g := by
  intro p e s m args below meth c H locs A X hH hS hl
  exact lv_imul X.1 X.2.1 hd (k p e s m args below meth c H locs A X hH hS hl)
theorem jv_iand {x z : Int32} (hd : decode y.2.1 pc = .ok (.iand, 1))
    (k : JV E n0 nE d y K (pc + 1) ls (.int (x &&& z) :: st) g) : JV E n0 nE d y K pc ls (.int z :: .int x :: st) g := by
  intro p e s m args below meth c H locs A X hH hS hl
  exact lv_iand X.1 X.2.1 hd (k p e s m args below meth c H locs A X hH hS hl)
theorem jv_ior {x z : Int32} (hd : decode y.2.1 pc = .ok (.ior, 1))
    (k : JV E n0 nE d y K (pc + 1) ls (.int (x ||| z) :: st) g) : JV E n0 nE d y K pc ls (.int z :: .int x :: st) g := by
  intro p e s m args below meth c H locs A X hH hS hl
  exact lv_ior X.1 X.2.1 hd (k p e s m args below meth c H locs A X hH hS hl)
theorem jv_ishl {x z : Int32} (hd : decode y.2.1 pc = .ok (.ishl, 1))
    (k : JV E n0 nE d y K (pc + 1) ls (.int (x <<< (z &&& 31)) :: st) g) : JV E n0 nE d y K pc ls (.int z :: .int x :: st) g := by
  intro p e s m args below meth c H locs A X hH hS hl
  exact lv_ishl X.1 X.2.1 hd (k p e s m args below meth c H locs A X hH hS hl)
theorem jv_ishr {x z : Int32} (hd : decode y.2.1 pc = .ok (.ishr, 1))
    (k : JV E n0 nE d y K (pc + 1) ls (.int (x >>> (z &&& 31)) :: st) g) : JV E n0 nE d y K pc ls (.int z :: .int x :: st) g := by
  intro p e s m args below meth c H locs A X hH hS hl
  exact lv_ishr X.1 X.2.1 hd (k p e s m args below meth c H locs A X hH hS hl)
theorem jv_iushr {x z : Int32} (hd : decode y.2.1 pc = .ok (.iushr, 1))
    (k : JV E n0 nE d y K (pc + 1) ls (.int (x.toUInt32 >>> (z.toUInt32 &&& Int32.toUInt32 31)).toInt32 :: st) g) : JV E n0 nE d y K pc ls (.int z :: .int x :: st) g := by
  intro p e s m args below meth c H locs A X hH hS hl
  exact lv_iushr X.1 X.2.1 hd rfl (k p e s m args below meth c H locs A X hH hS hl)
theorem jv_idiv {x z : Int32} (hd : decode y.2.1 pc = .ok (.idiv, 1)) (hz : ¬ z = 0)
    (k : JV E n0 nE d y K (pc + 1) ls (.int (x / z) :: st) g) : JV E n0 nE d y K pc ls (.int z :: .int x :: st) g := by
  intro p e s m args below meth c H locs A X hH hS hl
  exact lv_idiv X.1 X.2.1 hd hz (k p e s m args below meth c H locs A X hH hS hl)
theorem jv_irem {x z : Int32} (hd : decode y.2.1 pc = .ok (.irem, 1)) (hz : ¬ z = 0)
    (k : JV E n0 nE d y K (pc + 1) ls (.int (x - x / z * z) :: st) g) : JV E n0 nE d y K pc ls (.int z :: .int x :: st) g := by
  intro p e s m args below meth c H locs A X hH hS hl
  exact lv_irem X.1 X.2.1 hd hz (k p e s m args below meth c H locs A X hH hS hl)
theorem jv_i2s {x : Int32} (hd : decode y.2.1 pc = .ok (.i2s, 1))
    (k : JV E n0 nE d y K (pc + 1) ls (.int x.toInt16.toInt32 :: st) g) : JV E n0 nE d y K pc ls (.int x :: st) g := by
  intro p e s m args below meth c H locs A X hH hS hl
  exact lv_i2s X.1 X.2.1 hd rfl (k p e s m args below meth c H locs A X hH hS hl)
theorem jv_dup {v : Value} (hd : decode y.2.1 pc = .ok (.dup, 1)) (hv : v.category = 1)
    (k : JV E n0 nE d y K (pc + 1) ls (v :: v :: st) g) : JV E n0 nE d y K pc ls (v :: st) g := by
  intro p e s m args below meth c H locs A X hH hS hl
  exact lv_dup X.1 X.2.1 hd ((jrl_cat _ _).trans hv) (k p e s m args below meth c H locs A X hH hS hl)
theorem jv_dup2 {v w : Value} (hd : decode y.2.1 pc = .ok (.dup2, 1)) (hv : v.category = 1) (hw : w.category = 1)
    (k : JV E n0 nE d y K (pc + 1) ls (v :: w :: v :: w :: st) g) : JV E n0 nE d y K pc ls (v :: w :: st) g := by
  intro p e s m args below meth c H locs A X hH hS hl
  exact lv_dup2_11 X.1 X.2.1 hd ((jrl_cat _ _).trans hv) ((jrl_cat _ _).trans hw) (k p e s m args below meth c H locs A X hH hS hl)
theorem jv_pop {v : Value} (hd : decode y.2.1 pc = .ok (.pop, 1)) (hv : v.category = 1)
    (k : JV E n0 nE d y K (pc + 1) ls st g) : JV E n0 nE d y K pc ls (v :: st) g := by
  intro p e s m args below meth c H locs A X hH hS hl
  exact lv_pop X.1 X.2.1 hd ((jrl_cat _ _).trans hv) (k p e s m args below meth c H locs A X hH hS hl)
theorem jv_goto {off : Int} {t : Nat} (hd : decode y.2.1 pc = .ok (.goto off, 3)) (ht : (pc : Int) + off = (t : Int))
    (k : JV E n0 nE d y K (t) ls st g) : JV E n0 nE d y K pc ls st g := by
  intro p e s m args below meth c H locs A X hH hS hl
  exact lv_goto X.1 X.2.1 hd ht (k p e s m args below meth c H locs A X hH hS hl)
theorem jv_if_eq {x : Int32} {off : Int} {t : Nat} (hd : decode y.2.1 pc = .ok (.ifCond .eq off, 3)) (ht : (pc : Int) + off = (t : Int))
    (kt : x = 0 → JV E n0 nE d y K t ls st g) (kf : ¬ x = 0 → JV E n0 nE d y K (pc + 3) ls st g) : JV E n0 nE d y K pc ls (.int x :: st) g := by
  intro p e s m args below meth c H locs A X hH hS hl
  exact lv_if_eq X.1 X.2.1 hd ht (fun q => kt q p e s m args below meth c H locs A X hH hS hl) (fun q => kf q p e s m args below meth c H locs A X hH hS hl)
theorem jv_if_ne {x : Int32} {off : Int} {t : Nat} (hd : decode y.2.1 pc = .ok (.ifCond .ne off, 3)) (ht : (pc : Int) + off = (t : Int))
    (kt : ¬ x = 0 → JV E n0 nE d y K t ls st g) (kf : x = 0 → JV E n0 nE d y K (pc + 3) ls st g) : JV E n0 nE d y K pc ls (.int x :: st) g := by
  intro p e s m args below meth c H locs A X hH hS hl
  exact lv_if_ne X.1 X.2.1 hd ht (fun q => kt q p e s m args below meth c H locs A X hH hS hl) (fun q => kf q p e s m args below meth c H locs A X hH hS hl)
theorem jv_if_lt {x : Int32} {off : Int} {t : Nat} (hd : decode y.2.1 pc = .ok (.ifCond .lt off, 3)) (ht : (pc : Int) + off = (t : Int))
    (kt : x < 0 → JV E n0 nE d y K t ls st g) (kf : ¬ x < 0 → JV E n0 nE d y K (pc + 3) ls st g) : JV E n0 nE d y K pc ls (.int x :: st) g := by
  intro p e s m args below meth c H locs A X hH hS hl
  exact lv_if_lt X.1 X.2.1 hd ht (fun q => kt q p e s m args below meth c H locs A X hH hS hl) (fun q => kf q p e s m args below meth c H locs A X hH hS hl)
theorem jv_if_ge {x : Int32} {off : Int} {t : Nat} (hd : decode y.2.1 pc = .ok (.ifCond .ge off, 3)) (ht : (pc : Int) + off = (t : Int))
    (kt : 0 ≤ x → JV E n0 nE d y K t ls st g) (kf : ¬ 0 ≤ x → JV E n0 nE d y K (pc + 3) ls st g) : JV E n0 nE d y K pc ls (.int x :: st) g := by
  intro p e s m args below meth c H locs A X hH hS hl
  exact lv_if_ge X.1 X.2.1 hd ht (fun q => kt q p e s m args below meth c H locs A X hH hS hl) (fun q => kf q p e s m args below meth c H locs A X hH hS hl)
theorem jv_if_gt {x : Int32} {off : Int} {t : Nat} (hd : decode y.2.1 pc = .ok (.ifCond .gt off, 3)) (ht : (pc : Int) + off = (t : Int))
    (kt : 0 < x → JV E n0 nE d y K t ls st g) (kf : ¬ 0 < x → JV E n0 nE d y K (pc + 3) ls st g) : JV E n0 nE d y K pc ls (.int x :: st) g := by
  intro p e s m args below meth c H locs A X hH hS hl
  exact lv_if_gt X.1 X.2.1 hd ht (fun q => kt q p e s m args below meth c H locs A X hH hS hl) (fun q => kf q p e s m args below meth c H locs A X hH hS hl)
theorem jv_if_le {x : Int32} {off : Int} {t : Nat} (hd : decode y.2.1 pc = .ok (.ifCond .le off, 3)) (ht : (pc : Int) + off = (t : Int))
    (kt : x ≤ 0 → JV E n0 nE d y K t ls st g) (kf : ¬ x ≤ 0 → JV E n0 nE d y K (pc + 3) ls st g) : JV E n0 nE d y K pc ls (.int x :: st) g := by
  intro p e s m args below meth c H locs A X hH hS hl
  exact lv_if_le X.1 X.2.1 hd ht (fun q => kt q p e s m args below meth c H locs A X hH hS hl) (fun q => kf q p e s m args below meth c H locs A X hH hS hl)
theorem jv_icmp_eq {x z : Int32} {off : Int} {t : Nat} (hd : decode y.2.1 pc = .ok (.if_icmp .eq off, 3)) (ht : (pc : Int) + off = (t : Int))
    (kt : x = z → JV E n0 nE d y K t ls st g) (kf : ¬ x = z → JV E n0 nE d y K (pc + 3) ls st g) : JV E n0 nE d y K pc ls (.int z :: .int x :: st) g := by
  intro p e s m args below meth c H locs A X hH hS hl
  exact lv_icmp_eq X.1 X.2.1 hd ht (fun q => kt q p e s m args below meth c H locs A X hH hS hl) (fun q => kf q p e s m args below meth c H locs A X hH hS hl)
theorem jv_icmp_ne {x z : Int32} {off : Int} {t : Nat} (hd : decode y.2.1 pc = .ok (.if_icmp .ne off, 3)) (ht : (pc : Int) + off = (t : Int))
    (kt : ¬ x = z → JV E n0 nE d y K t ls st g) (kf : x = z → JV E n0 nE d y K (pc + 3) ls st g) : JV E n0 nE d y K pc ls (.int z :: .int x :: st) g := by
  intro p e s m args below meth c H locs A X hH hS hl
  exact lv_icmp_ne X.1 X.2.1 hd ht (fun q => kt q p e s m args below meth c H locs A X hH hS hl) (fun q => kf q p e s m args below meth c H locs A X hH hS hl)
theorem jv_icmp_lt {x z : Int32} {off : Int} {t : Nat} (hd : decode y.2.1 pc = .ok (.if_icmp .lt off, 3)) (ht : (pc : Int) + off = (t : Int))
    (kt : x < z → JV E n0 nE d y K t ls st g) (kf : ¬ x < z → JV E n0 nE d y K (pc + 3) ls st g) : JV E n0 nE d y K pc ls (.int z :: .int x :: st) g := by
  intro p e s m args below meth c H locs A X hH hS hl
  exact lv_icmp_lt X.1 X.2.1 hd ht (fun q => kt q p e s m args below meth c H locs A X hH hS hl) (fun q => kf q p e s m args below meth c H locs A X hH hS hl)
theorem jv_icmp_ge {x z : Int32} {off : Int} {t : Nat} (hd : decode y.2.1 pc = .ok (.if_icmp .ge off, 3)) (ht : (pc : Int) + off = (t : Int))
    (kt : z ≤ x → JV E n0 nE d y K t ls st g) (kf : ¬ z ≤ x → JV E n0 nE d y K (pc + 3) ls st g) : JV E n0 nE d y K pc ls (.int z :: .int x :: st) g := by
  intro p e s m args below meth c H locs A X hH hS hl
  exact lv_icmp_ge X.1 X.2.1 hd ht (fun q => kt q p e s m args below meth c H locs A X hH hS hl) (fun q => kf q p e s m args below meth c H locs A X hH hS hl)
theorem jv_icmp_gt {x z : Int32} {off : Int} {t : Nat} (hd : decode y.2.1 pc = .ok (.if_icmp .gt off, 3)) (ht : (pc : Int) + off = (t : Int))
    (kt : z < x → JV E n0 nE d y K t ls st g) (kf : ¬ z < x → JV E n0 nE d y K (pc + 3) ls st g) : JV E n0 nE d y K pc ls (.int z :: .int x :: st) g := by
  intro p e s m args below meth c H locs A X hH hS hl
  exact lv_icmp_gt X.1 X.2.1 hd ht (fun q => kt q p e s m args below meth c H locs A X hH hS hl) (fun q => kf q p e s m args below meth c H locs A X hH hS hl)
theorem jv_icmp_le {x z : Int32} {off : Int} {t : Nat} (hd : decode y.2.1 pc = .ok (.if_icmp .le off, 3)) (ht : (pc : Int) + off = (t : Int))
    (kt : x ≤ z → JV E n0 nE d y K t ls st g) (kf : ¬ x ≤ z → JV E n0 nE d y K (pc + 3) ls st g) : JV E n0 nE d y K pc ls (.int z :: .int x :: st) g := by
  intro p e s m args below meth c H locs A X hH hS hl
  exact lv_icmp_le X.1 X.2.1 hd ht (fun q => kt q p e s m args below meth c H locs A X hH hS hl) (fun q => kf q p e s m args below meth c H locs A X hH hS hl)
theorem jv_tableOut {dflt lo hi : Int} {offs : Array Int} {len t : Nat} {x : Int32} (hd : decode y.2.1 pc = .ok (.tableswitch dflt lo hi offs, len)) (h : x.toInt < lo ∨ hi < x.toInt) (ht : (pc : Int) + dflt = (t : Int))
    (k : JV E n0 nE d y K (t) ls st g) : JV E n0 nE d y K pc ls (.int x :: st) g := by
  intro p e s m args below meth c H locs A X hH hS hl
  exact lv_tableOut X.1 X.2.1 hd h ht (k p e s m args below meth c H locs A X hH hS hl)
theorem jv_tableIn {dflt lo hi off : Int} {offs : Array Int} {len t : Nat} {x : Int32} (hd : decode y.2.1 pc = .ok (.tableswitch dflt lo hi offs, len)) (h1 : ¬ x.toInt < lo) (h2 : ¬ hi < x.toInt) (ho : offs[(x.toInt - lo).toNat]? = some off) (ht : (pc : Int) + off = (t : Int))
    (k : JV E n0 nE d y K (t) ls st g) : JV E n0 nE d y K pc ls (.int x :: st) g := by
  intro p e s m args below meth c H locs A X hH hS hl
  exact lv_tableIn X.1 X.2.1 hd h1 h2 ho ht (k p e s m args below meth c H locs A X hH hS hl)
theorem jv_lookup {dflt off : Int} {ps : Array (Int × Int)} {len t : Nat} {x : Int32} (hd : decode y.2.1 pc = .ok (.lookupswitch dflt ps, len)) (hp : (ps.toList.zip (ps.toList.drop 1)).all (fun (a, next) => a.1 < next.1) = true) (ho : Op.lookupswitch.offset ps.toList dflt x.toInt = off) (ht : (pc : Int) + off = (t : Int))
    (k : JV E n0 nE d y K (t) ls st g) : JV E n0 nE d y K pc ls (.int x :: st) g := by
  intro p e s m args below meth c H locs A X hH hS hl
  exact lv_lookup X.1 X.2.1 hd hp ho ht (k p e s m args below meth c H locs A X hH hS hl)
theorem jv_ldcw {index : Nat} {v : Int32} (hc : Cond.constant y.1.cls index v ∈ lw_gd) (hd : decode y.2.1 pc = .ok (.ldc_w index, 3))
    (k : JV E n0 nE d y K (pc + 3) ls (.int v :: st) g) : JV E n0 nE d y K pc ls st g := by
  intro p e s m args below meth c H locs A X hH hS hl
  exact lv_ldcw X.1 X.2.1 X.2.2.2.2.2.1 (X.2.2.2.2.2.2.2.1 _ (List.mem_cons_of_mem _ hc)) hd (k p e s m args below meth c H locs A X hH hS hl)
theorem jv_ldc {index : Nat} {v : Int32} (hc : Cond.constant y.1.cls index v ∈ lw_gd) (hd : decode y.2.1 pc = .ok (.ldc index, 2))
    (k : JV E n0 nE d y K (pc + 2) ls (.int v :: st) g) : JV E n0 nE d y K pc ls st g := by
  intro p e s m args below meth c H locs A X hH hS hl
  exact lv_ldc X.1 X.2.1 X.2.2.2.2.2.1 (X.2.2.2.2.2.2.2.1 _ (List.mem_cons_of_mem _ hc)) hd (k p e s m args below meth c H locs A X hH hS hl)
theorem jQ.of {H : Heap} {s t : State} {args : Array Value} {locs : List Loc} {v : Option Value} (hk : K v g) (hn : g.1 = nE) (hc : ∀ w, v = some w → w.category = 1) (hH : JH E g H) (hS : va_S (jFr E) s.heap H locs) (ht : t.heap = H) : jQ E nE K args s (.returned (v.map (jrl E.2.1))) t :=
  ⟨⟨v, g, rfl, hk, hn, hc, by rw [ht]; exact hH⟩, hS.F ht⟩
theorem jv_ireturn {x : Int32} (hd : decode y.2.1 pc = .ok (.ireturn, 1)) (hr : y.2.2.2 = some .int) (hn : g.1 = nE) (hk : K (some (.int x)) g) : JV E n0 nE d y K pc ls [.int x] g := by
  intro p e s m args below meth c H locs A X hH hS hl
  rw [hn]
  exact W.iret X.1 X.2.1 (X.2.2.2.1.trans hr) (fun t ht hW => jQ.of (v := some (.int x)) hk hn (fun w h => by cases h; rfl) hH hS ht) hS.2.2 hd X.2.2.2.2.1
theorem jv_zreturn {x : Int32} (hd : decode y.2.1 pc = .ok (.ireturn, 1)) (hr : y.2.2.2 = some .boolean) (hx : x = 0 ∨ x = 1) (hn : g.1 = nE) (hk : K (some (.int x)) g) : JV E n0 nE d y K pc ls [.int x] g := by
  intro p e s m args below meth c H locs A X hH hS hl
  rw [hn]
  exact W.zret X.1 X.2.1 (X.2.2.2.1.trans hr) (by rcases hx with rfl | rfl <;> rfl) (fun t ht hW => jQ.of (v := some (.int x)) hk hn (fun w h => by cases h; rfl) hH hS ht) hS.2.2 hd X.2.2.2.2.1
theorem jv_areturn {a : Nat} {ty : FieldType} (hd : decode y.2.1 pc = .ok (.areturn, 1)) (hr : y.2.2.2 = some (.array ty)) (hn : g.1 = nE) (hk : K (some (.ref a)) g) : JV E n0 nE d y K pc ls [.ref a] g := by
  intro p e s m args below meth c H locs A X hH hS hl
  rw [hn]
  exact W.aret X.1 X.2.1 (X.2.2.2.1.trans hr) (Or.inr ⟨_, rfl⟩) (Or.inr ⟨_, rfl⟩) (fun t ht hW => jQ.of (v := some (.ref a)) hk hn (fun w h => by cases h; rfl) hH hS ht) hS.2.2 hd X.2.2.2.2.1
theorem jv_return (hd : decode y.2.1 pc = .ok (.return_, 1)) (hr : y.2.2.2 = none) (hn : g.1 = nE) (hk : K none g) : JV E n0 nE d y K pc ls [] g := by
  intro p e s m args below meth c H locs A X hH hS hl
  rw [hn]
  exact W.vret X.1 X.2.1 (X.2.2.2.1.trans hr) (fun t ht hW => jQ.of (v := none) hk hn (fun w h => by cases h) hH hS ht) hS.2.2 hd X.2.2.2.2.1
end JF
end
section
/-! fields, arrays, calls -/
theorem jnf_ok : ∀ ci, ci < 9 → ∃ C T, vwCl[ci]? = some (C, T, jnf ci) := by
  intro ci h
  rcases (show ci = 0 ∨ ci = 1 ∨ ci = 2 ∨ ci = 3 ∨ ci = 4 ∨ ci = 5 ∨ ci = 6 ∨ ci = 7 ∨ ci = 8 by omega) with rfl | rfl | rfl | rfl | rfl | rfl | rfl | rfl | rfl <;> exact ⟨_, _, rfl⟩
def jw (u : JM) (a k : Nat) (v : Int32) : JM := fun a' => if a' = a then upd (u a) k v else u a'
def jwr (r : JR) (a k : Nat) (t : Nat) : JR := fun a' => if a' = a then va_up (r a) k (some t) else r a'
theorem jw_ne {u : JM} {a a' k : Nat} {v : Int32} (h : a' ≠ a) : jw u a k v a' = u a' := if_neg h
theorem jw_eq {u : JM} {a k : Nat} {v : Int32} : jw u a k v a = upd (u a) k v := if_pos rfl
theorem jwr_ne {u : JR} {a a' k : Nat} {v : Nat} (h : a' ≠ a) : jwr u a k v a' = u a' := if_neg h
theorem jwr_eq {u : JR} {a k : Nat} {v : Nat} : jwr u a k v a = va_up (u a) k (some v) := if_pos rfl
theorem jen_congr {E : JE} {r r' : JR} {u u' : JM} {a : Nat} (hr : r a = r' a) (hu : u a = u' a) : jen E r u a = jen E r' u' a := by
  unfold jen jfv
  rw [hr, hu]
theorem jen_obj {E : JE} {r : JR} {u : JM} {a ci : Nat} (h : jkd a = .inl ci) : jen E r u a = .inr (ci, (List.range (jnf ci)).map (jfv E.2.1 r u a ci)) := by
  unfold jen
  rw [h]
theorem jen_arr {E : JE} {r : JR} {u : JM} {a n : Nat} {ty : FieldType} (h : jkd a = .inr (ty, n)) (hr : jisR ty = false) : jen E r u a = .inl (E.2.2.2 ty, n, .inl (u a)) := by
  unfold jen
  rw [h]
  simp [hr]
theorem jen_arq {E : JE} {r : JR} {u : JM} {a n : Nat} {ty : FieldType} (h : jkd a = .inr (ty, n)) (hr : jisR ty = true) : jen E r u a = .inl (E.2.2.2 ty, n, .inr (.inr (.inr (.inr fun i => (r a i).map (E.2.1 + ·))))) := by
  unfold jen
  rw [h]
  simp [hr]
theorem jfs_V {b : Nat} {r : JR} {u : JM} {a ci k : Nat} (hk : k < jnf ci) : vp_V ((List.range (jnf ci)).map (jfv b r u a ci)) k = jfv b r u a ci k := by
  simp [vp_V, hk]
theorem JH.put {E : JE} {g g' : JS} {H H1 : Heap} {a : Nat} (h : JH E g H) (hn : g'.1 = g.1) (hz : H1.size = H.size) (ho : ∀ q : Nat, q ≠ E.2.1 + a → H1[q]? = H[q]?) (hat : va_at E.2.2.1 vwCl (E.2.1 + a, jen E g'.2.1 g'.2.2 a) H1)
    (hr : ∀ a', a' ≠ a → g'.2.1 a' = g.2.1 a') (hu : ∀ a', a' ≠ a → g'.2.2 a' = g.2.2 a') : JH E g' H1 := by
  refine ⟨by rw [hz, hn]; exact h.1, fun a' ha' => ?_⟩
  by_cases e : a' = a
  · subst e; exact hat
  · rw [jen_congr (hr a' e) (hu a' e)]
    refine (h.2 a' (by rw [← hn]; exact ha')).kept (ho _ ?_)
    show E.2.1 + a' ≠ E.2.1 + a
    omega
theorem jS_put {E : JE} {H0 H H1 : Heap} {locs : List Loc} {a k : Nat} (h : va_S (jFr E) H0 H locs) (z : H1.size = H.size) (oq : ∀ q : Nat, q ≠ E.2.1 + a → H1[q]? = H[q]?) : va_S (jFr E) H0 H1 (locs ++ [⟨E.2.1 + a, k⟩]) :=
  h.put z oq (Nat.le_add_right _ _)
section JHp
variable {E : JE} {n0 nE d : Nat} {y : JY} {K : Option Value → JS → Prop} {pc : Nat} {ls : List (Option Value)} {st : List Value} {g : JS}
theorem jv_geti {ci k idx a : Nat} {C : String} {T : u_T} (hc : vwCl[ci]? = some (C, T, jnf ci)) (hin : ∀ w ∈ u_ws C T (jnf ci), w ∈ lw_gd) (hk : k < jnf ci) (hf : jfr ci k = false) (hlk : Cond.fieldLink y.1.cls idx (T k).1 (T k).2.1 (T k).2.2.1 ∈ lw_gd)
    (hd : decode y.2.1 pc = .ok (.getfield idx, 3)) (hkd : jkd a = .inl ci) (ha : a < g.1) (kk : JV E n0 nE d y K (pc + 3) ls (.int (g.2.2 a k) :: st) g) : JV E n0 nE d y K pc ls (.ref a :: st) g := by
  intro p e s m args below meth c H locs A X hH hS hl
  have hat := hH.2 a ha
  rw [jen_obj hkd] at hat
  obtain ⟨r, h1, cell, q1, q2, q3, q4⟩ := hat
  cases h1.symm.trans hc
  have hts := X.2.2.2.2.2.2.2.1
  have hin' : ∀ w ∈ u_ws C T (jnf ci), w ∈ jwd y := fun w hw => List.mem_cons_of_mem _ (hin w hw)
  obtain ⟨hS0, hfc, kC, hkC, hkind⟩ := X.2.2.2.2.2.2.2.2.1.1.1 ci _ hc
  obtain ⟨cf, kf, fi, f, hi, hsl⟩ := hS0 k hk
  refine W.getf X.1 X.2.1 X.2.2.2.2.2.1 (hts _ (List.mem_cons_of_mem _ hlk)) hi (u_facts hfc hkC (u_lays hts hin' hk) hi).1 q1 (by rw [q3]; exact fun h => by cases h) (v := .int (g.2.2 a k)) ?_ rfl rfl hd (kk p e s m args below meth c H locs A X hH hS hl)
  rw [hsl, q4 k hk]
  show some (vp_V _ k) = _
  rw [jfs_V hk]
  simp [jfv, hf]
theorem jv_getr {ci k idx a t : Nat} {C : String} {T : u_T} (hc : vwCl[ci]? = some (C, T, jnf ci)) (hin : ∀ w ∈ u_ws C T (jnf ci), w ∈ lw_gd) (hk : k < jnf ci) (hf : jfr ci k = true) (hlk : Cond.fieldLink y.1.cls idx (T k).1 (T k).2.1 (T k).2.2.1 ∈ lw_gd)
    (hd : decode y.2.1 pc = .ok (.getfield idx, 3)) (hkd : jkd a = .inl ci) (ha : a < g.1) (ht : g.2.1 a k = some t) (kk : JV E n0 nE d y K (pc + 3) ls (.ref t :: st) g) : JV E n0 nE d y K pc ls (.ref a :: st) g := by
  intro p e s m args below meth c H locs A X hH hS hl
  have hat := hH.2 a ha
  rw [jen_obj hkd] at hat
  obtain ⟨r, h1, cell, q1, q2, q3, q4⟩ := hat
  cases h1.symm.trans hc
  have hts := X.2.2.2.2.2.2.2.1
  have hin' : ∀ w ∈ u_ws C T (jnf ci), w ∈ jwd y := fun w hw => List.mem_cons_of_mem _ (hin w hw)
  obtain ⟨hS0, hfc, kC, hkC, hkind⟩ := X.2.2.2.2.2.2.2.2.1.1.1 ci _ hc
  obtain ⟨cf, kf, fi, f, hi, hsl⟩ := hS0 k hk
  refine W.getf X.1 X.2.1 X.2.2.2.2.2.1 (hts _ (List.mem_cons_of_mem _ hlk)) hi (u_facts hfc hkC (u_lays hts hin' hk) hi).1 q1 (by rw [q3]; exact fun h => by cases h) (v := .ref (E.2.1 + t)) ?_ rfl rfl hd (kk p e s m args below meth c H locs A X hH hS hl)
  rw [hsl, q4 k hk]
  show some (vp_V _ k) = _
  rw [jfs_V hk]
  simp [jfv, hf, ht, va_rf]
theorem jv_puti {ci k idx a : Nat} {C : String} {T : u_T} {ty : Nat → FieldType} {x : Int32} {ty0 : FieldType} (hc : vwCl[ci]? = some (C, T, jnf ci)) (hin : ∀ w ∈ u_ws C T (jnf ci), w ∈ lw_gd) (hty : ∀ k, k < jnf ci → parseFieldDescriptor (T k).2.2.1 = some (ty k)) (hnm : ∀ a, a < jnf ci → ∀ b, b < jnf ci → a ≠ b → (T a).2.1 ≠ (T b).2.1)
    (hk : k < jnf ci) (hf : jfr ci k = false) (hfin : (T k).2.2.2 = false) (h0 : ty k = ty0) (hx : (ty0 = .int) ∨ (ty0 = .boolean ∧ (x = 0 ∨ x = 1))) (hlk : Cond.fieldLink y.1.cls idx (T k).1 (T k).2.1 (T k).2.2.1 ∈ lw_gd)
    (hd : decode y.2.1 pc = .ok (.putfield idx, 3)) (hkd : jkd a = .inl ci) (ha : a < g.1) (kk : JV E n0 nE d y K (pc + 3) ls st (g.1, g.2.1, jw g.2.2 a k x)) : JV E n0 nE d y K pc ls (.int x :: .ref a :: st) g := by
  intro p e s m args below meth c H locs A X hH hS hl
  have hat := hH.2 a ha
  rw [jen_obj hkd] at hat
  obtain ⟨r, h1, cell, q1, q2, q3, q4⟩ := hat
  cases h1.symm.trans hc
  have hts := X.2.2.2.2.2.2.2.1
  have hin' : ∀ w ∈ u_ws C T (jnf ci), w ∈ jwd y := fun w hw => List.mem_cons_of_mem _ (hin w hw)
  have hKn := X.2.2.2.2.2.2.2.2.1.1
  have hap := va_apart (own := y.1.cls) hts hin' ty hty hnm hKn hc
  obtain ⟨hS0, hfc, kC, hkC, hkind⟩ := hKn.1 ci _ hc
  obtain ⟨cf, kf, fi, f, hi, hsl⟩ := hS0 k hk
  have hlay := hts _ (hin' _ (u_in_lay hk))
  unfold u_lay at hlay
  rw [if_neg (by rw [hfin]; decide)] at hlay
  have hst := (u_facts hfc hkC (u_lays hts hin' hk) hi).1
  have hpd := hty k hk
  rw [h0] at hpd
  have h6 : k2_Sd s f (E.2.2.1.1 ci) (.int x) := by
    rcases hx with rfl | ⟨rfl, hx⟩
    · exact u_store hfc hkC hkind hlay hi hpd rfl rfl
    · rcases hx with rfl | rfl
      · exact u_store hfc hkC hkind hlay hi hpd rfl rfl
      · exact u_store hfc hkC hkind hlay hi hpd rfl rfl
  refine W.putK X.1 X.2.1 (f := f) ⟨X.2.2.2.2.2.1, hts _ (List.mem_cons_of_mem _ hlk), ⟨_, _, _, hi⟩, hst⟩ (by rw [q2]; exact h6) q1 q3 (by rw [hsl]; exact k2_hasslot (q4 k hk)) rfl rfl hd fun H' e1 e2 e3 => ?_
  rw [hsl] at e1 ⊢
  refine kk p e s m args below meth c H' _ A X (hH.put rfl e2 e3 ?_ (fun _ _ => rfl) (fun a' h => jw_ne h)) (jS_put hS e2 e3) hl
  rw [jen_obj hkd]
  refine ⟨_, hc, t_OB.to (V := updV (vp_V ((List.range (jnf ci)).map (jfv E.2.1 g.2.1 g.2.2 a ci))) k (.int x)) ⟨_, e1, q2, q3, t_set q4 hap hk _⟩ (fun j hj => ?_)⟩
  show updV _ k (.int x) j = vp_V _ j
  rw [jfs_V hj]
  by_cases e : j = k
  · subst e
    simp [updV, jfv, hf, jw_eq, upd]
  · simp only [updV, if_neg e]
    rw [jfs_V hj]
    simp [jfv, jw_eq, upd, e]
theorem jArr {E : JE} {s : State} {ty : FieldType} (h : JKn E s) (i : Nat) (hi : (jtys E)[i]? = some (E.2.2.2 ty, ty)) : ArrOfT s (E.2.2.2 ty) ty := (h.1.2 i _ hi).1
theorem jv_iaload {a n : Nat} {i : Int32} (hd : decode y.2.1 pc = .ok (.iaload, 1)) (hkd : jkd a = .inr (.int, n)) (ha : a < g.1) (hin : vp_in i n) (kk : JV E n0 nE d y K (pc + 1) ls (.int (g.2.2 a i.toNatClampNeg) :: st) g) : JV E n0 nE d y K pc ls (.int i :: .ref a :: st) g := by
  intro p e s m args below meth c H locs A X hH hS hl
  have hat := hH.2 a ha
  rw [jen_arr hkd rfl] at hat
  have hlt : i.toNatClampNeg < n := Nat.not_le.mp fun q => hin (Or.inr q)
  exact W.iald (v := .int (g.2.2 a i.toNatClampNeg)) X.1 X.2.1 hat (jArr X.2.2.2.2.2.2.2.2.1 0 rfl n (fun j => .int (g.2.2 a j))) (fun q => by cases q) (by show ¬ (i < 0 ∨ (arrV _ _ _).slots.size ≤ _); rw [arrV_size]; exact hin) (by show (arrV _ _ _).slots[_]? = _; rw [arrV_read _ _ hlt]) rfl rfl hd (kk p e s m args below meth c H locs A X hH hS hl)
theorem jv_baload {a n : Nat} {i : Int32} (hd : decode y.2.1 pc = .ok (.baload, 1)) (hkd : jkd a = .inr (.boolean, n)) (ha : a < g.1) (hin : vp_in i n) (kk : JV E n0 nE d y K (pc + 1) ls (.int (g.2.2 a i.toNatClampNeg) :: st) g) : JV E n0 nE d y K pc ls (.int i :: .ref a :: st) g := by
  intro p e s m args below meth c H locs A X hH hS hl
  have hat := hH.2 a ha
  rw [jen_arr hkd rfl] at hat
  have hlt : i.toNatClampNeg < n := Nat.not_le.mp fun q => hin (Or.inr q)
  exact W.zald (v := .int (g.2.2 a i.toNatClampNeg)) X.1 X.2.1 hat (jArr X.2.2.2.2.2.2.2.2.1 1 rfl n (fun j => .int (g.2.2 a j))) (fun q => by cases q) (by show ¬ (i < 0 ∨ (arrV _ _ _).slots.size ≤ _); rw [arrV_size]; exact hin) (by show (arrV _ _ _).slots[_]? = _; rw [arrV_read _ _ hlt]) rfl rfl hd (kk p e s m args below meth c H locs A X hH hS hl)
theorem jv_aaload {a n t : Nat} {i : Int32} {ty : FieldType} (q : Nat) (hq : (jtys E)[q]? = some (E.2.2.2 ty, ty)) (hr : jisR ty = true) (hty : ty.isReference = true) (hd : decode y.2.1 pc = .ok (.aaload, 1)) (hkd : jkd a = .inr (ty, n)) (ha : a < g.1) (hin : vp_in i n) (ht : g.2.1 a i.toNatClampNeg = some t) (kk : JV E n0 nE d y K (pc + 1) ls (.ref t :: st) g) : JV E n0 nE d y K pc ls (.int i :: .ref a :: st) g := by
  intro p e s m args below meth c H locs A X hH hS hl
  have hat := hH.2 a ha
  rw [jen_arq hkd hr] at hat
  have hlt : i.toNatClampNeg < n := Nat.not_le.mp fun q => hin (Or.inr q)
  exact W.aald (v := .ref (E.2.1 + t)) (ty := ty) X.1 X.2.1 hat (jArr X.2.2.2.2.2.2.2.2.1 q hq n (fun j => va_rf ((g.2.1 a j).map (E.2.1 + ·)))) hty (fun q => by cases q) (by show ¬ (i < 0 ∨ (arrV _ _ _).slots.size ≤ _); rw [arrV_size]; exact hin) (by show (arrV _ _ _).slots[_]? = _; rw [arrV_read _ _ hlt]; dsimp only; rw [ht]; rfl) rfl rfl hd (kk p e s m args below meth c H locs A X hH hS hl)
theorem jv_alen {a n : Nat} (hd : decode y.2.1 pc = .ok (.arraylength, 1)) (hkd : jkd a = .inr (.int, n)) (ha : a < g.1) (kk : JV E n0 nE d y K (pc + 1) ls (.int (Int32.ofNat n) :: st) g) : JV E n0 nE d y K pc ls (.ref a :: st) g := by
  intro p e s m args below meth c H locs A X hH hS hl
  have hat := hH.2 a ha
  rw [jen_arr hkd rfl] at hat
  exact W.alen (n := Int32.ofNat n) X.1 X.2.1 hat (jArr X.2.2.2.2.2.2.2.2.1 0 rfl n (fun j => .int (g.2.2 a j))) (by rw [vp_cell_i, arrV_size] <;> rfl) rfl rfl hd (kk p e s m args below meth c H locs A X hH hS hl)
theorem jstore {cA : ClassId} {n k : Nat} {f : Nat → Int32} {x : Int32} : (vp_cell cA (n, .inl f)).setSlot k (.int x) = vp_cell cA (n, .inl (upd f k x)) := by
  rw [vp_cell_i, vp_cell_i, arrV_store]
  congr 1
  funext q
  by_cases hq : q = k
  · subst hq; simp [updV, upd]
  · simp [updV, upd, hq]
theorem jv_iastore {a n : Nat} {i x : Int32} (hd : decode y.2.1 pc = .ok (.iastore, 1)) (hkd : jkd a = .inr (.int, n)) (ha : a < g.1) (hin : vp_in i n) (kk : JV E n0 nE d y K (pc + 1) ls st (g.1, g.2.1, jw g.2.2 a i.toNatClampNeg x)) : JV E n0 nE d y K pc ls (.int x :: .int i :: .ref a :: st) g := by
  intro p e s m args below meth c H locs A X hH hS hl
  have hat := hH.2 a ha
  rw [jen_arr hkd rfl] at hat
  refine W.iast X.1 X.2.1 hat (jArr X.2.2.2.2.2.2.2.2.1 0 rfl n (fun j => .int (g.2.2 a j))) (fun q => by cases q) (by show ¬ (i < 0 ∨ (arrV _ _ _).slots.size ≤ _); rw [arrV_size]; exact hin) rfl rfl hd fun H1 e1 z oq => ?_
  refine kk p e s m args below meth c H1 _ A X (hH.put rfl z oq ?_ (fun _ _ => rfl) (fun a' h => jw_ne h)) (jS_put hS z oq) hl
  rw [jen_arr hkd rfl]
  show H1[E.2.1 + a]? = some _
  rw [e1, jstore]
  show some (vp_cell _ (n, .inl _)) = some (vp_cell _ (n, .inl (jw g.2.2 a _ x a)))
  rw [jw_eq]
theorem jv_bastore {a n : Nat} {i x : Int32} (hd : decode y.2.1 pc = .ok (.bastore, 1)) (hkd : jkd a = .inr (.boolean, n)) (ha : a < g.1) (hin : vp_in i n) (hx : x = 0 ∨ x = 1) (kk : JV E n0 nE d y K (pc + 1) ls st (g.1, g.2.1, jw g.2.2 a i.toNatClampNeg x)) : JV E n0 nE d y K pc ls (.int x :: .int i :: .ref a :: st) g := by
  intro p e s m args below meth c H locs A X hH hS hl
  have hat := hH.2 a ha
  rw [jen_arr hkd rfl] at hat
  have hn : narrow .boolean (.int x) = .int x := by rcases hx with rfl | rfl <;> rfl
  refine W.zast X.1 X.2.1 hat (jArr X.2.2.2.2.2.2.2.2.1 1 rfl n (fun j => .int (g.2.2 a j))) (fun q => by cases q) (by show ¬ (i < 0 ∨ (arrV _ _ _).slots.size ≤ _); rw [arrV_size]; exact hin) rfl rfl hd fun H1 e1 z oq => ?_
  rw [hn] at e1
  refine kk p e s m args below meth c H1 _ A X (hH.put rfl z oq ?_ (fun _ _ => rfl) (fun a' h => jw_ne h)) (jS_put hS z oq) hl
  rw [jen_arr hkd rfl]
  show H1[E.2.1 + a]? = some _
  rw [e1, jstore]
  show some (vp_cell _ (n, .inl _)) = some (vp_cell _ (n, .inl (jw g.2.2 a _ x a)))
  rw [jw_eq]
/-- n values of a row, laid into another -/
def jcp (u : JM) (a0 sp a dp n : Nat) : JM := fun a' => if a' = a then va_cpy (u a0) (u a) sp dp n else u a'
theorem jv_acopy {idx a a0 n0' n1' : Nat} {ty : FieldType} {sp dp n : Int32} (q : Nat) (hq : (jtys E)[q]? = some (E.2.2.2 ty, ty)) (hr : jisR ty = false) (hprim : refKind ty = false) (hlk : Cond.methodLink y.1.cls idx arraycopyName ∈ lw_gd) (hnat : Cond.native arraycopyName ∈ lw_gd ∧ Cond.static arraycopyName ∈ lw_gd ∧ Cond.initialized "java/lang/System" ∈ lw_gd)
    (hd : decode y.2.1 pc = .ok (.invokestatic idx, 3)) (hk0 : jkd a0 = .inr (ty, n0')) (hk1 : jkd a = .inr (ty, n1')) (h0 : a0 < g.1) (h1 : a < g.1) (hls : ls.length = y.2.2.1) (hd1 : 1 ≤ d) (hst : (st.map fun v => v.category).sum ≤ 8)
    (hsp : ¬ sp < 0) (hdp : ¬ dp < 0) (hn : ¬ n < 0) (h4 : sp.toNatClampNeg + n.toNatClampNeg ≤ n0') (h5 : dp.toNatClampNeg + n.toNatClampNeg ≤ n1') (hfit : ∀ i, i < n.toNatClampNeg → fits ty (.int (g.2.2 a0 (sp.toNatClampNeg + i))) = true)
    (kk : JV E n0 nE d y K (pc + 3) ls st (g.1, g.2.1, jcp g.2.2 a0 sp.toNatClampNeg a dp.toNatClampNeg n.toNatClampNeg)) : JV E n0 nE d y K pc ls (.int n :: .int dp :: .ref a :: .int sp :: .ref a0 :: st) g := by
  intro p e s m args below meth c H locs A X hH hS hl
  have hx := X.1
  have hb := X.2.1
  have hts := X.2.2.2.2.2.2.2.1
  have nn : ∀ z : Int32, ¬ z < 0 → z.toInt = (z.toNatClampNeg : Int) := by
    intro z hz
    have hz0 : (0 : Int) ≤ z.toInt := by
      have := Int32.not_lt.mp hz
      simpa using Int32.le_iff_toInt_le.mp this
    show z.toInt = ((z.toInt.toNat : Nat) : Int)
    omega
  have hc0 := hH.2 a0 h0
  have hc1 := hH.2 a h1
  rw [jen_arr hk0 hr] at hc0
  rw [jen_arr hk1 hr] at hc1
  have hc0 : H[E.2.1 + a0]? = some (vp_cell (E.2.2.2 ty) (n0', .inl (g.2.2 a0))) := hc0
  have hc1 : H[E.2.1 + a]? = some (vp_cell (E.2.2.2 ty) (n1', .inl (g.2.2 a))) := hc1
  have hArr := jArr X.2.2.2.2.2.2.2.2.1 q hq
  obtain ⟨-, k0, hk0', cm0, hkk0⟩ := hArr n0' (fun j => .int (g.2.2 a0 j))
  obtain ⟨-, k1, hk1', cm1, hkk1⟩ := hArr n1' (fun j => .int (g.2.2 a j))
  have hcat : ∀ (l : List Value), ((l.map (jrl E.2.1)).map fun v => v.category).sum = (l.map fun v => v.category).sum := by
    intro l
    rw [List.map_map]
    congr 1
    apply List.map_congr_left
    intro v _
    exact jrl_cat _ _
  intro T hT XS
  obtain ⟨vm', X', step⟩ := XS.arraycopy hx X.2.2.2.2.2.1 (hts _ (List.mem_cons_of_mem _ hlk)) (hts _ (List.mem_cons_of_mem _ hnat.1)) (hts _ (List.mem_cons_of_mem _ hnat.2.1)) (hts _ (List.mem_cons_of_mem _ hnat.2.2)) (src := E.2.1 + a0) (dst := E.2.1 + a) (cs := vp_cell (E.2.2.2 ty) (n0', .inl (g.2.2 a0))) (cd := vp_cell (E.2.2.2 ty) (n1', .inl (g.2.2 a))) (srcPos := sp) (destPos := dp) (n := n) (by rw [hT]; exact hc0) (by rw [hT]; exact hc1)
    (fun _ h => by cases h) (fun _ h => by cases h) (fun h => by cases h) (fun h => by cases h) hk0' hk1' hkk0 hkk1 (by simp [hprim]) hsp hdp hn
    (by rw [nn sp hsp, nn n hn]; show ¬ _ > ((arrV _ n0' (fun j => .int (g.2.2 a0 j))).slots.size : Int); rw [arrV_size]; omega)
    (by rw [nn dp hdp, nn n hn]; show ¬ _ > ((arrV _ n1' (fun j => .int (g.2.2 a j))).slots.size : Int); rw [arrV_size]; omega)
    (fun vm₁ _ i hi => by
      have e : (vp_cell (E.2.2.2 ty) (n0', .inl (g.2.2 a0))).slots.getD (sp.toNatClampNeg + i) .null = .int (g.2.2 a0 (sp.toNatClampNeg + i)) := by
        show (arrV _ n0' (fun j => .int (g.2.2 a0 j))).slots.getD _ _ = _
        rw [Array.getD_eq_getD_getElem?, arrV_read _ _ (by omega)]
        rfl
      refine ⟨?_, ?_⟩
      · rw [e]
        exact hfit i hi
      · rw [e]
        exact trivial)
    (g := F0 m pc A (.int n :: .int dp :: .ref (E.2.1 + a) :: .int sp :: .ref (E.2.1 + a0) :: st.map (jrl E.2.1))) rfl (by rw [X.2.2.1]; exact hl.1.1) (rest := st.map (jrl E.2.1)) rfl (by rw [hb]; exact hd) (by show 1 ≤ d; exact hd1) (by
      show 2 * 0 + _ + _ ≤ 100 * d
      rw [hcat st]
      have : nativeFrameWords "java/lang/System" "arraycopy" 5 = 7 := by decide +kernel
      omega)
  have e1 : copied (vp_cell (E.2.2.2 ty) (n0', .inl (g.2.2 a0))) (vp_cell (E.2.2.2 ty) (n1', .inl (g.2.2 a))) sp dp n = vp_cell (E.2.2.2 ty) (n1', .inl (va_cpy (g.2.2 a0) (g.2.2 a) sp.toNatClampNeg dp.toNatClampNeg n.toNatClampNeg)) := va_copied (fun z => .int z) _ _ _ _ h4
  rw [e1] at X' step
  have hlt : E.2.1 + a < H.size := (Array.getElem?_eq_some_iff.mp hc1).1
  generalize hce : vp_cell (E.2.2.2 ty) (n1', .inl (va_cpy (g.2.2 a0) (g.2.2 a) sp.toNatClampNeg dp.toNatClampNeg n.toNatClampNeg)) = ce at X' step
  have hheap : ((T.setVm vm').setCell (E.2.1 + a) ce).heap = H.setIfInBounds (E.2.1 + a) ce := by rw [← hT]; rfl
  have oq : ∀ q : Nat, q ≠ E.2.1 + a → (H.setIfInBounds (E.2.1 + a) ce)[q]? = H[q]? := fun q hq => by simp [Array.getElem?_setIfInBounds, Ne.symm hq]
  obtain ⟨t, a1, b1⟩ := kk p e s m args below meth c (H.setIfInBounds (E.2.1 + a) ce) _ A X (hH.put rfl (by simp) oq (by
      rw [jen_arr hk1 hr]
      show (H.setIfInBounds (E.2.1 + a) ce)[E.2.1 + a]? = some (vp_cell _ (n1', .inl (jcp g.2.2 a0 _ a _ _ a)))
      have e2 : jcp g.2.2 a0 sp.toNatClampNeg a dp.toNatClampNeg n.toNatClampNeg a = va_cpy (g.2.2 a0) (g.2.2 a) sp.toNatClampNeg dp.toNatClampNeg n.toNatClampNeg := if_pos rfl
      rw [e2, hce]
      simp [Array.getElem?_setIfInBounds, hlt]) (fun _ _ => rfl) (fun a' h => if_neg h)) ⟨by simp; exact hS.1, fun q g1 g2 => by
        rw [oq q (fun e => g2 (by rw [e]; exact Nat.le_add_right _ _))]
        exact hS.2.1 q g1 g2, fun q hq => by
        rcases List.mem_append.mp hq with h | h
        · exact hS.2.2 q h
        · obtain ⟨z, -, hz⟩ := List.mem_map.mp h
          rw [← hz]
          exact Nat.le_add_right _ _⟩ hl _ hheap X'
  exact ⟨t, step t a1, b1⟩
end JHp
end
section
/-! calls -/
section JCl
variable {E : JE} {n0 nE d : Nat} {y : JY} {K : Option Value → JS → Prop} {pc : Nat} {ls : List (Option Value)} {st : List Value} {g : JS}
theorem jP_blind {as : List Value} {g : JS} : FrameBlind (jP E as g) := fun a U fr mk h => ⟨h.1, h.2.1, JKn.warm (U := U.calling fr mk a) (State.WarmedH.refl U) h.2.2⟩
theorem jcats (b : Nat) (l : List Value) : ((l.map (jrl b)).map fun v => v.category).sum = (l.map fun v => v.category).sum := by
  rw [List.map_map]
  congr 1
  apply List.map_congr_left
  intro v _
  exact jrl_cat _ _
/-- what a call site's tables say, of any kind of call -/
abbrev jcB (y' : JY) (n : Nat) : Prop := Cond.code y'.1 y'.2.1 y'.2.2.1 y'.2.2.2 ∈ lw_gd ∧ Cond.initialized y'.1.cls ∈ lw_gd ∧ (y'.1.cls ≠ "java/lang/invoke/MethodHandle" ∧ y'.1.cls ≠ "java/lang/invoke/VarHandle") ∧ (parseMethodDescriptor y'.1.desc).map (fun d => d.parameters.length) = some n ∧ y'.2.2.1 ≤ 80
abbrev jcV (own : String) (idx : Nat) (y' : JY) (n : Nat) : Prop := jcB y' n ∧ Cond.methodLink own idx y'.1 ∈ lw_gd ∧ Cond.instanceMethod y'.1 ∈ lw_gd ∧ Cond.selects y'.1.cls y'.1 y'.1 ∈ lw_gd
abbrev jcS (own : String) (idx : Nat) (y' : JY) (n : Nat) : Prop := jcB y' n ∧ Cond.methodLink own idx y'.1 ∈ lw_gd ∧ Cond.static y'.1 ∈ lw_gd
abbrev jcSN (own : String) (idx : Nat) (y' : JY) (n : Nat) (host : String) : Prop := jcB y' n ∧ Cond.methodLinkNest own idx y'.1 host ∈ lw_nest ∧ Cond.static y'.1 ∈ lw_gd
abbrev jcI (own : String) (idx : Nat) (y' : JY) (n : Nat) : Prop := jcB y' n ∧ y'.2.2.2 = none ∧ y'.1.name = "<init>" ∧ Cond.methodLink own idx y'.1 ∈ lw_gd ∧ Cond.instanceMethod y'.1 ∈ lw_gd
abbrev jcIN (own : String) (idx : Nat) (y' : JY) (n : Nat) (host : String) : Prop := jcB y' n ∧ y'.2.2.2 = none ∧ y'.1.name = "<init>" ∧ Cond.methodLinkNest own idx y'.1 host ∈ lw_nest ∧ Cond.instanceMethod y'.1 ∈ lw_gd
theorem jgood {y' : JY} (hc : Cond.code y'.1 y'.2.1 y'.2.2.1 y'.2.2.2 ∈ lw_gd) : GoodIn (jwd y) (jwd y') := by
  intro w hw
  have hg : w ∈ lw_gd := by
    rcases List.mem_cons.mp hw with rfl | h
    · exact hc
    · exact h
  exact ⟨List.mem_cons_of_mem _ hg, good_of_word (lw_gd_ok hg).2⟩
theorem jsig {y' : JY} {n : Nat} (h : (parseMethodDescriptor y'.1.desc).map (fun d => d.parameters.length) = some n) : ∀ sig, parseMethodDescriptor y'.1.desc = some sig → n = sig.parameters.length := by
  intro sig hs
  rw [hs] at h
  exact (Option.some.inj h).symm
theorem jroom {n0 n1 nE gn d d' mL : Nat} (h1 : n0 ≤ gn) (h2 : gn ≤ n1) (h3 : n1 ≤ nE) (hd : d' + 1 ≤ d) (hm : mL ≤ 80) :
    (jrm gn n1 d').frames + 1 ≤ (jrm n0 nE d).frames ∧ 8 + (mL + 11) + (jrm gn n1 d').locals ≤ (jrm n0 nE d).locals ∧ (gn - n0 + (n1 - gn) ≤ (jrm n0 nE d).cells ∧ jsl gn - jsl n0 + (jsl n1 - jsl gn) ≤ (jrm n0 nE d).slots) ∧ (gn - n0 + (n1 - gn) = n1 - n0 ∧ jsl gn - jsl n0 + (jsl n1 - jsl gn) = jsl n1 - jsl n0) := by
  have a1 := jsl_mono h1
  have a2 := jsl_mono h2
  have a3 := jsl_mono h3
  show d' + 1 ≤ d ∧ 8 + (mL + 11) + 100 * d' ≤ 100 * d ∧ (gn - n0 + (n1 - gn) ≤ nE - n0 ∧ jsl gn - jsl n0 + (jsl n1 - jsl gn) ≤ jsl nE - jsl n0) ∧ (gn - n0 + (n1 - gn) = n1 - n0 ∧ jsl gn - jsl n0 + (jsl n1 - jsl gn) = jsl n1 - jsl n0)
  omega
/-- behind a call -/
theorem jback {p : Program} {e : Env} {s : State} {m : MethodId} {args aa : Array Value} {below : List Frame} {meth : Method} {c : Code} {H : Heap} {locs : List Loc} {A : Array Slot} {n1 : Nat} {K' : Option Value → JS → Prop} {st0 : List Value} {R : Room}
    (hr : va_Run p E.1 e R s m args below meth c H locs (g.1 - n0) (jsl g.1 - jsl n0) (n1 - g.1) (jsl n1 - jsl g.1) (F0 m pc A st0) (st.map (jrl E.2.1)) (jQ E n1 K' aa) (jFr E))
    (hR : R = jrm n0 nE d) (hcell : g.1 - n0 + (n1 - g.1) = n1 - n0 ∧ jsl g.1 - jsl n0 + (jsl n1 - jsl g.1) = jsl n1 - jsl n0)
    (X : JX E n0 y p s m args meth c) (hS : va_S (jFr E) s.heap H locs) (hl : jl E.2.1 y.2.2.1 ls A)
    (kk : ∀ v g', K' v g' → g'.1 = n1 → JV E n0 nE d y K (pc + 3) ls (v.toList ++ st) g') :
    W p E.1 e R s m args below meth c H locs (g.1 - n0) (jsl g.1 - jsl n0) (MQ below (jQ E nE K) args s (nE - n0) (jsl nE - jsl n0) (jFr E)) (F0 m pc A st0) := by
  subst hR
  intro T hT XS
  obtain ⟨v, s0, t, T', L, h0, X', hL, e1, e2, ⟨⟨v', g', hv, hk, hn, hcat, hH'⟩, hz, hF⟩, step⟩ := hr T hT XS
  cases hv
  rw [h0] at hz hF
  rw [hcell.1, hcell.2] at X'
  have h := kk v' g' hk hn p e s m args below meth c T'.heap (locs ++ L) A X (by rw [e1]; exact hH') ⟨Nat.le_trans hS.1 (by rw [e1]; exact hz), fun q h1 h2 => by rw [e1, hF q (Nat.lt_of_lt_of_le h1 hS.1) h2]; exact hS.2.1 q h1 h2, fun q hq => by
      rcases List.mem_append.mp hq with h | h
      · exact hS.2.2 q h
      · exact hL q h⟩ hl
  rw [hn] at h
  obtain ⟨t2, a1, b1⟩ := h T' rfl X'
  refine ⟨t2, step t2 ?_, b1⟩
  have es : (v'.toList ++ st).map (jrl E.2.1) = (v'.map (jrl E.2.1)).toList ++ st.map (jrl E.2.1) := by cases v' <;> simp
  rw [es] at a1
  exact a1
theorem jv_callV {idx n n1 d' a ci : Nat} {y' : JY} {as : List Value} {K' : Option Value → JS → Prop} {r : vw_C} (hw : jcV y.1.cls idx y' n) (hd : decode y.2.1 pc = .ok (.invokevirtual idx, 3)) (hn : as.length = n) (hst : (st.map fun v => v.category).sum ≤ 8)
    (hkd : jkd a = .inl ci) (hci : vwCl[ci]? = some r) (hcl : r.1 = y'.1.cls) (ha : a < g.1) (hd' : d' + 1 ≤ d) (h1 : n0 ≤ g.1) (h2 : g.1 ≤ n1) (h3 : n1 ≤ nE)
    (hM : JC E g.1 n1 d' y' (.ref a :: as) K' g) (kk : ∀ v g', K' v g' → g'.1 = n1 → JV E n0 nE d y K (pc + 3) ls (v.toList ++ st) g') : JV E n0 nE d y K pc ls (as.reverse ++ .ref a :: st) g := by
  intro p e s m args below meth c H locs A X hH hS hl
  obtain ⟨⟨w1, w2, w3, w4, w5⟩, w6, w7, w8⟩ := hw
  have hts := X.2.2.2.2.2.2.2.1
  have hin : ∀ {w : Cond}, w ∈ lw_gd → w.before args s = true := fun h => hts _ (List.mem_cons_of_mem _ h)
  obtain ⟨r1, r2, r3, r4⟩ := jroom (mL := y'.2.2.1) h1 h2 h3 hd' w5
  have hat := hH.2 a ha
  rw [jen_obj hkd] at hat
  obtain ⟨r', q1, cell, q2, q3, q4, q5⟩ := hat
  cases q1.symm.trans hci
  have hcls := (X.2.2.2.2.2.2.2.2.1.1.1 ci _ hci).2.1
  refine jback (n1 := n1) (aa := (Value.ref (E.2.1 + a) :: as.map (jrl E.2.1)).toArray) (K' := K') ?_ rfl r4 X hS hl kk
  refine va_runV (C := y'.1.cls) (n := n) (b := E.2.1 + a) (As := as.map (jrl E.2.1)) (Ts := jwd y) (nL := y.2.2.1) (cc := y.2.1) (index := idx) ⟨X.1, X.2.1, X.2.2.1, X.2.2.2.2.2.1, hts⟩ hM ⟨⟨rfl, rfl, r1, r2, pay_in hts (jgood w1), List.mem_cons_self, hin w1, hin w2, w3, jsig w4, hin w6⟩, hin w7, hin w8⟩
    ⟨jP_blind, ⟨cell, q2, by rw [q4]; rfl, by rw [q3, ← hcl]; exact hcls⟩, fun U hU hW => ⟨rfl, by rw [hU]; exact hH, JKn.warm hW X.2.2.2.2.2.2.2.2.1⟩⟩ rfl (by rw [List.length_map]; exact hn) hl.1.1 (by simp [List.map_append, List.map_reverse, jrl]) (by rw [jcats]; show 2 * 0 + _ ≤ 8; omega) hd ⟨r3.1, r3.2⟩
theorem jv_callS {idx n n1 d' : Nat} {y' : JY} {as : List Value} {K' : Option Value → JS → Prop} (hw : jcS y.1.cls idx y' n) (hd : decode y.2.1 pc = .ok (.invokestatic idx, 3)) (hn : as.length = n) (hst : (st.map fun v => v.category).sum ≤ 8)
    (hd' : d' + 1 ≤ d) (h1 : n0 ≤ g.1) (h2 : g.1 ≤ n1) (h3 : n1 ≤ nE)
    (hM : JC E g.1 n1 d' y' as K' g) (kk : ∀ v g', K' v g' → g'.1 = n1 → JV E n0 nE d y K (pc + 3) ls (v.toList ++ st) g') : JV E n0 nE d y K pc ls (as.reverse ++ st) g := by
  intro p e s m args below meth c H locs A X hH hS hl
  obtain ⟨⟨w1, w2, w3, w4, w5⟩, w6, w7⟩ := hw
  have hts := X.2.2.2.2.2.2.2.1
  have hin : ∀ {w : Cond}, w ∈ lw_gd → w.before args s = true := fun h => hts _ (List.mem_cons_of_mem _ h)
  obtain ⟨r1, r2, r3, r4⟩ := jroom (mL := y'.2.2.1) h1 h2 h3 hd' w5
  refine jback (n1 := n1) (aa := (as.map (jrl E.2.1)).toArray) (K' := K') ?_ rfl r4 X hS hl kk
  refine va_runS (n := n) (As := as.map (jrl E.2.1)) (Ts := jwd y) (nL := y.2.2.1) (cc := y.2.1) (index := idx) ⟨X.1, X.2.1, X.2.2.1, X.2.2.2.2.2.1, hts⟩ hM ⟨⟨rfl, rfl, r1, r2, pay_in hts (jgood w1), List.mem_cons_self, hin w1, hin w2, w3, jsig w4, hin w6⟩, hin w7⟩
    ⟨jP_blind, fun U hU hW => ⟨rfl, by rw [hU]; exact hH, JKn.warm hW X.2.2.2.2.2.2.2.2.1⟩⟩ rfl (by rw [List.length_map]; exact hn) hl.1.1 (by simp [List.map_append, List.map_reverse]) (by rw [jcats]; show 2 * 0 + _ ≤ 8; omega) hd ⟨r3.1, r3.2⟩
theorem jv_callSN {idx n n1 d' : Nat} {y' : JY} {as : List Value} {K' : Option Value → JS → Prop} {host : String} (hw : jcSN y.1.cls idx y' n host) (hd : decode y.2.1 pc = .ok (.invokestatic idx, 3)) (hn : as.length = n) (hst : (st.map fun v => v.category).sum ≤ 8)
    (hd' : d' + 1 ≤ d) (h1 : n0 ≤ g.1) (h2 : g.1 ≤ n1) (h3 : n1 ≤ nE)
    (hM : JC E g.1 n1 d' y' as K' g) (kk : ∀ v g', K' v g' → g'.1 = n1 → JV E n0 nE d y K (pc + 3) ls (v.toList ++ st) g') : JV E n0 nE d y K pc ls (as.reverse ++ st) g := by
  intro p e s m args below meth c H locs A X hH hS hl
  obtain ⟨⟨w1, w2, w3, w4, w5⟩, w6, w7⟩ := hw
  have hts := X.2.2.2.2.2.2.2.1
  have hin : ∀ {w : Cond}, w ∈ lw_gd → w.before args s = true := fun h => hts _ (List.mem_cons_of_mem _ h)
  obtain ⟨r1, r2, r3, r4⟩ := jroom (mL := y'.2.2.1) h1 h2 h3 hd' w5
  refine jback (n1 := n1) (aa := (as.map (jrl E.2.1)).toArray) (K' := K') ?_ rfl r4 X hS hl kk
  refine va_runSN (n := n) (As := as.map (jrl E.2.1)) (Ts := jwd y) (nL := y.2.2.1) (cc := y.2.1) (index := idx) (host := host) ⟨X.1, X.2.1, X.2.2.1, X.2.2.2.2.2.1, hts⟩ hM ⟨⟨⟨rfl, rfl, r1, r2, pay_in hts (jgood w1), List.mem_cons_self⟩, hin w1, hin w2, w3, jsig w4, va_Nw.use rfl (X.2.2.2.2.2.2.2.2.1.2.2.2.2 _ w6)⟩, hin w7, trivial⟩
    ⟨jP_blind, fun U hU hW => ⟨rfl, by rw [hU]; exact hH, JKn.warm hW X.2.2.2.2.2.2.2.2.1⟩⟩ rfl (by rw [List.length_map]; exact hn) hl.1.1 (by simp [List.map_append, List.map_reverse]) (by rw [jcats]; show 2 * 0 + _ ≤ 8; omega) hd ⟨r3.1, r3.2⟩
/-- constructors -/
theorem jv_callI {idx n n1 d' a : Nat} {y' : JY} {as : List Value} {K' : Option Value → JS → Prop} (hw : jcI y.1.cls idx y' n) (hd : decode y.2.1 pc = .ok (.invokespecial idx, 3)) (hn : as.length = n) (hst : (st.map fun v => v.category).sum ≤ 8)
    (hd' : d' + 1 ≤ d) (h1 : n0 ≤ g.1) (h2 : g.1 ≤ n1) (h3 : n1 ≤ nE)
    (hM : JC E g.1 n1 d' y' (.ref a :: as) K' g) (kk : ∀ v g', K' v g' → g'.1 = n1 → JV E n0 nE d y K (pc + 3) ls (v.toList ++ st) g') : JV E n0 nE d y K pc ls (as.reverse ++ .ref a :: st) g := by
  intro p e s m args below meth c H locs A X hH hS hl
  obtain ⟨⟨w1, w2, w3, w4, w5⟩, w0, w6, w7, w8⟩ := hw
  have hts := X.2.2.2.2.2.2.2.1
  have hin : ∀ {w : Cond}, w ∈ lw_gd → w.before args s = true := fun h => hts _ (List.mem_cons_of_mem _ h)
  obtain ⟨r1, r2, r3, r4⟩ := jroom (mL := y'.2.2.1) h1 h2 h3 hd' w5
  refine jback (n1 := n1) (aa := (Value.ref (E.2.1 + a) :: as.map (jrl E.2.1)).toArray) (K' := K') ?_ rfl r4 X hS hl kk
  have hM' := hM
  unfold JC at hM'
  refine va_runI (maxL := y'.2.2.1) (bytes := y'.2.1) (n := n) (b := E.2.1 + a) (As := as.map (jrl E.2.1)) (Ts := jwd y) (nL := y.2.2.1) (cc := y.2.1) (index := idx) ⟨X.1, X.2.1, X.2.2.1, X.2.2.2.2.2.1, hts⟩ hM' ⟨⟨rfl, rfl, r1, r2, pay_in hts (jgood w1), by rw [← w0]; exact List.mem_cons_self, by rw [← w0]; exact hin w1, hin w2, w3, jsig w4, hin w7⟩, w6, hin w8⟩
    ⟨jP_blind, fun U hU hW => ⟨rfl, by rw [hU]; exact hH, JKn.warm hW X.2.2.2.2.2.2.2.2.1⟩⟩ rfl (by rw [List.length_map]; exact hn) hl.1.1 (by simp [List.map_append, List.map_reverse, jrl]) (by rw [jcats]; show 2 * 0 + _ ≤ 8; omega) hd ⟨r3.1, r3.2⟩
theorem jv_callIN {idx n n1 d' a : Nat} {y' : JY} {as : List Value} {K' : Option Value → JS → Prop} {host : String} (hw : jcIN y.1.cls idx y' n host) (hd : decode y.2.1 pc = .ok (.invokespecial idx, 3)) (hn : as.length = n) (hst : (st.map fun v => v.category).sum ≤ 8)
    (hd' : d' + 1 ≤ d) (h1 : n0 ≤ g.1) (h2 : g.1 ≤ n1) (h3 : n1 ≤ nE)
    (hM : JC E g.1 n1 d' y' (.ref a :: as) K' g) (kk : ∀ v g', K' v g' → g'.1 = n1 → JV E n0 nE d y K (pc + 3) ls (v.toList ++ st) g') : JV E n0 nE d y K pc ls (as.reverse ++ .ref a :: st) g := by
  intro p e s m args below meth c H locs A X hH hS hl
  obtain ⟨⟨w1, w2, w3, w4, w5⟩, w0, w6, w7, w8⟩ := hw
  have hts := X.2.2.2.2.2.2.2.1
  have hin : ∀ {w : Cond}, w ∈ lw_gd → w.before args s = true := fun h => hts _ (List.mem_cons_of_mem _ h)
  obtain ⟨r1, r2, r3, r4⟩ := jroom (mL := y'.2.2.1) h1 h2 h3 hd' w5
  refine jback (n1 := n1) (aa := (Value.ref (E.2.1 + a) :: as.map (jrl E.2.1)).toArray) (K' := K') ?_ rfl r4 X hS hl kk
  have hM' := hM
  unfold JC at hM'
  refine va_runIN (maxL := y'.2.2.1) (bytes := y'.2.1) (n := n) (b := E.2.1 + a) (As := as.map (jrl E.2.1)) (Ts := jwd y) (nL := y.2.2.1) (cc := y.2.1) (index := idx) (host := host) ⟨X.1, X.2.1, X.2.2.1, X.2.2.2.2.2.1, hts⟩ hM' ⟨⟨⟨rfl, rfl, r1, r2, pay_in hts (jgood w1), by rw [← w0]; exact List.mem_cons_self⟩, by rw [← w0]; exact hin w1, hin w2, w3, jsig w4, va_Nw.use rfl (X.2.2.2.2.2.2.2.2.1.2.2.2.2 _ w7)⟩, w6, hin w8⟩
    ⟨jP_blind, fun U hU hW => ⟨rfl, by rw [hU]; exact hH, JKn.warm hW X.2.2.2.2.2.2.2.2.1⟩⟩ rfl (by rw [List.length_map]; exact hn) hl.1.1 (by simp [List.map_append, List.map_reverse, jrl]) (by rw [jcats]; show 2 * 0 + _ ≤ 8; omega) hd ⟨r3.1, r3.2⟩
theorem JC.mono {n0 n1 d : Nat} {y : JY} {as : List Value} {K K' : Option Value → JS → Prop} {g : JS} (h : JC E n0 n1 d y as K g) (hk : ∀ v g', K v g' → K' v g') : JC E n0 n1 d y as K' g := by
  intro p e ha hc hs s m args below hf happ hP hK
  obtain ⟨t, o, a1, a2, a3, ⟨⟨⟨v, g', b1, b2, b3⟩, b4⟩, b5⟩⟩ := h p e ha hc hs s m args below hf happ hP hK
  exact ⟨t, o, a1, a2, a3, ⟨⟨⟨v, g', b1, hk _ _ b2, b3⟩, b4⟩, b5⟩⟩
end JCl
end
