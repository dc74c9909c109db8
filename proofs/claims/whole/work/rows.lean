section
-- ===== PART A: goes FIRST, ahead of the names: the tables' words, and 'selects' of the private methods out of them =====
/-- a private method of a class that the tables say can be made, by its rows of tables_1 -/
def lw_okq (q : MethodName × Nat) : Prop := (q.1.cls ≠ "java/lang/invoke/MethodHandle" ∧ q.1.cls ≠ "java/lang/invoke/VarHandle") ∧ Cond.instantiable q.1.cls q.2 ∈ tables_1 ∧ Cond.privateMethod q.1 ∈ tables_1 ∧ Cond.instanceMethod q.1 ∈ tables_1
theorem lw_p0 : lw_okq (⟨"FirstSeconds$Travels", "reckon", "(I)V"⟩, 1) := ⟨⟨by decide +kernel, by decide +kernel⟩, List.mem_of_getElem? (i := 30) (by decide +kernel), List.mem_of_getElem? (i := 36) (by decide +kernel), List.mem_of_getElem? (i := 37) (by decide +kernel)⟩
theorem lw_p1 : lw_okq (⟨"java/util/ArrayList", "add", "(Ljava/lang/Object;[Ljava/lang/Object;I)V"⟩, 3) := ⟨⟨by decide +kernel, by decide +kernel⟩, List.mem_of_getElem? (i := 48) (by decide +kernel), List.mem_of_getElem? (i := 208) (by decide +kernel), List.mem_of_getElem? (i := 209) (by decide +kernel)⟩
theorem lw_p2 : lw_okq (⟨"java/util/ArrayList", "grow", "()[Ljava/lang/Object;"⟩, 3) := ⟨⟨by decide +kernel, by decide +kernel⟩, List.mem_of_getElem? (i := 48) (by decide +kernel), List.mem_of_getElem? (i := 212) (by decide +kernel), List.mem_of_getElem? (i := 213) (by decide +kernel)⟩
theorem lw_p3 : lw_okq (⟨"java/util/ArrayList", "grow", "(I)[Ljava/lang/Object;"⟩, 3) := ⟨⟨by decide +kernel, by decide +kernel⟩, List.mem_of_getElem? (i := 48) (by decide +kernel), List.mem_of_getElem? (i := 216) (by decide +kernel), List.mem_of_getElem? (i := 217) (by decide +kernel)⟩
theorem lw_p4 : lw_okq (⟨"FirstSeconds", "isStation", "(I)Z"⟩, 14) := ⟨⟨by decide +kernel, by decide +kernel⟩, List.mem_of_getElem? (i := 22) (by decide +kernel), List.mem_of_getElem? (i := 281) (by decide +kernel), List.mem_of_getElem? (i := 282) (by decide +kernel)⟩
theorem lw_p5 : lw_okq (⟨"FirstSeconds$Heap", "forget", "()V"⟩, 6) := ⟨⟨by decide +kernel, by decide +kernel⟩, List.mem_of_getElem? (i := 74) (by decide +kernel), List.mem_of_getElem? (i := 299) (by decide +kernel), List.mem_of_getElem? (i := 300) (by decide +kernel)⟩
theorem lw_p6 : lw_okq (⟨"FirstSeconds$Travels", "between", "(II)I"⟩, 1) := ⟨⟨by decide +kernel, by decide +kernel⟩, List.mem_of_getElem? (i := 30) (by decide +kernel), List.mem_of_getElem? (i := 307) (by decide +kernel), List.mem_of_getElem? (i := 308) (by decide +kernel)⟩
theorem lw_p7 : lw_okq (⟨"FirstSeconds", "found", "(I)I"⟩, 14) := ⟨⟨by decide +kernel, by decide +kernel⟩, List.mem_of_getElem? (i := 22) (by decide +kernel), List.mem_of_getElem? (i := 323) (by decide +kernel), List.mem_of_getElem? (i := 324) (by decide +kernel)⟩
theorem lw_p8 : lw_okq (⟨"FirstSeconds", "rowOf", "(I)LFirstSeconds$Row;"⟩, 14) := ⟨⟨by decide +kernel, by decide +kernel⟩, List.mem_of_getElem? (i := 22) (by decide +kernel), List.mem_of_getElem? (i := 327) (by decide +kernel), List.mem_of_getElem? (i := 328) (by decide +kernel)⟩
theorem lw_p9 : lw_okq (⟨"FirstSeconds$Row", "begin", "(I)V"⟩, 2) := ⟨⟨by decide +kernel, by decide +kernel⟩, List.mem_of_getElem? (i := 177) (by decide +kernel), List.mem_of_getElem? (i := 331) (by decide +kernel), List.mem_of_getElem? (i := 332) (by decide +kernel)⟩
theorem lw_p10 : lw_okq (⟨"FirstSeconds$Row", "isMissing", "()Z"⟩, 2) := ⟨⟨by decide +kernel, by decide +kernel⟩, List.mem_of_getElem? (i := 177) (by decide +kernel), List.mem_of_getElem? (i := 340) (by decide +kernel), List.mem_of_getElem? (i := 341) (by decide +kernel)⟩
theorem lw_p11 : lw_okq (⟨"FirstSeconds$Row", "has", "(II)Z"⟩, 2) := ⟨⟨by decide +kernel, by decide +kernel⟩, List.mem_of_getElem? (i := 177) (by decide +kernel), List.mem_of_getElem? (i := 344) (by decide +kernel), List.mem_of_getElem? (i := 345) (by decide +kernel)⟩
theorem lw_p12 : lw_okq (⟨"FirstSeconds$Row", "sizes", "(II)J"⟩, 2) := ⟨⟨by decide +kernel, by decide +kernel⟩, List.mem_of_getElem? (i := 177) (by decide +kernel), List.mem_of_getElem? (i := 361) (by decide +kernel), List.mem_of_getElem? (i := 362) (by decide +kernel)⟩
theorem lw_p13 : lw_okq (⟨"FirstSeconds$Row", "firstPick", "(IIII)I"⟩, 2) := ⟨⟨by decide +kernel, by decide +kernel⟩, List.mem_of_getElem? (i := 177) (by decide +kernel), List.mem_of_getElem? (i := 370) (by decide +kernel), List.mem_of_getElem? (i := 371) (by decide +kernel)⟩
theorem lw_p14 : lw_okq (⟨"FirstSeconds", "takerOf", "(II)I"⟩, 14) := ⟨⟨by decide +kernel, by decide +kernel⟩, List.mem_of_getElem? (i := 22) (by decide +kernel), List.mem_of_getElem? (i := 380) (by decide +kernel), List.mem_of_getElem? (i := 381) (by decide +kernel)⟩
theorem lw_p15 : lw_okq (⟨"FirstSeconds", "takes", "(III)Z"⟩, 14) := ⟨⟨by decide +kernel, by decide +kernel⟩, List.mem_of_getElem? (i := 22) (by decide +kernel), List.mem_of_getElem? (i := 384) (by decide +kernel), List.mem_of_getElem? (i := 385) (by decide +kernel)⟩
def lw_privs_1 : List (MethodName × Nat) := [(⟨"FirstSeconds$Travels", "reckon", "(I)V"⟩, 1), (⟨"java/util/ArrayList", "add", "(Ljava/lang/Object;[Ljava/lang/Object;I)V"⟩, 3), (⟨"java/util/ArrayList", "grow", "()[Ljava/lang/Object;"⟩, 3), (⟨"java/util/ArrayList", "grow", "(I)[Ljava/lang/Object;"⟩, 3), (⟨"FirstSeconds", "isStation", "(I)Z"⟩, 14), (⟨"FirstSeconds$Heap", "forget", "()V"⟩, 6), (⟨"FirstSeconds$Travels", "between", "(II)I"⟩, 1), (⟨"FirstSeconds", "found", "(I)I"⟩, 14), (⟨"FirstSeconds", "rowOf", "(I)LFirstSeconds$Row;"⟩, 14), (⟨"FirstSeconds$Row", "begin", "(I)V"⟩, 2), (⟨"FirstSeconds$Row", "isMissing", "()Z"⟩, 2), (⟨"FirstSeconds$Row", "has", "(II)Z"⟩, 2), (⟨"FirstSeconds$Row", "sizes", "(II)J"⟩, 2), (⟨"FirstSeconds$Row", "firstPick", "(IIII)I"⟩, 2), (⟨"FirstSeconds", "takerOf", "(II)I"⟩, 14), (⟨"FirstSeconds", "takes", "(III)Z"⟩, 14)]
theorem lw_r1 : ∀ q ∈ lw_privs_1, lw_okq q := List.forall_mem_cons.mpr ⟨lw_p0, List.forall_mem_cons.mpr ⟨lw_p1, List.forall_mem_cons.mpr ⟨lw_p2, List.forall_mem_cons.mpr ⟨lw_p3, List.forall_mem_cons.mpr ⟨lw_p4, List.forall_mem_cons.mpr ⟨lw_p5, List.forall_mem_cons.mpr ⟨lw_p6, List.forall_mem_cons.mpr ⟨lw_p7, List.forall_mem_cons.mpr ⟨lw_p8, List.forall_mem_cons.mpr ⟨lw_p9, List.forall_mem_cons.mpr ⟨lw_p10, List.forall_mem_cons.mpr ⟨lw_p11, List.forall_mem_cons.mpr ⟨lw_p12, List.forall_mem_cons.mpr ⟨lw_p13, List.forall_mem_cons.mpr ⟨lw_p14, List.forall_mem_cons.mpr ⟨lw_p15, fun _ h => absurd h List.not_mem_nil⟩⟩⟩⟩⟩⟩⟩⟩⟩⟩⟩⟩⟩⟩⟩⟩
theorem lw_p16 : lw_okq (⟨"FirstSeconds$Quake", "hears", "(I)Z"⟩, 6) := ⟨⟨by decide +kernel, by decide +kernel⟩, List.mem_of_getElem? (i := 391) (by decide +kernel), List.mem_of_getElem? (i := 389) (by decide +kernel), List.mem_of_getElem? (i := 390) (by decide +kernel)⟩
theorem lw_p17 : lw_okq (⟨"FirstSeconds", "heapOf", "(I)LFirstSeconds$Heap;"⟩, 14) := ⟨⟨by decide +kernel, by decide +kernel⟩, List.mem_of_getElem? (i := 22) (by decide +kernel), List.mem_of_getElem? (i := 394) (by decide +kernel), List.mem_of_getElem? (i := 395) (by decide +kernel)⟩
theorem lw_p18 : lw_okq (⟨"FirstSeconds", "fillHeap", "(LFirstSeconds$Quake;II)V"⟩, 14) := ⟨⟨by decide +kernel, by decide +kernel⟩, List.mem_of_getElem? (i := 22) (by decide +kernel), List.mem_of_getElem? (i := 398) (by decide +kernel), List.mem_of_getElem? (i := 399) (by decide +kernel)⟩
theorem lw_p19 : lw_okq (⟨"FirstSeconds$Heap", "clear", "()V"⟩, 6) := ⟨⟨by decide +kernel, by decide +kernel⟩, List.mem_of_getElem? (i := 74) (by decide +kernel), List.mem_of_getElem? (i := 402) (by decide +kernel), List.mem_of_getElem? (i := 403) (by decide +kernel)⟩
theorem lw_p20 : lw_okq (⟨"FirstSeconds$Heap", "narrow", "(LFirstSeconds$Travels;III)V"⟩, 6) := ⟨⟨by decide +kernel, by decide +kernel⟩, List.mem_of_getElem? (i := 74) (by decide +kernel), List.mem_of_getElem? (i := 408) (by decide +kernel), List.mem_of_getElem? (i := 409) (by decide +kernel)⟩
theorem lw_p21 : lw_okq (⟨"FirstSeconds$Heap", "countCells", "()V"⟩, 6) := ⟨⟨by decide +kernel, by decide +kernel⟩, List.mem_of_getElem? (i := 74) (by decide +kernel), List.mem_of_getElem? (i := 415) (by decide +kernel), List.mem_of_getElem? (i := 416) (by decide +kernel)⟩
theorem lw_p22 : lw_okq (⟨"FirstSeconds$Heap", "has", "(I)Z"⟩, 6) := ⟨⟨by decide +kernel, by decide +kernel⟩, List.mem_of_getElem? (i := 74) (by decide +kernel), List.mem_of_getElem? (i := 419) (by decide +kernel), List.mem_of_getElem? (i := 420) (by decide +kernel)⟩
theorem lw_p23 : lw_okq (⟨"FirstSeconds$Heap", "measure", "(LFirstSeconds$Travels;II)V"⟩, 6) := ⟨⟨by decide +kernel, by decide +kernel⟩, List.mem_of_getElem? (i := 74) (by decide +kernel), List.mem_of_getElem? (i := 423) (by decide +kernel), List.mem_of_getElem? (i := 424) (by decide +kernel)⟩
theorem lw_p24 : lw_okq (⟨"FirstSeconds$Quake", "hear", "(II)V"⟩, 6) := ⟨⟨by decide +kernel, by decide +kernel⟩, List.mem_of_getElem? (i := 391) (by decide +kernel), List.mem_of_getElem? (i := 434) (by decide +kernel), List.mem_of_getElem? (i := 435) (by decide +kernel)⟩
theorem lw_p25 : lw_okq (⟨"FirstSeconds", "isPick", "(I)Z"⟩, 14) := ⟨⟨by decide +kernel, by decide +kernel⟩, List.mem_of_getElem? (i := 22) (by decide +kernel), List.mem_of_getElem? (i := 497) (by decide +kernel), List.mem_of_getElem? (i := 498) (by decide +kernel)⟩
theorem lw_p26 : lw_okq (⟨"FirstSeconds$Pick", "is", "(I)Z"⟩, 5) := ⟨⟨by decide +kernel, by decide +kernel⟩, List.mem_of_getElem? (i := 438) (by decide +kernel), List.mem_of_getElem? (i := 505) (by decide +kernel), List.mem_of_getElem? (i := 506) (by decide +kernel)⟩
theorem lw_p27 : lw_okq (⟨"FirstSeconds", "isQuake", "(I)Z"⟩, 14) := ⟨⟨by decide +kernel, by decide +kernel⟩, List.mem_of_getElem? (i := 22) (by decide +kernel), List.mem_of_getElem? (i := 513) (by decide +kernel), List.mem_of_getElem? (i := 514) (by decide +kernel)⟩
theorem lw_p28 : lw_okq (⟨"FirstSeconds", "isOver", "(I)Z"⟩, 14) := ⟨⟨by decide +kernel, by decide +kernel⟩, List.mem_of_getElem? (i := 22) (by decide +kernel), List.mem_of_getElem? (i := 517) (by decide +kernel), List.mem_of_getElem? (i := 518) (by decide +kernel)⟩
theorem lw_p29 : lw_okq (⟨"FirstSeconds$Heap", "cellAt", "(I)I"⟩, 6) := ⟨⟨by decide +kernel, by decide +kernel⟩, List.mem_of_getElem? (i := 74) (by decide +kernel), List.mem_of_getElem? (i := 525) (by decide +kernel), List.mem_of_getElem? (i := 526) (by decide +kernel)⟩
theorem lw_p30 : lw_okq (⟨"FirstSeconds", "isTown", "(I)Z"⟩, 14) := ⟨⟨by decide +kernel, by decide +kernel⟩, List.mem_of_getElem? (i := 22) (by decide +kernel), List.mem_of_getElem? (i := 542) (by decide +kernel), List.mem_of_getElem? (i := 543) (by decide +kernel)⟩
theorem lw_p31 : lw_okq (⟨"FirstSeconds", "feltIn", "(II)I"⟩, 14) := ⟨⟨by decide +kernel, by decide +kernel⟩, List.mem_of_getElem? (i := 22) (by decide +kernel), List.mem_of_getElem? (i := 546) (by decide +kernel), List.mem_of_getElem? (i := 547) (by decide +kernel)⟩
def lw_privs_2 : List (MethodName × Nat) := [(⟨"FirstSeconds$Quake", "hears", "(I)Z"⟩, 6), (⟨"FirstSeconds", "heapOf", "(I)LFirstSeconds$Heap;"⟩, 14), (⟨"FirstSeconds", "fillHeap", "(LFirstSeconds$Quake;II)V"⟩, 14), (⟨"FirstSeconds$Heap", "clear", "()V"⟩, 6), (⟨"FirstSeconds$Heap", "narrow", "(LFirstSeconds$Travels;III)V"⟩, 6), (⟨"FirstSeconds$Heap", "countCells", "()V"⟩, 6), (⟨"FirstSeconds$Heap", "has", "(I)Z"⟩, 6), (⟨"FirstSeconds$Heap", "measure", "(LFirstSeconds$Travels;II)V"⟩, 6), (⟨"FirstSeconds$Quake", "hear", "(II)V"⟩, 6), (⟨"FirstSeconds", "isPick", "(I)Z"⟩, 14), (⟨"FirstSeconds$Pick", "is", "(I)Z"⟩, 5), (⟨"FirstSeconds", "isQuake", "(I)Z"⟩, 14), (⟨"FirstSeconds", "isOver", "(I)Z"⟩, 14), (⟨"FirstSeconds$Heap", "cellAt", "(I)I"⟩, 6), (⟨"FirstSeconds", "isTown", "(I)Z"⟩, 14), (⟨"FirstSeconds", "feltIn", "(II)I"⟩, 14)]
theorem lw_r2 : ∀ q ∈ lw_privs_2, lw_okq q := List.forall_mem_cons.mpr ⟨lw_p16, List.forall_mem_cons.mpr ⟨lw_p17, List.forall_mem_cons.mpr ⟨lw_p18, List.forall_mem_cons.mpr ⟨lw_p19, List.forall_mem_cons.mpr ⟨lw_p20, List.forall_mem_cons.mpr ⟨lw_p21, List.forall_mem_cons.mpr ⟨lw_p22, List.forall_mem_cons.mpr ⟨lw_p23, List.forall_mem_cons.mpr ⟨lw_p24, List.forall_mem_cons.mpr ⟨lw_p25, List.forall_mem_cons.mpr ⟨lw_p26, List.forall_mem_cons.mpr ⟨lw_p27, List.forall_mem_cons.mpr ⟨lw_p28, List.forall_mem_cons.mpr ⟨lw_p29, List.forall_mem_cons.mpr ⟨lw_p30, List.forall_mem_cons.mpr ⟨lw_p31, fun _ h => absurd h List.not_mem_nil⟩⟩⟩⟩⟩⟩⟩⟩⟩⟩⟩⟩⟩⟩⟩⟩
theorem lw_p32 : lw_okq (⟨"FirstSeconds", "takeBack", "(II)I"⟩, 14) := ⟨⟨by decide +kernel, by decide +kernel⟩, List.mem_of_getElem? (i := 22) (by decide +kernel), List.mem_of_getElem? (i := 560) (by decide +kernel), List.mem_of_getElem? (i := 561) (by decide +kernel)⟩
theorem lw_p33 : lw_okq (⟨"FirstSeconds$Quake", "wasTold", "(II)Z"⟩, 6) := ⟨⟨by decide +kernel, by decide +kernel⟩, List.mem_of_getElem? (i := 391) (by decide +kernel), List.mem_of_getElem? (i := 564) (by decide +kernel), List.mem_of_getElem? (i := 565) (by decide +kernel)⟩
theorem lw_p34 : lw_okq (⟨"FirstSeconds$Quake", "wasTakenBack", "(II)Z"⟩, 6) := ⟨⟨by decide +kernel, by decide +kernel⟩, List.mem_of_getElem? (i := 391) (by decide +kernel), List.mem_of_getElem? (i := 568) (by decide +kernel), List.mem_of_getElem? (i := 569) (by decide +kernel)⟩
theorem lw_p35 : lw_okq (⟨"FirstSeconds$Quake", "takeBack", "(II)V"⟩, 6) := ⟨⟨by decide +kernel, by decide +kernel⟩, List.mem_of_getElem? (i := 391) (by decide +kernel), List.mem_of_getElem? (i := 572) (by decide +kernel), List.mem_of_getElem? (i := 573) (by decide +kernel)⟩
theorem lw_p36 : lw_okq (⟨"FirstSeconds", "send", "(III)V"⟩, 14) := ⟨⟨by decide +kernel, by decide +kernel⟩, List.mem_of_getElem? (i := 22) (by decide +kernel), List.mem_of_getElem? (i := 576) (by decide +kernel), List.mem_of_getElem? (i := 577) (by decide +kernel)⟩
theorem lw_p37 : lw_okq (⟨"FirstSeconds", "tellFelt", "(II)I"⟩, 14) := ⟨⟨by decide +kernel, by decide +kernel⟩, List.mem_of_getElem? (i := 22) (by decide +kernel), List.mem_of_getElem? (i := 603) (by decide +kernel), List.mem_of_getElem? (i := 604) (by decide +kernel)⟩
theorem lw_p38 : lw_okq (⟨"FirstSeconds$Quake", "tell", "(II)V"⟩, 6) := ⟨⟨by decide +kernel, by decide +kernel⟩, List.mem_of_getElem? (i := 391) (by decide +kernel), List.mem_of_getElem? (i := 607) (by decide +kernel), List.mem_of_getElem? (i := 608) (by decide +kernel)⟩
theorem lw_p39 : lw_okq (⟨"FirstSeconds", "latestArrival", "(II)I"⟩, 14) := ⟨⟨by decide +kernel, by decide +kernel⟩, List.mem_of_getElem? (i := 22) (by decide +kernel), List.mem_of_getElem? (i := 627) (by decide +kernel), List.mem_of_getElem? (i := 628) (by decide +kernel)⟩
theorem lw_p40 : lw_okq (⟨"FirstSeconds", "earliestArrival", "(II)I"⟩, 14) := ⟨⟨by decide +kernel, by decide +kernel⟩, List.mem_of_getElem? (i := 22) (by decide +kernel), List.mem_of_getElem? (i := 632) (by decide +kernel), List.mem_of_getElem? (i := 633) (by decide +kernel)⟩
theorem lw_p41 : lw_okq (⟨"FirstSecondsModel", "isStation", "(I)Z"⟩, 27) := ⟨⟨by decide +kernel, by decide +kernel⟩, List.mem_of_getElem? (i := 672) (by decide +kernel), List.mem_of_getElem? (i := 783) (by decide +kernel), List.mem_of_getElem? (i := 784) (by decide +kernel)⟩
theorem lw_p42 : lw_okq (⟨"FirstSecondsModel", "travels", "(II)I"⟩, 27) := ⟨⟨by decide +kernel, by decide +kernel⟩, List.mem_of_getElem? (i := 672) (by decide +kernel), List.mem_of_getElem? (i := 791) (by decide +kernel), List.mem_of_getElem? (i := 792) (by decide +kernel)⟩
theorem lw_p43 : lw_okq (⟨"FirstSecondsModel", "meets", "(I)I"⟩, 27) := ⟨⟨by decide +kernel, by decide +kernel⟩, List.mem_of_getElem? (i := 672) (by decide +kernel), List.mem_of_getElem? (i := 804) (by decide +kernel), List.mem_of_getElem? (i := 805) (by decide +kernel)⟩
theorem lw_p44 : lw_okq (⟨"FirstSecondsModel", "sumOf", "(III)J"⟩, 27) := ⟨⟨by decide +kernel, by decide +kernel⟩, List.mem_of_getElem? (i := 672) (by decide +kernel), List.mem_of_getElem? (i := 825) (by decide +kernel), List.mem_of_getElem? (i := 826) (by decide +kernel)⟩
theorem lw_p45 : lw_okq (⟨"FirstSecondsModel", "hears", "(II)Z"⟩, 27) := ⟨⟨by decide +kernel, by decide +kernel⟩, List.mem_of_getElem? (i := 672) (by decide +kernel), List.mem_of_getElem? (i := 838) (by decide +kernel), List.mem_of_getElem? (i := 839) (by decide +kernel)⟩
theorem lw_p46 : lw_okq (⟨"FirstSecondsModel", "setHeap", "(I)I"⟩, 27) := ⟨⟨by decide +kernel, by decide +kernel⟩, List.mem_of_getElem? (i := 672) (by decide +kernel), List.mem_of_getElem? (i := 842) (by decide +kernel), List.mem_of_getElem? (i := 843) (by decide +kernel)⟩
theorem lw_p47 : lw_okq (⟨"FirstSecondsModel", "isPick", "(I)Z"⟩, 27) := ⟨⟨by decide +kernel, by decide +kernel⟩, List.mem_of_getElem? (i := 672) (by decide +kernel), List.mem_of_getElem? (i := 852) (by decide +kernel), List.mem_of_getElem? (i := 853) (by decide +kernel)⟩
def lw_privs_3 : List (MethodName × Nat) := [(⟨"FirstSeconds", "takeBack", "(II)I"⟩, 14), (⟨"FirstSeconds$Quake", "wasTold", "(II)Z"⟩, 6), (⟨"FirstSeconds$Quake", "wasTakenBack", "(II)Z"⟩, 6), (⟨"FirstSeconds$Quake", "takeBack", "(II)V"⟩, 6), (⟨"FirstSeconds", "send", "(III)V"⟩, 14), (⟨"FirstSeconds", "tellFelt", "(II)I"⟩, 14), (⟨"FirstSeconds$Quake", "tell", "(II)V"⟩, 6), (⟨"FirstSeconds", "latestArrival", "(II)I"⟩, 14), (⟨"FirstSeconds", "earliestArrival", "(II)I"⟩, 14), (⟨"FirstSecondsModel", "isStation", "(I)Z"⟩, 27), (⟨"FirstSecondsModel", "travels", "(II)I"⟩, 27), (⟨"FirstSecondsModel", "meets", "(I)I"⟩, 27), (⟨"FirstSecondsModel", "sumOf", "(III)J"⟩, 27), (⟨"FirstSecondsModel", "hears", "(II)Z"⟩, 27), (⟨"FirstSecondsModel", "setHeap", "(I)I"⟩, 27), (⟨"FirstSecondsModel", "isPick", "(I)Z"⟩, 27)]
theorem lw_r3 : ∀ q ∈ lw_privs_3, lw_okq q := List.forall_mem_cons.mpr ⟨lw_p32, List.forall_mem_cons.mpr ⟨lw_p33, List.forall_mem_cons.mpr ⟨lw_p34, List.forall_mem_cons.mpr ⟨lw_p35, List.forall_mem_cons.mpr ⟨lw_p36, List.forall_mem_cons.mpr ⟨lw_p37, List.forall_mem_cons.mpr ⟨lw_p38, List.forall_mem_cons.mpr ⟨lw_p39, List.forall_mem_cons.mpr ⟨lw_p40, List.forall_mem_cons.mpr ⟨lw_p41, List.forall_mem_cons.mpr ⟨lw_p42, List.forall_mem_cons.mpr ⟨lw_p43, List.forall_mem_cons.mpr ⟨lw_p44, List.forall_mem_cons.mpr ⟨lw_p45, List.forall_mem_cons.mpr ⟨lw_p46, List.forall_mem_cons.mpr ⟨lw_p47, fun _ h => absurd h List.not_mem_nil⟩⟩⟩⟩⟩⟩⟩⟩⟩⟩⟩⟩⟩⟩⟩⟩
theorem lw_p48 : lw_okq (⟨"FirstSecondsModel", "tells", "(II)I"⟩, 27) := ⟨⟨by decide +kernel, by decide +kernel⟩, List.mem_of_getElem? (i := 672) (by decide +kernel), List.mem_of_getElem? (i := 856) (by decide +kernel), List.mem_of_getElem? (i := 857) (by decide +kernel)⟩
theorem lw_p49 : lw_okq (⟨"FirstSecondsModel", "kindOf", "(I)I"⟩, 27) := ⟨⟨by decide +kernel, by decide +kernel⟩, List.mem_of_getElem? (i := 672) (by decide +kernel), List.mem_of_getElem? (i := 860) (by decide +kernel), List.mem_of_getElem? (i := 861) (by decide +kernel)⟩
theorem lw_p50 : lw_okq (⟨"FirstSecondsModel", "isQuake", "(I)Z"⟩, 27) := ⟨⟨by decide +kernel, by decide +kernel⟩, List.mem_of_getElem? (i := 672) (by decide +kernel), List.mem_of_getElem? (i := 872) (by decide +kernel), List.mem_of_getElem? (i := 873) (by decide +kernel)⟩
theorem lw_p51 : lw_okq (⟨"FirstSecondsModel", "tellsQuake", "(II)I"⟩, 27) := ⟨⟨by decide +kernel, by decide +kernel⟩, List.mem_of_getElem? (i := 672) (by decide +kernel), List.mem_of_getElem? (i := 876) (by decide +kernel), List.mem_of_getElem? (i := 877) (by decide +kernel)⟩
theorem lw_p52 : lw_okq (⟨"FirstSecondsModel", "sizeOf", "(IZ)I"⟩, 27) := ⟨⟨by decide +kernel, by decide +kernel⟩, List.mem_of_getElem? (i := 672) (by decide +kernel), List.mem_of_getElem? (i := 880) (by decide +kernel), List.mem_of_getElem? (i := 881) (by decide +kernel)⟩
theorem lw_p53 : lw_okq (⟨"FirstSecondsModel", "has", "(I)Z"⟩, 27) := ⟨⟨by decide +kernel, by decide +kernel⟩, List.mem_of_getElem? (i := 672) (by decide +kernel), List.mem_of_getElem? (i := 884) (by decide +kernel), List.mem_of_getElem? (i := 885) (by decide +kernel)⟩
theorem lw_p54 : lw_okq (⟨"FirstSecondsModel", "sizeAt", "(II)I"⟩, 27) := ⟨⟨by decide +kernel, by decide +kernel⟩, List.mem_of_getElem? (i := 672) (by decide +kernel), List.mem_of_getElem? (i := 888) (by decide +kernel), List.mem_of_getElem? (i := 889) (by decide +kernel)⟩
theorem lw_p55 : lw_okq (⟨"FirstSecondsModel", "areTownAndQuake", "(II)Z"⟩, 27) := ⟨⟨by decide +kernel, by decide +kernel⟩, List.mem_of_getElem? (i := 672) (by decide +kernel), List.mem_of_getElem? (i := 911) (by decide +kernel), List.mem_of_getElem? (i := 912) (by decide +kernel)⟩
theorem lw_p56 : lw_okq (⟨"FirstSecondsModel", "isTown", "(I)Z"⟩, 27) := ⟨⟨by decide +kernel, by decide +kernel⟩, List.mem_of_getElem? (i := 672) (by decide +kernel), List.mem_of_getElem? (i := 915) (by decide +kernel), List.mem_of_getElem? (i := 916) (by decide +kernel)⟩
theorem lw_p57 : lw_okq (⟨"FirstSecondsModel", "feels", "(II)I"⟩, 27) := ⟨⟨by decide +kernel, by decide +kernel⟩, List.mem_of_getElem? (i := 672) (by decide +kernel), List.mem_of_getElem? (i := 919) (by decide +kernel), List.mem_of_getElem? (i := 920) (by decide +kernel)⟩
theorem lw_p58 : lw_okq (⟨"FirstSecondsModel", "say", "(III)V"⟩, 27) := ⟨⟨by decide +kernel, by decide +kernel⟩, List.mem_of_getElem? (i := 672) (by decide +kernel), List.mem_of_getElem? (i := 931) (by decide +kernel), List.mem_of_getElem? (i := 932) (by decide +kernel)⟩
theorem lw_p59 : lw_okq (⟨"FirstSecondsModel", "comes", "(IZ)I"⟩, 27) := ⟨⟨by decide +kernel, by decide +kernel⟩, List.mem_of_getElem? (i := 672) (by decide +kernel), List.mem_of_getElem? (i := 951) (by decide +kernel), List.mem_of_getElem? (i := 952) (by decide +kernel)⟩
def lw_privs_4 : List (MethodName × Nat) := [(⟨"FirstSecondsModel", "tells", "(II)I"⟩, 27), (⟨"FirstSecondsModel", "kindOf", "(I)I"⟩, 27), (⟨"FirstSecondsModel", "isQuake", "(I)Z"⟩, 27), (⟨"FirstSecondsModel", "tellsQuake", "(II)I"⟩, 27), (⟨"FirstSecondsModel", "sizeOf", "(IZ)I"⟩, 27), (⟨"FirstSecondsModel", "has", "(I)Z"⟩, 27), (⟨"FirstSecondsModel", "sizeAt", "(II)I"⟩, 27), (⟨"FirstSecondsModel", "areTownAndQuake", "(II)Z"⟩, 27), (⟨"FirstSecondsModel", "isTown", "(I)Z"⟩, 27), (⟨"FirstSecondsModel", "feels", "(II)I"⟩, 27), (⟨"FirstSecondsModel", "say", "(III)V"⟩, 27), (⟨"FirstSecondsModel", "comes", "(IZ)I"⟩, 27)]
theorem lw_r4 : ∀ q ∈ lw_privs_4, lw_okq q := List.forall_mem_cons.mpr ⟨lw_p48, List.forall_mem_cons.mpr ⟨lw_p49, List.forall_mem_cons.mpr ⟨lw_p50, List.forall_mem_cons.mpr ⟨lw_p51, List.forall_mem_cons.mpr ⟨lw_p52, List.forall_mem_cons.mpr ⟨lw_p53, List.forall_mem_cons.mpr ⟨lw_p54, List.forall_mem_cons.mpr ⟨lw_p55, List.forall_mem_cons.mpr ⟨lw_p56, List.forall_mem_cons.mpr ⟨lw_p57, List.forall_mem_cons.mpr ⟨lw_p58, List.forall_mem_cons.mpr ⟨lw_p59, fun _ h => absurd h List.not_mem_nil⟩⟩⟩⟩⟩⟩⟩⟩⟩⟩⟩⟩
def lw_privs : List (MethodName × Nat) := lw_privs_1 ++ (lw_privs_2 ++ (lw_privs_3 ++ (lw_privs_4)))
def lw_tbl : List Cond := k2_sels lw_privs ++ tables_1
theorem lw_privs_ok : ∀ q ∈ lw_privs, lw_okq q := by
  show ∀ q ∈ lw_privs_1 ++ (lw_privs_2 ++ (lw_privs_3 ++ (lw_privs_4))), lw_okq q
  exact List.forall_mem_append.mpr ⟨lw_r1, List.forall_mem_append.mpr ⟨lw_r2, List.forall_mem_append.mpr ⟨lw_r3, lw_r4⟩⟩⟩
end
section
def RX0 : String := "FirstSeconds$Heap"
def TX0 : u_T := fun k => match k with
  | 0 => ("FirstSeconds$Heap", "first", "[I", true)
  | 1 => ("FirstSeconds$Heap", "last", "[I", true)
  | 2 => ("FirstSeconds$Heap", "cells", "I", false)
  | 3 => ("FirstSeconds$Heap", "low", "I", false)
  | 4 => ("FirstSeconds$Heap", "high", "I", false)
  | _ => ("FirstSeconds$Heap", "quake", "I", false)
def tyX0 : Nat → FieldType := fun k => match k with
  | 0 => .array .int
  | 1 => .array .int
  | 2 => .int
  | 3 => .int
  | 4 => .int
  | _ => .int
abbrev wsX00 : List Cond := u_ws RX0 TX0 6
theorem nmX0 : ∀ a, a < 6 → ∀ b, b < 6 → a ≠ b → (TX0 a).2.1 ≠ (TX0 b).2.1 := by decide +kernel
theorem tyX0_ok : ∀ k, k < 6 → parseFieldDescriptor (TX0 k).2.2.1 = some (tyX0 k) := by decide +kernel
abbrev cX0_init : ByteArray := prog_2_method_1_code
def yX0_init : MethodName := ⟨RX0, "<init>", "()V"⟩
abbrev cX0_forget : ByteArray := prog_2_method_2_code
def yX0_forget : MethodName := ⟨RX0, "forget", "()V"⟩
abbrev cX0_clear : ByteArray := prog_2_method_3_code
def yX0_clear : MethodName := ⟨RX0, "clear", "()V"⟩
abbrev cX0_narrow : ByteArray := prog_2_method_4_code
def yX0_narrow : MethodName := ⟨RX0, "narrow", "(LFirstSeconds$Travels;III)V"⟩
abbrev cX0_countCells : ByteArray := prog_2_method_5_code
def yX0_countCells : MethodName := ⟨RX0, "countCells", "()V"⟩
abbrev cX0_measure : ByteArray := prog_2_method_6_code
def yX0_measure : MethodName := ⟨RX0, "measure", "(LFirstSeconds$Travels;II)V"⟩
abbrev cX0_has : ByteArray := prog_2_method_7_code
def yX0_has : MethodName := ⟨RX0, "has", "(I)Z"⟩
abbrev cX0_cellAt : ByteArray := prog_2_method_8_code
def yX0_cellAt : MethodName := ⟨RX0, "cellAt", "(I)I"⟩
def RX1 : String := "FirstSeconds$Message"
def TX1 : u_T := fun k => match k with
  | 0 => ("FirstSeconds$Message", "town", "I", true)
  | 1 => ("FirstSeconds$Message", "quake", "I", true)
  | 2 => ("FirstSeconds$Message", "level", "I", true)
  | _ => ("FirstSeconds$Message", "tick", "I", true)
def tyX1 : Nat → FieldType := fun k => match k with
  | 0 => .int
  | 1 => .int
  | 2 => .int
  | _ => .int
abbrev wsX10 : List Cond := u_ws RX1 TX1 4
theorem nmX1 : ∀ a, a < 4 → ∀ b, b < 4 → a ≠ b → (TX1 a).2.1 ≠ (TX1 b).2.1 := by decide +kernel
theorem tyX1_ok : ∀ k, k < 4 → parseFieldDescriptor (TX1 k).2.2.1 = some (tyX1 k) := by decide +kernel
abbrev cX1_init : ByteArray := prog_3_method_1_code
def yX1_init : MethodName := ⟨RX1, "<init>", "(IIII)V"⟩
def RX2 : String := "FirstSeconds$Pick"
def TX2 : u_T := fun k => match k with
  | 0 => ("FirstSeconds$Pick", "station", "I", true)
  | 1 => ("FirstSeconds$Pick", "tick", "I", true)
  | 2 => ("FirstSeconds$Pick", "strength", "I", true)
  | 3 => ("FirstSeconds$Pick", "kind", "I", true)
  | _ => ("FirstSeconds$Pick", "quake", "I", true)
def tyX2 : Nat → FieldType := fun k => match k with
  | 0 => .int
  | 1 => .int
  | 2 => .int
  | 3 => .int
  | _ => .int
abbrev wsX20 : List Cond := u_ws RX2 TX2 5
theorem nmX2 : ∀ a, a < 5 → ∀ b, b < 5 → a ≠ b → (TX2 a).2.1 ≠ (TX2 b).2.1 := by decide +kernel
theorem tyX2_ok : ∀ k, k < 5 → parseFieldDescriptor (TX2 k).2.2.1 = some (tyX2 k) := by decide +kernel
abbrev cX2_init : ByteArray := prog_4_method_1_code
def yX2_init : MethodName := ⟨RX2, "<init>", "(IIIII)V"⟩
abbrev cX2_is : ByteArray := prog_4_method_2_code
def yX2_is : MethodName := ⟨RX2, "is", "(I)Z"⟩
def RX3 : String := "FirstSeconds$Quake"
def TX3 : u_T := fun k => match k with
  | 0 => ("FirstSeconds$Quake", "firstStation", "I", true)
  | 1 => ("FirstSeconds$Quake", "firstStrength", "I", true)
  | 2 => ("FirstSeconds$Quake", "ticks", "[I", true)
  | 3 => ("FirstSeconds$Quake", "heard", "I", false)
  | 4 => ("FirstSeconds$Quake", "told", "[I", true)
  | _ => ("FirstSeconds$Quake", "takenBack", "[I", true)
def tyX3 : Nat → FieldType := fun k => match k with
  | 0 => .int
  | 1 => .int
  | 2 => .array .int
  | 3 => .int
  | 4 => .array .int
  | _ => .array .int
abbrev wsX30 : List Cond := u_ws RX3 TX3 6
theorem nmX3 : ∀ a, a < 6 → ∀ b, b < 6 → a ≠ b → (TX3 a).2.1 ≠ (TX3 b).2.1 := by decide +kernel
theorem tyX3_ok : ∀ k, k < 6 → parseFieldDescriptor (TX3 k).2.2.1 = some (tyX3 k) := by decide +kernel
abbrev cX3_init : ByteArray := prog_5_method_1_code
def yX3_init : MethodName := ⟨RX3, "<init>", "(III)V"⟩
abbrev cX3_hears : ByteArray := prog_5_method_2_code
def yX3_hears : MethodName := ⟨RX3, "hears", "(I)Z"⟩
abbrev cX3_hear : ByteArray := prog_5_method_3_code
def yX3_hear : MethodName := ⟨RX3, "hear", "(II)V"⟩
abbrev cX3_wasTold : ByteArray := prog_5_method_4_code
def yX3_wasTold : MethodName := ⟨RX3, "wasTold", "(II)Z"⟩
abbrev cX3_wasTakenBack : ByteArray := prog_5_method_5_code
def yX3_wasTakenBack : MethodName := ⟨RX3, "wasTakenBack", "(II)Z"⟩
abbrev cX3_tell : ByteArray := prog_5_method_6_code
def yX3_tell : MethodName := ⟨RX3, "tell", "(II)V"⟩
abbrev cX3_takeBack : ByteArray := prog_5_method_7_code
def yX3_takeBack : MethodName := ⟨RX3, "takeBack", "(II)V"⟩
def RX4 : String := "FirstSeconds$Row"
def TX4 : u_T := fun k => match k with
  | 0 => ("FirstSeconds$Row", "readings", "[I", true)
  | _ => ("FirstSeconds$Row", "size", "I", false)
def tyX4 : Nat → FieldType := fun k => match k with
  | 0 => .array .int
  | _ => .int
abbrev wsX40 : List Cond := u_ws RX4 TX4 2
theorem nmX4 : ∀ a, a < 2 → ∀ b, b < 2 → a ≠ b → (TX4 a).2.1 ≠ (TX4 b).2.1 := by decide +kernel
theorem tyX4_ok : ∀ k, k < 2 → parseFieldDescriptor (TX4 k).2.2.1 = some (tyX4 k) := by decide +kernel
abbrev cX4_init : ByteArray := prog_6_method_1_code
def yX4_init : MethodName := ⟨RX4, "<init>", "()V"⟩
abbrev cX4_isMissing : ByteArray := prog_6_method_2_code
def yX4_isMissing : MethodName := ⟨RX4, "isMissing", "()Z"⟩
abbrev cX4_begin : ByteArray := prog_6_method_3_code
def yX4_begin : MethodName := ⟨RX4, "begin", "(I)V"⟩
abbrev cX4_has : ByteArray := prog_6_method_4_code
def yX4_has : MethodName := ⟨RX4, "has", "(II)Z"⟩
abbrev cX4_sizes : ByteArray := prog_6_method_5_code
def yX4_sizes : MethodName := ⟨RX4, "sizes", "(II)J"⟩
abbrev cX4_firstPick : ByteArray := prog_6_method_6_code
def yX4_firstPick : MethodName := ⟨RX4, "firstPick", "(IIII)I"⟩
def RX5 : String := "FirstSeconds$Station"
def TX5 : u_T := fun k => match k with
  | 0 => ("FirstSeconds$Station", "cell", "I", true)
  | 1 => ("FirstSeconds$Station", "row", "LFirstSeconds$Row;", true)
  | _ => ("FirstSeconds$Station", "deaf", "Z", false)
def tyX5 : Nat → FieldType := fun k => match k with
  | 0 => .int
  | 1 => .object "FirstSeconds$Row"
  | _ => .boolean
abbrev wsX50 : List Cond := u_ws RX5 TX5 3
theorem nmX5 : ∀ a, a < 3 → ∀ b, b < 3 → a ≠ b → (TX5 a).2.1 ≠ (TX5 b).2.1 := by decide +kernel
theorem tyX5_ok : ∀ k, k < 3 → parseFieldDescriptor (TX5 k).2.2.1 = some (tyX5 k) := by decide +kernel
abbrev cX5_init : ByteArray := prog_7_method_1_code
def yX5_init : MethodName := ⟨RX5, "<init>", "(I)V"⟩
def RX6 : String := "FirstSeconds$Town"
def TX6 : u_T := fun k => match k with
  | _ => ("FirstSeconds$Town", "cell", "I", true)
def tyX6 : Nat → FieldType := fun k => match k with
  | _ => .int
abbrev wsX60 : List Cond := u_ws RX6 TX6 1
theorem nmX6 : ∀ a, a < 1 → ∀ b, b < 1 → a ≠ b → (TX6 a).2.1 ≠ (TX6 b).2.1 := by decide +kernel
theorem tyX6_ok : ∀ k, k < 1 → parseFieldDescriptor (TX6 k).2.2.1 = some (tyX6 k) := by decide +kernel
abbrev cX6_init : ByteArray := prog_8_method_1_code
def yX6_init : MethodName := ⟨RX6, "<init>", "(I)V"⟩
def RX7 : String := "FirstSeconds$Travels"
def TX7 : u_T := fun k => match k with
  | _ => ("FirstSeconds$Travels", "ticks", "[I", true)
def tyX7 : Nat → FieldType := fun k => match k with
  | _ => .array .int
abbrev wsX70 : List Cond := u_ws RX7 TX7 1
theorem nmX7 : ∀ a, a < 1 → ∀ b, b < 1 → a ≠ b → (TX7 a).2.1 ≠ (TX7 b).2.1 := by decide +kernel
theorem tyX7_ok : ∀ k, k < 1 → parseFieldDescriptor (TX7 k).2.2.1 = some (tyX7 k) := by decide +kernel
abbrev cX7_init : ByteArray := prog_9_method_1_code
def yX7_init : MethodName := ⟨RX7, "<init>", "(I)V"⟩
abbrev cX7_reckon : ByteArray := prog_9_method_2_code
def yX7_reckon : MethodName := ⟨RX7, "reckon", "(I)V"⟩
abbrev cX7_between : ByteArray := prog_9_method_3_code
def yX7_between : MethodName := ⟨RX7, "between", "(II)I"⟩
abbrev cX7_root : ByteArray := prog_9_method_4_code
def yX7_root : MethodName := ⟨RX7, "root", "(I)I"⟩
def RX8 : String := "FirstSeconds"
def TX8 : u_T := fun k => match k with
  | 0 => ("FirstSeconds", "travels", "LFirstSeconds$Travels;", true)
  | 1 => ("FirstSeconds", "stations", "Ljava/util/ArrayList;", true)
  | 2 => ("FirstSeconds", "towns", "Ljava/util/ArrayList;", true)
  | 3 => ("FirstSeconds", "picks", "Ljava/util/ArrayList;", true)
  | 4 => ("FirstSeconds", "quakes", "Ljava/util/ArrayList;", true)
  | 5 => ("FirstSeconds", "kept", "Ljava/util/ArrayList;", true)
  | 6 => ("FirstSeconds", "heap", "LFirstSeconds$Heap;", true)
  | 7 => ("FirstSeconds", "needs", "[I", true)
  | 8 => ("FirstSeconds", "answered", "[I", true)
  | 9 => ("FirstSeconds", "latestFinding", "I", false)
  | 10 => ("FirstSeconds", "now", "I", false)
  | 11 => ("FirstSeconds", "error", "I", false)
  | 12 => ("FirstSeconds", "messages", "I", false)
  | _ => ("FirstSeconds", "latestAsked", "I", false)
def tyX8 : Nat → FieldType := fun k => match k with
  | 0 => .object "FirstSeconds$Travels"
  | 1 => .object "java/util/ArrayList"
  | 2 => .object "java/util/ArrayList"
  | 3 => .object "java/util/ArrayList"
  | 4 => .object "java/util/ArrayList"
  | 5 => .object "java/util/ArrayList"
  | 6 => .object "FirstSeconds$Heap"
  | 7 => .array .int
  | 8 => .array .int
  | 9 => .int
  | 10 => .int
  | 11 => .int
  | 12 => .int
  | _ => .int
abbrev wsX80 : List Cond := u_ws RX8 TX8 14
theorem nmX8 : ∀ a, a < 14 → ∀ b, b < 14 → a ≠ b → (TX8 a).2.1 ≠ (TX8 b).2.1 := by decide +kernel
theorem tyX8_ok : ∀ k, k < 14 → parseFieldDescriptor (TX8 k).2.2.1 = some (tyX8 k) := by decide +kernel
abbrev cX8_init : ByteArray := prog_1_method_1_code
def yX8_init : MethodName := ⟨RX8, "<init>", "()V"⟩
abbrev cX8_rule : ByteArray := prog_1_method_2_code
def yX8_rule : MethodName := ⟨RX8, "rule", "(II)I"⟩
abbrev cX8_station : ByteArray := prog_1_method_3_code
def yX8_station : MethodName := ⟨RX8, "station", "(I)I"⟩
abbrev cX8_town : ByteArray := prog_1_method_4_code
def yX8_town : MethodName := ⟨RX8, "town", "(I)I"⟩
abbrev cX8_deaf : ByteArray := prog_1_method_5_code
def yX8_deaf : MethodName := ⟨RX8, "deaf", "(IZ)I"⟩
abbrev cX8_travel : ByteArray := prog_1_method_6_code
def yX8_travel : MethodName := ⟨RX8, "travel", "(II)I"⟩
abbrev cX8_later : ByteArray := prog_1_method_7_code
def yX8_later : MethodName := ⟨RX8, "later", "(I)I"⟩
abbrev cX8_row : ByteArray := prog_1_method_8_code
def yX8_row : MethodName := ⟨RX8, "row", "(II)I"⟩
abbrev cX8_lay : ByteArray := prog_1_method_9_code
def yX8_lay : MethodName := ⟨RX8, "lay", "(III)I"⟩
abbrev cX8_tear : ByteArray := prog_1_method_10_code
def yX8_tear : MethodName := ⟨RX8, "tear", "(I)I"⟩
abbrev cX8_copy : ByteArray := prog_1_method_11_code
def yX8_copy : MethodName := ⟨RX8, "copy", "(IIIII)I"⟩
abbrev cX8_mean : ByteArray := prog_1_method_12_code
def yX8_mean : MethodName := ⟨RX8, "mean", "(I)I"⟩
abbrev cX8_first : ByteArray := prog_1_method_13_code
def yX8_first : MethodName := ⟨RX8, "first", "(IIIII)I"⟩
abbrev cX8_pick : ByteArray := prog_1_method_14_code
def yX8_pick : MethodName := ⟨RX8, "pick", "(III)I"⟩
abbrev cX8_told : ByteArray := prog_1_method_15_code
def yX8_told : MethodName := ⟨RX8, "told", "(II)I"⟩
abbrev cX8_mark : ByteArray := prog_1_method_16_code
def yX8_mark : MethodName := ⟨RX8, "mark", "(II)I"⟩
abbrev cX8_quake : ByteArray := prog_1_method_17_code
def yX8_quake : MethodName := ⟨RX8, "quake", "(II)I"⟩
abbrev cX8_cell : ByteArray := prog_1_method_18_code
def yX8_cell : MethodName := ⟨RX8, "cell", "(II)I"⟩
abbrev cX8_time : ByteArray := prog_1_method_19_code
def yX8_time : MethodName := ⟨RX8, "time", "(IIZ)I"⟩
abbrev cX8_holds : ByteArray := prog_1_method_20_code
def yX8_holds : MethodName := ⟨RX8, "holds", "(III)I"⟩
abbrev cX8_felt : ByteArray := prog_1_method_21_code
def yX8_felt : MethodName := ⟨RX8, "felt", "(II)I"⟩
abbrev cX8_level : ByteArray := prog_1_method_22_code
def yX8_level : MethodName := ⟨RX8, "level", "(II)I"⟩
abbrev cX8_warn : ByteArray := prog_1_method_23_code
def yX8_warn : MethodName := ⟨RX8, "warn", "()I"⟩
abbrev cX8_drill : ByteArray := prog_1_method_24_code
def yX8_drill : MethodName := ⟨RX8, "drill", "(II)I"⟩
abbrev cX8_message : ByteArray := prog_1_method_25_code
def yX8_message : MethodName := ⟨RX8, "message", "(II)I"⟩
abbrev cX8_alarm : ByteArray := prog_1_method_26_code
def yX8_alarm : MethodName := ⟨RX8, "alarm", "(II)I"⟩
abbrev cX8_late : ByteArray := prog_1_method_27_code
def yX8_late : MethodName := ⟨RX8, "late", "(II)I"⟩
abbrev cX8_left : ByteArray := prog_1_method_28_code
def yX8_left : MethodName := ⟨RX8, "left", "(II)I"⟩
abbrev cX8_asked : ByteArray := prog_1_method_29_code
def yX8_asked : MethodName := ⟨RX8, "asked", "()I"⟩
abbrev cX8_count : ByteArray := prog_1_method_30_code
def yX8_count : MethodName := ⟨RX8, "count", "(I)I"⟩
abbrev cX8_finding : ByteArray := prog_1_method_31_code
def yX8_finding : MethodName := ⟨RX8, "finding", "()I"⟩
abbrev cX8_findings : ByteArray := prog_1_method_32_code
def yX8_findings : MethodName := ⟨RX8, "findings", "(I)I"⟩
abbrev cX8_digest : ByteArray := prog_1_method_33_code
def yX8_digest : MethodName := ⟨RX8, "digest", "()J"⟩
abbrev cX8_isWithin : ByteArray := prog_1_method_34_code
def yX8_isWithin : MethodName := ⟨RX8, "isWithin", "(III)Z"⟩
abbrev cX8_isCell : ByteArray := prog_1_method_35_code
def yX8_isCell : MethodName := ⟨RX8, "isCell", "(I)Z"⟩
abbrev cX8_isStation : ByteArray := prog_1_method_36_code
def yX8_isStation : MethodName := ⟨RX8, "isStation", "(I)Z"⟩
abbrev cX8_isTown : ByteArray := prog_1_method_37_code
def yX8_isTown : MethodName := ⟨RX8, "isTown", "(I)Z"⟩
abbrev cX8_isPick : ByteArray := prog_1_method_38_code
def yX8_isPick : MethodName := ⟨RX8, "isPick", "(I)Z"⟩
abbrev cX8_isQuake : ByteArray := prog_1_method_39_code
def yX8_isQuake : MethodName := ⟨RX8, "isQuake", "(I)Z"⟩
abbrev cX8_rowOf : ByteArray := prog_1_method_40_code
def yX8_rowOf : MethodName := ⟨RX8, "rowOf", "(I)LFirstSeconds$Row;"⟩
abbrev cX8_found : ByteArray := prog_1_method_41_code
def yX8_found : MethodName := ⟨RX8, "found", "(I)I"⟩
abbrev cX8_bits : ByteArray := prog_1_method_42_code
def yX8_bits : MethodName := ⟨RX8, "bits", "(I)I"⟩
abbrev cX8_mixed : ByteArray := prog_1_method_43_code
def yX8_mixed : MethodName := ⟨RX8, "mixed", "(JI)J"⟩
abbrev cX8_mixedRow : ByteArray := prog_1_method_44_code
def yX8_mixedRow : MethodName := ⟨RX8, "mixedRow", "(JLFirstSeconds$Row;)J"⟩
abbrev cX8_takerOf : ByteArray := prog_1_method_45_code
def yX8_takerOf : MethodName := ⟨RX8, "takerOf", "(II)I"⟩
abbrev cX8_takes : ByteArray := prog_1_method_46_code
def yX8_takes : MethodName := ⟨RX8, "takes", "(III)Z"⟩
abbrev cX8_isOver : ByteArray := prog_1_method_47_code
def yX8_isOver : MethodName := ⟨RX8, "isOver", "(I)Z"⟩
abbrev cX8_heapOf : ByteArray := prog_1_method_48_code
def yX8_heapOf : MethodName := ⟨RX8, "heapOf", "(I)LFirstSeconds$Heap;"⟩
abbrev cX8_fillHeap : ByteArray := prog_1_method_49_code
def yX8_fillHeap : MethodName := ⟨RX8, "fillHeap", "(LFirstSeconds$Quake;II)V"⟩
abbrev cX8_feltIn : ByteArray := prog_1_method_50_code
def yX8_feltIn : MethodName := ⟨RX8, "feltIn", "(II)I"⟩
abbrev cX8_earliestArrival : ByteArray := prog_1_method_51_code
def yX8_earliestArrival : MethodName := ⟨RX8, "earliestArrival", "(II)I"⟩
abbrev cX8_latestArrival : ByteArray := prog_1_method_52_code
def yX8_latestArrival : MethodName := ⟨RX8, "latestArrival", "(II)I"⟩
abbrev cX8_tellFelt : ByteArray := prog_1_method_53_code
def yX8_tellFelt : MethodName := ⟨RX8, "tellFelt", "(II)I"⟩
abbrev cX8_takeBack : ByteArray := prog_1_method_54_code
def yX8_takeBack : MethodName := ⟨RX8, "takeBack", "(II)I"⟩
abbrev cX8_send : ByteArray := prog_1_method_55_code
def yX8_send : MethodName := ⟨RX8, "send", "(III)V"⟩
def RX9 : String := "FirstSecondsModel"
def TX9 : u_T := fun k => match k with
  | 0 => ("FirstSecondsModel", "finding", "I", false)
  | 1 => ("FirstSecondsModel", "findings", "[I", true)
  | 2 => ("FirstSecondsModel", "asked", "I", false)
  | 3 => ("FirstSecondsModel", "slowness", "I", false)
  | 4 => ("FirstSecondsModel", "error", "I", false)
  | 5 => ("FirstSecondsModel", "now", "I", false)
  | 6 => ("FirstSecondsModel", "stations", "I", false)
  | 7 => ("FirstSecondsModel", "stationAt", "[I", true)
  | 8 => ("FirstSecondsModel", "isDeaf", "[Z", true)
  | 9 => ("FirstSecondsModel", "towns", "I", false)
  | 10 => ("FirstSecondsModel", "townAt", "[I", true)
  | 11 => ("FirstSecondsModel", "sizes", "[I", true)
  | 12 => ("FirstSecondsModel", "readings", "[I", true)
  | 13 => ("FirstSecondsModel", "levels", "[I", true)
  | 14 => ("FirstSecondsModel", "moving", "[I", true)
  | 15 => ("FirstSecondsModel", "picks", "I", false)
  | 16 => ("FirstSecondsModel", "pickStation", "[I", true)
  | 17 => ("FirstSecondsModel", "pickTick", "[I", true)
  | 18 => ("FirstSecondsModel", "pickStrength", "[I", true)
  | 19 => ("FirstSecondsModel", "pickQuake", "[I", true)
  | 20 => ("FirstSecondsModel", "quakes", "I", false)
  | 21 => ("FirstSecondsModel", "firstPick", "[I", true)
  | 22 => ("FirstSecondsModel", "lows", "[I", true)
  | 23 => ("FirstSecondsModel", "highs", "[I", true)
  | 24 => ("FirstSecondsModel", "messages", "I", false)
  | 25 => ("FirstSecondsModel", "messageRows", "[I", true)
  | _ => ("FirstSecondsModel", "states", "[I", true)
def tyX9 : Nat → FieldType := fun k => match k with
  | 0 => .int
  | 1 => .array .int
  | 2 => .int
  | 3 => .int
  | 4 => .int
  | 5 => .int
  | 6 => .int
  | 7 => .array .int
  | 8 => .array .boolean
  | 9 => .int
  | 10 => .array .int
  | 11 => .array .int
  | 12 => .array .int
  | 13 => .array .int
  | 14 => .array .int
  | 15 => .int
  | 16 => .array .int
  | 17 => .array .int
  | 18 => .array .int
  | 19 => .array .int
  | 20 => .int
  | 21 => .array .int
  | 22 => .array .int
  | 23 => .array .int
  | 24 => .int
  | 25 => .array .int
  | _ => .array .int
abbrev wsX90 : List Cond := u_ws RX9 TX9 27
theorem nmX9 : ∀ a, a < 27 → ∀ b, b < 27 → a ≠ b → (TX9 a).2.1 ≠ (TX9 b).2.1 := by decide +kernel
theorem tyX9_ok : ∀ k, k < 27 → parseFieldDescriptor (TX9 k).2.2.1 = some (tyX9 k) := by decide +kernel
abbrev cX9_init : ByteArray := prog_11_method_1_code
def yX9_init : MethodName := ⟨RX9, "<init>", "()V"⟩
abbrev cX9_in : ByteArray := prog_11_method_3_code
def yX9_in : MethodName := ⟨RX9, "in", "(III)Z"⟩
abbrev cX9_meets : ByteArray := prog_11_method_4_code
def yX9_meets : MethodName := ⟨RX9, "meets", "(I)I"⟩
abbrev cX9_rule : ByteArray := prog_11_method_5_code
def yX9_rule : MethodName := ⟨RX9, "rule", "(II)I"⟩
abbrev cX9_isCell : ByteArray := prog_11_method_6_code
def yX9_isCell : MethodName := ⟨RX9, "isCell", "(I)Z"⟩
abbrev cX9_station : ByteArray := prog_11_method_7_code
def yX9_station : MethodName := ⟨RX9, "station", "(I)I"⟩
abbrev cX9_town : ByteArray := prog_11_method_8_code
def yX9_town : MethodName := ⟨RX9, "town", "(I)I"⟩
abbrev cX9_isStation : ByteArray := prog_11_method_9_code
def yX9_isStation : MethodName := ⟨RX9, "isStation", "(I)Z"⟩
abbrev cX9_isTown : ByteArray := prog_11_method_10_code
def yX9_isTown : MethodName := ⟨RX9, "isTown", "(I)Z"⟩
abbrev cX9_deaf : ByteArray := prog_11_method_11_code
def yX9_deaf : MethodName := ⟨RX9, "deaf", "(IZ)I"⟩
abbrev cX9_travels : ByteArray := prog_11_method_12_code
def yX9_travels : MethodName := ⟨RX9, "travels", "(II)I"⟩
abbrev cX9_travel : ByteArray := prog_11_method_13_code
def yX9_travel : MethodName := ⟨RX9, "travel", "(II)I"⟩
abbrev cX9_later : ByteArray := prog_11_method_14_code
def yX9_later : MethodName := ⟨RX9, "later", "(I)I"⟩
abbrev cX9_row : ByteArray := prog_11_method_15_code
def yX9_row : MethodName := ⟨RX9, "row", "(II)I"⟩
abbrev cX9_lay : ByteArray := prog_11_method_16_code
def yX9_lay : MethodName := ⟨RX9, "lay", "(III)I"⟩
abbrev cX9_tear : ByteArray := prog_11_method_17_code
def yX9_tear : MethodName := ⟨RX9, "tear", "(I)I"⟩
abbrev cX9_copy : ByteArray := prog_11_method_18_code
def yX9_copy : MethodName := ⟨RX9, "copy", "(IIIII)I"⟩
abbrev cX9_sumOf : ByteArray := prog_11_method_19_code
def yX9_sumOf : MethodName := ⟨RX9, "sumOf", "(III)J"⟩
abbrev cX9_mean : ByteArray := prog_11_method_20_code
def yX9_mean : MethodName := ⟨RX9, "mean", "(I)I"⟩
abbrev cX9_first : ByteArray := prog_11_method_21_code
def yX9_first : MethodName := ⟨RX9, "first", "(IIIII)I"⟩
abbrev cX9_hears : ByteArray := prog_11_method_22_code
def yX9_hears : MethodName := ⟨RX9, "hears", "(II)Z"⟩
abbrev cX9_setHeap : ByteArray := prog_11_method_23_code
def yX9_setHeap : MethodName := ⟨RX9, "setHeap", "(I)I"⟩
abbrev cX9_has : ByteArray := prog_11_method_24_code
def yX9_has : MethodName := ⟨RX9, "has", "(I)Z"⟩
abbrev cX9_pick : ByteArray := prog_11_method_25_code
def yX9_pick : MethodName := ⟨RX9, "pick", "(III)I"⟩
abbrev cX9_isPick : ByteArray := prog_11_method_26_code
def yX9_isPick : MethodName := ⟨RX9, "isPick", "(I)Z"⟩
abbrev cX9_kindOf : ByteArray := prog_11_method_27_code
def yX9_kindOf : MethodName := ⟨RX9, "kindOf", "(I)I"⟩
abbrev cX9_tells : ByteArray := prog_11_method_28_code
def yX9_tells : MethodName := ⟨RX9, "tells", "(II)I"⟩
abbrev cX9_told : ByteArray := prog_11_method_29_code
def yX9_told : MethodName := ⟨RX9, "told", "(II)I"⟩
abbrev cX9_mark : ByteArray := prog_11_method_30_code
def yX9_mark : MethodName := ⟨RX9, "mark", "(II)I"⟩
abbrev cX9_isQuake : ByteArray := prog_11_method_31_code
def yX9_isQuake : MethodName := ⟨RX9, "isQuake", "(I)Z"⟩
abbrev cX9_bits : ByteArray := prog_11_method_32_code
def yX9_bits : MethodName := ⟨RX9, "bits", "(I)I"⟩
abbrev cX9_sizeAt : ByteArray := prog_11_method_33_code
def yX9_sizeAt : MethodName := ⟨RX9, "sizeAt", "(II)I"⟩
abbrev cX9_sizeOf : ByteArray := prog_11_method_34_code
def yX9_sizeOf : MethodName := ⟨RX9, "sizeOf", "(IZ)I"⟩
abbrev cX9_tellsQuake : ByteArray := prog_11_method_35_code
def yX9_tellsQuake : MethodName := ⟨RX9, "tellsQuake", "(II)I"⟩
abbrev cX9_quake : ByteArray := prog_11_method_36_code
def yX9_quake : MethodName := ⟨RX9, "quake", "(II)I"⟩
abbrev cX9_cell : ByteArray := prog_11_method_37_code
def yX9_cell : MethodName := ⟨RX9, "cell", "(II)I"⟩
abbrev cX9_time : ByteArray := prog_11_method_38_code
def yX9_time : MethodName := ⟨RX9, "time", "(IIZ)I"⟩
abbrev cX9_holds : ByteArray := prog_11_method_39_code
def yX9_holds : MethodName := ⟨RX9, "holds", "(III)I"⟩
abbrev cX9_feels : ByteArray := prog_11_method_40_code
def yX9_feels : MethodName := ⟨RX9, "feels", "(II)I"⟩
abbrev cX9_areTownAndQuake : ByteArray := prog_11_method_41_code
def yX9_areTownAndQuake : MethodName := ⟨RX9, "areTownAndQuake", "(II)Z"⟩
abbrev cX9_felt : ByteArray := prog_11_method_42_code
def yX9_felt : MethodName := ⟨RX9, "felt", "(II)I"⟩
abbrev cX9_level : ByteArray := prog_11_method_43_code
def yX9_level : MethodName := ⟨RX9, "level", "(II)I"⟩
abbrev cX9_say : ByteArray := prog_11_method_44_code
def yX9_say : MethodName := ⟨RX9, "say", "(III)V"⟩
abbrev cX9_warn : ByteArray := prog_11_method_45_code
def yX9_warn : MethodName := ⟨RX9, "warn", "()I"⟩
abbrev cX9_drill : ByteArray := prog_11_method_46_code
def yX9_drill : MethodName := ⟨RX9, "drill", "(II)I"⟩
abbrev cX9_message : ByteArray := prog_11_method_47_code
def yX9_message : MethodName := ⟨RX9, "message", "(II)I"⟩
abbrev cX9_alarm : ByteArray := prog_11_method_48_code
def yX9_alarm : MethodName := ⟨RX9, "alarm", "(II)I"⟩
abbrev cX9_comes : ByteArray := prog_11_method_49_code
def yX9_comes : MethodName := ⟨RX9, "comes", "(IZ)I"⟩
abbrev cX9_late : ByteArray := prog_11_method_50_code
def yX9_late : MethodName := ⟨RX9, "late", "(II)I"⟩
abbrev cX9_left : ByteArray := prog_11_method_51_code
def yX9_left : MethodName := ⟨RX9, "left", "(II)I"⟩
abbrev cX9_asked : ByteArray := prog_11_method_52_code
def yX9_asked : MethodName := ⟨RX9, "asked", "()I"⟩
abbrev cX9_count : ByteArray := prog_11_method_53_code
def yX9_count : MethodName := ⟨RX9, "count", "(I)I"⟩
abbrev cX9_finding : ByteArray := prog_11_method_54_code
def yX9_finding : MethodName := ⟨RX9, "finding", "()I"⟩
abbrev cX9_findings : ByteArray := prog_11_method_55_code
def yX9_findings : MethodName := ⟨RX9, "findings", "(I)I"⟩
abbrev cX9_digest : ByteArray := prog_11_method_56_code
def yX9_digest : MethodName := ⟨RX9, "digest", "()J"⟩
def RJx145de : String := "java/io/Serializable"
def TJx145de : u_T := fun k => match k with
  | _ => ("", "", "", false)
def tyJx145de : Nat → FieldType := fun k => match k with
  | _ => .int
abbrev wsJx145de0 : List Cond := u_ws RJx145de TJx145de 0
theorem nmJx145de : ∀ a, a < 0 → ∀ b, b < 0 → a ≠ b → (TJx145de a).2.1 ≠ (TJx145de b).2.1 := by decide +kernel
theorem tyJx145de_ok : ∀ k, k < 0 → parseFieldDescriptor (TJx145de k).2.2.1 = some (tyJx145de k) := by decide +kernel
def RJx8e188 : String := "java/lang/Cloneable"
def TJx8e188 : u_T := fun k => match k with
  | _ => ("", "", "", false)
def tyJx8e188 : Nat → FieldType := fun k => match k with
  | _ => .int
abbrev wsJx8e1880 : List Cond := u_ws RJx8e188 TJx8e188 0
theorem nmJx8e188 : ∀ a, a < 0 → ∀ b, b < 0 → a ≠ b → (TJx8e188 a).2.1 ≠ (TJx8e188 b).2.1 := by decide +kernel
theorem tyJx8e188_ok : ∀ k, k < 0 → parseFieldDescriptor (TJx8e188 k).2.2.1 = some (tyJx8e188 k) := by decide +kernel
def RJ6 : String := "java/lang/Integer"
def TJ6 : u_T := fun k => match k with
  | _ => ("", "", "", false)
def tyJ6 : Nat → FieldType := fun k => match k with
  | _ => .int
abbrev wsJ60 : List Cond := u_ws RJ6 TJ6 0
theorem nmJ6 : ∀ a, a < 0 → ∀ b, b < 0 → a ≠ b → (TJ6 a).2.1 ≠ (TJ6 b).2.1 := by decide +kernel
theorem tyJ6_ok : ∀ k, k < 0 → parseFieldDescriptor (TJ6 k).2.2.1 = some (tyJ6 k) := by decide +kernel
abbrev cJ6_numberOfLeadingZeros_0f7a4 : ByteArray := prog_14_method_47_code
def yJ6_numberOfLeadingZeros_0f7a4 : MethodName := ⟨RJ6, "numberOfLeadingZeros", "(I)I"⟩
def RJxab1ab : String := "java/lang/Iterable"
def TJxab1ab : u_T := fun k => match k with
  | _ => ("", "", "", false)
def tyJxab1ab : Nat → FieldType := fun k => match k with
  | _ => .int
abbrev wsJxab1ab0 : List Cond := u_ws RJxab1ab TJxab1ab 0
theorem nmJxab1ab : ∀ a, a < 0 → ∀ b, b < 0 → a ≠ b → (TJxab1ab a).2.1 ≠ (TJxab1ab b).2.1 := by decide +kernel
theorem tyJxab1ab_ok : ∀ k, k < 0 → parseFieldDescriptor (TJxab1ab k).2.2.1 = some (tyJxab1ab k) := by decide +kernel
def RJ9 : String := "java/lang/Math"
def TJ9 : u_T := fun k => match k with
  | _ => ("", "", "", false)
def tyJ9 : Nat → FieldType := fun k => match k with
  | _ => .int
abbrev wsJ90 : List Cond := u_ws RJ9 TJ9 0
theorem nmJ9 : ∀ a, a < 0 → ∀ b, b < 0 → a ≠ b → (TJ9 a).2.1 ≠ (TJ9 b).2.1 := by decide +kernel
theorem tyJ9_ok : ∀ k, k < 0 → parseFieldDescriptor (TJ9 k).2.2.1 = some (tyJ9 k) := by decide +kernel
abbrev cJ9_abs_0f7a4 : ByteArray := prog_16_method_59_code
def yJ9_abs_0f7a4 : MethodName := ⟨RJ9, "abs", "(I)I"⟩
abbrev cJ9_max_7cf53 : ByteArray := prog_16_method_65_code
def yJ9_max_7cf53 : MethodName := ⟨RJ9, "max", "(II)I"⟩
abbrev cJ9_min_7cf53 : ByteArray := prog_16_method_69_code
def yJ9_min_7cf53 : MethodName := ⟨RJ9, "min", "(II)I"⟩
def RJ10 : String := "java/lang/System"
def TJ10 : u_T := fun k => match k with
  | _ => ("", "", "", false)
def tyJ10 : Nat → FieldType := fun k => match k with
  | _ => .int
abbrev wsJ100 : List Cond := u_ws RJ10 TJ10 0
theorem nmJ10 : ∀ a, a < 0 → ∀ b, b < 0 → a ≠ b → (TJ10 a).2.1 ≠ (TJ10 b).2.1 := by decide +kernel
theorem tyJ10_ok : ∀ k, k < 0 → parseFieldDescriptor (TJ10 k).2.2.1 = some (tyJ10 k) := by decide +kernel
def RJxa1e45 : String := "java/util/AbstractCollection"
def TJxa1e45 : u_T := fun k => match k with
  | _ => ("", "", "", false)
def tyJxa1e45 : Nat → FieldType := fun k => match k with
  | _ => .int
abbrev wsJxa1e450 : List Cond := u_ws RJxa1e45 TJxa1e45 0
theorem nmJxa1e45 : ∀ a, a < 0 → ∀ b, b < 0 → a ≠ b → (TJxa1e45 a).2.1 ≠ (TJxa1e45 b).2.1 := by decide +kernel
theorem tyJxa1e45_ok : ∀ k, k < 0 → parseFieldDescriptor (TJxa1e45 k).2.2.1 = some (tyJxa1e45 k) := by decide +kernel
abbrev cJxa1e45_init_da8c8 : ByteArray := prog_18_method_1_code
def yJxa1e45_init_da8c8 : MethodName := ⟨RJxa1e45, "<init>", "()V"⟩
def RJxc12de : String := "java/util/AbstractList"
def TJxc12de : u_T := fun k => match k with
  | _ => ("", "", "", false)
def tyJxc12de : Nat → FieldType := fun k => match k with
  | _ => .int
abbrev wsJxc12de0 : List Cond := u_ws RJxc12de TJxc12de 0
theorem nmJxc12de : ∀ a, a < 0 → ∀ b, b < 0 → a ≠ b → (TJxc12de a).2.1 ≠ (TJxc12de b).2.1 := by decide +kernel
theorem tyJxc12de_ok : ∀ k, k < 0 → parseFieldDescriptor (TJxc12de k).2.2.1 = some (tyJxc12de k) := by decide +kernel
abbrev cJxc12de_init_da8c8 : ByteArray := prog_19_method_1_code
def yJxc12de_init_da8c8 : MethodName := ⟨RJxc12de, "<init>", "()V"⟩
def RJx4a65c : String := "java/util/ArrayList"
def TJx4a65c : u_T := fun k => match k with
  | 0 => ("java/util/AbstractList", "modCount", "I", false)
  | 1 => ("java/util/ArrayList", "elementData", "[Ljava/lang/Object;", false)
  | _ => ("java/util/ArrayList", "size", "I", false)
def tyJx4a65c : Nat → FieldType := fun k => match k with
  | 0 => .int
  | 1 => .array (.object "java/lang/Object")
  | _ => .int
abbrev wsJx4a65c0 : List Cond := u_ws RJx4a65c TJx4a65c 3
theorem nmJx4a65c : ∀ a, a < 3 → ∀ b, b < 3 → a ≠ b → (TJx4a65c a).2.1 ≠ (TJx4a65c b).2.1 := by decide +kernel
theorem tyJx4a65c_ok : ∀ k, k < 3 → parseFieldDescriptor (TJx4a65c k).2.2.1 = some (tyJx4a65c k) := by decide +kernel
abbrev cJx4a65c_init_da8c8 : ByteArray := prog_20_method_2_code
def yJx4a65c_init_da8c8 : MethodName := ⟨RJx4a65c, "<init>", "()V"⟩
abbrev cJx4a65c_grow_92f84 : ByteArray := prog_20_method_6_code
def yJx4a65c_grow_92f84 : MethodName := ⟨RJx4a65c, "grow", "(I)[Ljava/lang/Object;"⟩
abbrev cJx4a65c_grow_d5877 : ByteArray := prog_20_method_7_code
def yJx4a65c_grow_d5877 : MethodName := ⟨RJx4a65c, "grow", "()[Ljava/lang/Object;"⟩
abbrev cJx4a65c_size_8abf5 : ByteArray := prog_20_method_8_code
def yJx4a65c_size_8abf5 : MethodName := ⟨RJx4a65c, "size", "()I"⟩
abbrev cJx4a65c_isEmpty_aae02 : ByteArray := prog_20_method_9_code
def yJx4a65c_isEmpty_aae02 : MethodName := ⟨RJx4a65c, "isEmpty", "()Z"⟩
abbrev cJx4a65c_elementData_915e3 : ByteArray := prog_20_method_18_code
def yJx4a65c_elementData_915e3 : MethodName := ⟨RJx4a65c, "elementData", "(I)Ljava/lang/Object;"⟩
abbrev cJx4a65c_get_915e3 : ByteArray := prog_20_method_20_code
def yJx4a65c_get_915e3 : MethodName := ⟨RJx4a65c, "get", "(I)Ljava/lang/Object;"⟩
abbrev cJx4a65c_add_72be8 : ByteArray := prog_20_method_24_code
def yJx4a65c_add_72be8 : MethodName := ⟨RJx4a65c, "add", "(Ljava/lang/Object;[Ljava/lang/Object;I)V"⟩
abbrev cJx4a65c_add_9ea2d : ByteArray := prog_20_method_25_code
def yJx4a65c_add_9ea2d : MethodName := ⟨RJx4a65c, "add", "(Ljava/lang/Object;)Z"⟩
def RJ7 : String := "java/util/Arrays"
def TJ7 : u_T := fun k => match k with
  | _ => ("", "", "", false)
def tyJ7 : Nat → FieldType := fun k => match k with
  | _ => .int
abbrev wsJ70 : List Cond := u_ws RJ7 TJ7 0
theorem nmJ7 : ∀ a, a < 0 → ∀ b, b < 0 → a ≠ b → (TJ7 a).2.1 ≠ (TJ7 b).2.1 := by decide +kernel
theorem tyJ7_ok : ∀ k, k < 0 → parseFieldDescriptor (TJ7 k).2.2.1 = some (tyJ7 k) := by decide +kernel
abbrev cJ7_copyOf_1904c : ByteArray := prog_21_method_119_code
def yJ7_copyOf_1904c : MethodName := ⟨RJ7, "copyOf", "([Ljava/lang/Object;I)[Ljava/lang/Object;"⟩
abbrev cJ7_copyOf_6403c : ByteArray := prog_21_method_120_code
def yJ7_copyOf_6403c : MethodName := ⟨RJ7, "copyOf", "([Ljava/lang/Object;ILjava/lang/Class;)[Ljava/lang/Object;"⟩
def RJx5ef63 : String := "java/util/Collection"
def TJx5ef63 : u_T := fun k => match k with
  | _ => ("", "", "", false)
def tyJx5ef63 : Nat → FieldType := fun k => match k with
  | _ => .int
abbrev wsJx5ef630 : List Cond := u_ws RJx5ef63 TJx5ef63 0
theorem nmJx5ef63 : ∀ a, a < 0 → ∀ b, b < 0 → a ≠ b → (TJx5ef63 a).2.1 ≠ (TJx5ef63 b).2.1 := by decide +kernel
theorem tyJx5ef63_ok : ∀ k, k < 0 → parseFieldDescriptor (TJx5ef63 k).2.2.1 = some (tyJx5ef63 k) := by decide +kernel
def RJxbd725 : String := "java/util/List"
def TJxbd725 : u_T := fun k => match k with
  | _ => ("", "", "", false)
def tyJxbd725 : Nat → FieldType := fun k => match k with
  | _ => .int
abbrev wsJxbd7250 : List Cond := u_ws RJxbd725 TJxbd725 0
theorem nmJxbd725 : ∀ a, a < 0 → ∀ b, b < 0 → a ≠ b → (TJxbd725 a).2.1 ≠ (TJxbd725 b).2.1 := by decide +kernel
theorem tyJxbd725_ok : ∀ k, k < 0 → parseFieldDescriptor (TJxbd725 k).2.2.1 = some (tyJxbd725 k) := by decide +kernel
def RJ15 : String := "java/util/Objects"
def TJ15 : u_T := fun k => match k with
  | _ => ("", "", "", false)
def tyJ15 : Nat → FieldType := fun k => match k with
  | _ => .int
abbrev wsJ150 : List Cond := u_ws RJ15 TJ15 0
theorem nmJ15 : ∀ a, a < 0 → ∀ b, b < 0 → a ≠ b → (TJ15 a).2.1 ≠ (TJ15 b).2.1 := by decide +kernel
theorem tyJ15_ok : ∀ k, k < 0 → parseFieldDescriptor (TJ15 k).2.2.1 = some (tyJ15 k) := by decide +kernel
abbrev cJ15_checkIndex_7cf53 : ByteArray := prog_24_method_17_code
def yJ15_checkIndex_7cf53 : MethodName := ⟨RJ15, "checkIndex", "(II)I"⟩
def RJxf0a74 : String := "java/util/RandomAccess"
def TJxf0a74 : u_T := fun k => match k with
  | _ => ("", "", "", false)
def tyJxf0a74 : Nat → FieldType := fun k => match k with
  | _ => .int
abbrev wsJxf0a740 : List Cond := u_ws RJxf0a74 TJxf0a74 0
theorem nmJxf0a74 : ∀ a, a < 0 → ∀ b, b < 0 → a ≠ b → (TJxf0a74 a).2.1 ≠ (TJxf0a74 b).2.1 := by decide +kernel
theorem tyJxf0a74_ok : ∀ k, k < 0 → parseFieldDescriptor (TJxf0a74 k).2.2.1 = some (tyJxf0a74 k) := by decide +kernel
def RJxa66e6 : String := "java/util/SequencedCollection"
def TJxa66e6 : u_T := fun k => match k with
  | _ => ("", "", "", false)
def tyJxa66e6 : Nat → FieldType := fun k => match k with
  | _ => .int
abbrev wsJxa66e60 : List Cond := u_ws RJxa66e6 TJxa66e6 0
theorem nmJxa66e6 : ∀ a, a < 0 → ∀ b, b < 0 → a ≠ b → (TJxa66e6 a).2.1 ≠ (TJxa66e6 b).2.1 := by decide +kernel
theorem tyJxa66e6_ok : ∀ k, k < 0 → parseFieldDescriptor (TJxa66e6 k).2.2.1 = some (tyJxa66e6 k) := by decide +kernel
def RJ8 : String := "jdk/internal/util/ArraysSupport"
def TJ8 : u_T := fun k => match k with
  | _ => ("", "", "", false)
def tyJ8 : Nat → FieldType := fun k => match k with
  | _ => .int
abbrev wsJ80 : List Cond := u_ws RJ8 TJ8 0
theorem nmJ8 : ∀ a, a < 0 → ∀ b, b < 0 → a ≠ b → (TJ8 a).2.1 ≠ (TJ8 b).2.1 := by decide +kernel
theorem tyJ8_ok : ∀ k, k < 0 → parseFieldDescriptor (TJ8 k).2.2.1 = some (tyJ8 k) := by decide +kernel
abbrev cJ8_newLength_cabcc : ByteArray := prog_27_method_27_code
def yJ8_newLength_cabcc : MethodName := ⟨RJ8, "newLength", "(III)I"⟩
abbrev cJ8_hugeLength_7cf53 : ByteArray := prog_27_method_28_code
def yJ8_hugeLength_7cf53 : MethodName := ⟨RJ8, "hugeLength", "(II)I"⟩
def RJ3 : String := "jdk/internal/util/Preconditions"
def TJ3 : u_T := fun k => match k with
  | _ => ("", "", "", false)
def tyJ3 : Nat → FieldType := fun k => match k with
  | _ => .int
abbrev wsJ30 : List Cond := u_ws RJ3 TJ3 0
theorem nmJ3 : ∀ a, a < 0 → ∀ b, b < 0 → a ≠ b → (TJ3 a).2.1 ≠ (TJ3 b).2.1 := by decide +kernel
theorem tyJ3_ok : ∀ k, k < 0 → parseFieldDescriptor (TJ3 k).2.2.1 = some (tyJ3 k) := by decide +kernel
abbrev cJ3_checkIndex_8e157 : ByteArray := prog_28_method_11_code
def yJ3_checkIndex_8e157 : MethodName := ⟨RJ3, "checkIndex", "(IILjava/util/function/BiFunction;)I"⟩
def RL : String := "FirstSecondsLaw"
abbrev cL_law : ByteArray := code
def yL_law : MethodName := ⟨RL, "law", "([I)Z"⟩
theorem dX0_init_0 : decode cX0_init 0 = .ok (.aload_n 0, 1) := by decide +kernel
theorem dX0_init_1 : decode cX0_init 1 = .ok (.invokespecial 3, 3) := by decide +kernel
theorem dX0_init_4 : decode cX0_init 4 = .ok (.aload_n 0, 1) := by decide +kernel
theorem dX0_init_5 : decode cX0_init 5 = .ok (.sipush 144, 3) := by decide +kernel
theorem dX0_init_8 : decode cX0_init 8 = .ok (.newarray .int, 2) := by decide +kernel
theorem dX0_init_10 : decode cX0_init 10 = .ok (.putfield 9, 3) := by decide +kernel
theorem dX0_init_13 : decode cX0_init 13 = .ok (.aload_n 0, 1) := by decide +kernel
theorem dX0_init_14 : decode cX0_init 14 = .ok (.sipush 144, 3) := by decide +kernel
theorem dX0_init_17 : decode cX0_init 17 = .ok (.newarray .int, 2) := by decide +kernel
theorem dX0_init_19 : decode cX0_init 19 = .ok (.putfield 15, 3) := by decide +kernel
theorem dX0_init_22 : decode cX0_init 22 = .ok (.aload_n 0, 1) := by decide +kernel
theorem dX0_init_23 : decode cX0_init 23 = .ok (.bipush (-9), 2) := by decide +kernel
theorem dX0_init_25 : decode cX0_init 25 = .ok (.putfield 18, 3) := by decide +kernel
theorem dX0_init_28 : decode cX0_init 28 = .ok (.return_, 1) := by decide +kernel
theorem dX0_forget_0 : decode cX0_forget 0 = .ok (.aload_n 0, 1) := by decide +kernel
theorem dX0_forget_1 : decode cX0_forget 1 = .ok (.bipush (-9), 2) := by decide +kernel
theorem dX0_forget_3 : decode cX0_forget 3 = .ok (.putfield 18, 3) := by decide +kernel
theorem dX0_forget_6 : decode cX0_forget 6 = .ok (.return_, 1) := by decide +kernel
theorem dX0_clear_0 : decode cX0_clear 0 = .ok (.aload_n 0, 1) := by decide +kernel
theorem dX0_clear_1 : decode cX0_clear 1 = .ok (.bipush (-9), 2) := by decide +kernel
theorem dX0_clear_3 : decode cX0_clear 3 = .ok (.putfield 18, 3) := by decide +kernel
theorem dX0_clear_6 : decode cX0_clear 6 = .ok (.iconst 0, 1) := by decide +kernel
theorem dX0_clear_7 : decode cX0_clear 7 = .ok (.istore_n 1, 1) := by decide +kernel
theorem dX0_clear_8 : decode cX0_clear 8 = .ok (.iload_n 1, 1) := by decide +kernel
theorem dX0_clear_9 : decode cX0_clear 9 = .ok (.sipush 144, 3) := by decide +kernel
theorem dX0_clear_12 : decode cX0_clear 12 = .ok (.if_icmp .ge 25, 3) := by decide +kernel
theorem dX0_clear_15 : decode cX0_clear 15 = .ok (.aload_n 0, 1) := by decide +kernel
theorem dX0_clear_16 : decode cX0_clear 16 = .ok (.getfield 9, 3) := by decide +kernel
theorem dX0_clear_19 : decode cX0_clear 19 = .ok (.iload_n 1, 1) := by decide +kernel
theorem dX0_clear_20 : decode cX0_clear 20 = .ok (.ldc 22, 2) := by decide +kernel
theorem dX0_clear_22 : decode cX0_clear 22 = .ok (.iastore, 1) := by decide +kernel
theorem dX0_clear_23 : decode cX0_clear 23 = .ok (.aload_n 0, 1) := by decide +kernel
theorem dX0_clear_24 : decode cX0_clear 24 = .ok (.getfield 15, 3) := by decide +kernel
theorem dX0_clear_27 : decode cX0_clear 27 = .ok (.iload_n 1, 1) := by decide +kernel
theorem dX0_clear_28 : decode cX0_clear 28 = .ok (.ldc 23, 2) := by decide +kernel
theorem dX0_clear_30 : decode cX0_clear 30 = .ok (.iastore, 1) := by decide +kernel
theorem dX0_clear_31 : decode cX0_clear 31 = .ok (.iinc 1 1, 3) := by decide +kernel
theorem dX0_clear_34 : decode cX0_clear 34 = .ok (.goto (-26), 3) := by decide +kernel
theorem dX0_clear_37 : decode cX0_clear 37 = .ok (.return_, 1) := by decide +kernel
theorem dX0_narrow_0 : decode cX0_narrow 0 = .ok (.iconst 0, 1) := by decide +kernel
theorem dX0_narrow_1 : decode cX0_narrow 1 = .ok (.istore 5, 2) := by decide +kernel
theorem dX0_narrow_3 : decode cX0_narrow 3 = .ok (.iload 5, 2) := by decide +kernel
theorem dX0_narrow_5 : decode cX0_narrow 5 = .ok (.sipush 144, 3) := by decide +kernel
theorem dX0_narrow_8 : decode cX0_narrow 8 = .ok (.if_icmp .ge 61, 3) := by decide +kernel
theorem dX0_narrow_11 : decode cX0_narrow 11 = .ok (.aload_n 1, 1) := by decide +kernel
theorem dX0_narrow_12 : decode cX0_narrow 12 = .ok (.iload 5, 2) := by decide +kernel
theorem dX0_narrow_14 : decode cX0_narrow 14 = .ok (.iload_n 2, 1) := by decide +kernel
theorem dX0_narrow_15 : decode cX0_narrow 15 = .ok (.invokevirtual 24, 3) := by decide +kernel
theorem dX0_narrow_18 : decode cX0_narrow 18 = .ok (.istore 6, 2) := by decide +kernel
theorem dX0_narrow_20 : decode cX0_narrow 20 = .ok (.aload_n 0, 1) := by decide +kernel
theorem dX0_narrow_21 : decode cX0_narrow 21 = .ok (.getfield 9, 3) := by decide +kernel
theorem dX0_narrow_24 : decode cX0_narrow 24 = .ok (.iload 5, 2) := by decide +kernel
theorem dX0_narrow_26 : decode cX0_narrow 26 = .ok (.aload_n 0, 1) := by decide +kernel
theorem dX0_narrow_27 : decode cX0_narrow 27 = .ok (.getfield 9, 3) := by decide +kernel
theorem dX0_narrow_30 : decode cX0_narrow 30 = .ok (.iload 5, 2) := by decide +kernel
theorem dX0_narrow_32 : decode cX0_narrow 32 = .ok (.iaload, 1) := by decide +kernel
theorem dX0_narrow_33 : decode cX0_narrow 33 = .ok (.iload_n 3, 1) := by decide +kernel
theorem dX0_narrow_34 : decode cX0_narrow 34 = .ok (.iload 6, 2) := by decide +kernel
theorem dX0_narrow_36 : decode cX0_narrow 36 = .ok (.isub, 1) := by decide +kernel
theorem dX0_narrow_37 : decode cX0_narrow 37 = .ok (.invokestatic 30, 3) := by decide +kernel
theorem dX0_narrow_40 : decode cX0_narrow 40 = .ok (.iastore, 1) := by decide +kernel
theorem dX0_narrow_41 : decode cX0_narrow 41 = .ok (.aload_n 0, 1) := by decide +kernel
theorem dX0_narrow_42 : decode cX0_narrow 42 = .ok (.getfield 15, 3) := by decide +kernel
theorem dX0_narrow_45 : decode cX0_narrow 45 = .ok (.iload 5, 2) := by decide +kernel
theorem dX0_narrow_47 : decode cX0_narrow 47 = .ok (.aload_n 0, 1) := by decide +kernel
theorem dX0_narrow_48 : decode cX0_narrow 48 = .ok (.getfield 15, 3) := by decide +kernel
theorem dX0_narrow_51 : decode cX0_narrow 51 = .ok (.iload 5, 2) := by decide +kernel
theorem dX0_narrow_53 : decode cX0_narrow 53 = .ok (.iaload, 1) := by decide +kernel
theorem dX0_narrow_54 : decode cX0_narrow 54 = .ok (.iload 4, 2) := by decide +kernel
theorem dX0_narrow_56 : decode cX0_narrow 56 = .ok (.iload 6, 2) := by decide +kernel
theorem dX0_narrow_58 : decode cX0_narrow 58 = .ok (.isub, 1) := by decide +kernel
theorem dX0_narrow_59 : decode cX0_narrow 59 = .ok (.invokestatic 35, 3) := by decide +kernel
theorem dX0_narrow_62 : decode cX0_narrow 62 = .ok (.iastore, 1) := by decide +kernel
theorem dX0_narrow_63 : decode cX0_narrow 63 = .ok (.iinc 5 1, 3) := by decide +kernel
theorem dX0_narrow_66 : decode cX0_narrow 66 = .ok (.goto (-63), 3) := by decide +kernel
theorem dX0_narrow_69 : decode cX0_narrow 69 = .ok (.return_, 1) := by decide +kernel
theorem dX0_countCells_0 : decode cX0_countCells 0 = .ok (.aload_n 0, 1) := by decide +kernel
theorem dX0_countCells_1 : decode cX0_countCells 1 = .ok (.iconst 0, 1) := by decide +kernel
theorem dX0_countCells_2 : decode cX0_countCells 2 = .ok (.putfield 38, 3) := by decide +kernel
theorem dX0_countCells_5 : decode cX0_countCells 5 = .ok (.iconst 0, 1) := by decide +kernel
theorem dX0_countCells_6 : decode cX0_countCells 6 = .ok (.istore_n 1, 1) := by decide +kernel
theorem dX0_countCells_7 : decode cX0_countCells 7 = .ok (.iload_n 1, 1) := by decide +kernel
theorem dX0_countCells_8 : decode cX0_countCells 8 = .ok (.sipush 144, 3) := by decide +kernel
theorem dX0_countCells_11 : decode cX0_countCells 11 = .ok (.if_icmp .ge 27, 3) := by decide +kernel
theorem dX0_countCells_14 : decode cX0_countCells 14 = .ok (.aload_n 0, 1) := by decide +kernel
theorem dX0_countCells_15 : decode cX0_countCells 15 = .ok (.iload_n 1, 1) := by decide +kernel
theorem dX0_countCells_16 : decode cX0_countCells 16 = .ok (.invokevirtual 41, 3) := by decide +kernel
theorem dX0_countCells_19 : decode cX0_countCells 19 = .ok (.ifCond .eq 13, 3) := by decide +kernel
theorem dX0_countCells_22 : decode cX0_countCells 22 = .ok (.aload_n 0, 1) := by decide +kernel
theorem dX0_countCells_23 : decode cX0_countCells 23 = .ok (.dup, 1) := by decide +kernel
theorem dX0_countCells_24 : decode cX0_countCells 24 = .ok (.getfield 38, 3) := by decide +kernel
theorem dX0_countCells_27 : decode cX0_countCells 27 = .ok (.iconst 1, 1) := by decide +kernel
theorem dX0_countCells_28 : decode cX0_countCells 28 = .ok (.iadd, 1) := by decide +kernel
theorem dX0_countCells_29 : decode cX0_countCells 29 = .ok (.putfield 38, 3) := by decide +kernel
theorem dX0_countCells_32 : decode cX0_countCells 32 = .ok (.iinc 1 1, 3) := by decide +kernel
theorem dX0_countCells_35 : decode cX0_countCells 35 = .ok (.goto (-28), 3) := by decide +kernel
theorem dX0_countCells_38 : decode cX0_countCells 38 = .ok (.return_, 1) := by decide +kernel
theorem dX0_measure_0 : decode cX0_measure 0 = .ok (.aload_n 0, 1) := by decide +kernel
theorem dX0_measure_1 : decode cX0_measure 1 = .ok (.bipush (-9), 2) := by decide +kernel
theorem dX0_measure_3 : decode cX0_measure 3 = .ok (.putfield 45, 3) := by decide +kernel
theorem dX0_measure_6 : decode cX0_measure 6 = .ok (.aload_n 0, 1) := by decide +kernel
theorem dX0_measure_7 : decode cX0_measure 7 = .ok (.bipush (-9), 2) := by decide +kernel
theorem dX0_measure_9 : decode cX0_measure 9 = .ok (.putfield 48, 3) := by decide +kernel
theorem dX0_measure_12 : decode cX0_measure 12 = .ok (.iconst 0, 1) := by decide +kernel
theorem dX0_measure_13 : decode cX0_measure 13 = .ok (.istore 4, 2) := by decide +kernel
theorem dX0_measure_15 : decode cX0_measure 15 = .ok (.iload 4, 2) := by decide +kernel
theorem dX0_measure_17 : decode cX0_measure 17 = .ok (.sipush 144, 3) := by decide +kernel
theorem dX0_measure_20 : decode cX0_measure 20 = .ok (.if_icmp .ge 76, 3) := by decide +kernel
theorem dX0_measure_23 : decode cX0_measure 23 = .ok (.aload_n 0, 1) := by decide +kernel
theorem dX0_measure_24 : decode cX0_measure 24 = .ok (.iload 4, 2) := by decide +kernel
theorem dX0_measure_26 : decode cX0_measure 26 = .ok (.invokevirtual 41, 3) := by decide +kernel
theorem dX0_measure_29 : decode cX0_measure 29 = .ok (.ifCond .ne 6, 3) := by decide +kernel
theorem dX0_measure_32 : decode cX0_measure 32 = .ok (.goto 58, 3) := by decide +kernel
theorem dX0_measure_35 : decode cX0_measure 35 = .ok (.iload_n 3, 1) := by decide +kernel
theorem dX0_measure_36 : decode cX0_measure 36 = .ok (.aload_n 1, 1) := by decide +kernel
theorem dX0_measure_37 : decode cX0_measure 37 = .ok (.iload 4, 2) := by decide +kernel
theorem dX0_measure_39 : decode cX0_measure 39 = .ok (.iload_n 2, 1) := by decide +kernel
theorem dX0_measure_40 : decode cX0_measure 40 = .ok (.invokevirtual 24, 3) := by decide +kernel
theorem dX0_measure_43 : decode cX0_measure 43 = .ok (.iconst 1, 1) := by decide +kernel
theorem dX0_measure_44 : decode cX0_measure 44 = .ok (.iadd, 1) := by decide +kernel
theorem dX0_measure_45 : decode cX0_measure 45 = .ok (.imul, 1) := by decide +kernel
theorem dX0_measure_46 : decode cX0_measure 46 = .ok (.invokestatic 51, 3) := by decide +kernel
theorem dX0_measure_49 : decode cX0_measure 49 = .ok (.istore 5, 2) := by decide +kernel
theorem dX0_measure_51 : decode cX0_measure 51 = .ok (.aload_n 0, 1) := by decide +kernel
theorem dX0_measure_52 : decode cX0_measure 52 = .ok (.getfield 45, 3) := by decide +kernel
theorem dX0_measure_55 : decode cX0_measure 55 = .ok (.bipush (-9), 2) := by decide +kernel
theorem dX0_measure_57 : decode cX0_measure 57 = .ok (.if_icmp .eq 12, 3) := by decide +kernel
theorem dX0_measure_60 : decode cX0_measure 60 = .ok (.iload 5, 2) := by decide +kernel
theorem dX0_measure_62 : decode cX0_measure 62 = .ok (.aload_n 0, 1) := by decide +kernel
theorem dX0_measure_63 : decode cX0_measure 63 = .ok (.getfield 45, 3) := by decide +kernel
theorem dX0_measure_66 : decode cX0_measure 66 = .ok (.if_icmp .ge 9, 3) := by decide +kernel
theorem dX0_measure_69 : decode cX0_measure 69 = .ok (.aload_n 0, 1) := by decide +kernel
theorem dX0_measure_70 : decode cX0_measure 70 = .ok (.iload 5, 2) := by decide +kernel
theorem dX0_measure_72 : decode cX0_measure 72 = .ok (.putfield 45, 3) := by decide +kernel
theorem dX0_measure_75 : decode cX0_measure 75 = .ok (.iload 5, 2) := by decide +kernel
theorem dX0_measure_77 : decode cX0_measure 77 = .ok (.aload_n 0, 1) := by decide +kernel
theorem dX0_measure_78 : decode cX0_measure 78 = .ok (.getfield 48, 3) := by decide +kernel
theorem dX0_measure_81 : decode cX0_measure 81 = .ok (.if_icmp .le 9, 3) := by decide +kernel
theorem dX0_measure_84 : decode cX0_measure 84 = .ok (.aload_n 0, 1) := by decide +kernel
theorem dX0_measure_85 : decode cX0_measure 85 = .ok (.iload 5, 2) := by decide +kernel
theorem dX0_measure_87 : decode cX0_measure 87 = .ok (.putfield 48, 3) := by decide +kernel
theorem dX0_measure_90 : decode cX0_measure 90 = .ok (.iinc 4 1, 3) := by decide +kernel
theorem dX0_measure_93 : decode cX0_measure 93 = .ok (.goto (-78), 3) := by decide +kernel
theorem dX0_measure_96 : decode cX0_measure 96 = .ok (.return_, 1) := by decide +kernel
theorem dX0_has_0 : decode cX0_has 0 = .ok (.aload_n 0, 1) := by decide +kernel
theorem dX0_has_1 : decode cX0_has 1 = .ok (.getfield 9, 3) := by decide +kernel
theorem dX0_has_4 : decode cX0_has 4 = .ok (.iload_n 1, 1) := by decide +kernel
theorem dX0_has_5 : decode cX0_has 5 = .ok (.iaload, 1) := by decide +kernel
theorem dX0_has_6 : decode cX0_has 6 = .ok (.aload_n 0, 1) := by decide +kernel
theorem dX0_has_7 : decode cX0_has 7 = .ok (.getfield 15, 3) := by decide +kernel
theorem dX0_has_10 : decode cX0_has 10 = .ok (.iload_n 1, 1) := by decide +kernel
theorem dX0_has_11 : decode cX0_has 11 = .ok (.iaload, 1) := by decide +kernel
theorem dX0_has_12 : decode cX0_has 12 = .ok (.if_icmp .gt 7, 3) := by decide +kernel
theorem dX0_has_15 : decode cX0_has 15 = .ok (.iconst 1, 1) := by decide +kernel
theorem dX0_has_16 : decode cX0_has 16 = .ok (.goto 4, 3) := by decide +kernel
theorem dX0_has_19 : decode cX0_has 19 = .ok (.iconst 0, 1) := by decide +kernel
theorem dX0_has_20 : decode cX0_has 20 = .ok (.ireturn, 1) := by decide +kernel
theorem dX0_cellAt_0 : decode cX0_cellAt 0 = .ok (.iconst 0, 1) := by decide +kernel
theorem dX0_cellAt_1 : decode cX0_cellAt 1 = .ok (.istore_n 2, 1) := by decide +kernel
theorem dX0_cellAt_2 : decode cX0_cellAt 2 = .ok (.iconst 0, 1) := by decide +kernel
theorem dX0_cellAt_3 : decode cX0_cellAt 3 = .ok (.istore_n 3, 1) := by decide +kernel
theorem dX0_cellAt_4 : decode cX0_cellAt 4 = .ok (.iload_n 3, 1) := by decide +kernel
theorem dX0_cellAt_5 : decode cX0_cellAt 5 = .ok (.sipush 144, 3) := by decide +kernel
theorem dX0_cellAt_8 : decode cX0_cellAt 8 = .ok (.if_icmp .ge 30, 3) := by decide +kernel
theorem dX0_cellAt_11 : decode cX0_cellAt 11 = .ok (.aload_n 0, 1) := by decide +kernel
theorem dX0_cellAt_12 : decode cX0_cellAt 12 = .ok (.iload_n 3, 1) := by decide +kernel
theorem dX0_cellAt_13 : decode cX0_cellAt 13 = .ok (.invokevirtual 41, 3) := by decide +kernel
theorem dX0_cellAt_16 : decode cX0_cellAt 16 = .ok (.ifCond .ne 6, 3) := by decide +kernel
theorem dX0_cellAt_19 : decode cX0_cellAt 19 = .ok (.goto 13, 3) := by decide +kernel
theorem dX0_cellAt_22 : decode cX0_cellAt 22 = .ok (.iload_n 2, 1) := by decide +kernel
theorem dX0_cellAt_23 : decode cX0_cellAt 23 = .ok (.iload_n 1, 1) := by decide +kernel
theorem dX0_cellAt_24 : decode cX0_cellAt 24 = .ok (.if_icmp .ne 5, 3) := by decide +kernel
theorem dX0_cellAt_27 : decode cX0_cellAt 27 = .ok (.iload_n 3, 1) := by decide +kernel
theorem dX0_cellAt_28 : decode cX0_cellAt 28 = .ok (.ireturn, 1) := by decide +kernel
theorem dX0_cellAt_29 : decode cX0_cellAt 29 = .ok (.iinc 2 1, 3) := by decide +kernel
theorem dX0_cellAt_32 : decode cX0_cellAt 32 = .ok (.iinc 3 1, 3) := by decide +kernel
theorem dX0_cellAt_35 : decode cX0_cellAt 35 = .ok (.goto (-31), 3) := by decide +kernel
theorem dX0_cellAt_38 : decode cX0_cellAt 38 = .ok (.bipush (-9), 2) := by decide +kernel
theorem dX0_cellAt_40 : decode cX0_cellAt 40 = .ok (.ireturn, 1) := by decide +kernel
theorem dX1_init_0 : decode cX1_init 0 = .ok (.aload_n 0, 1) := by decide +kernel
theorem dX1_init_1 : decode cX1_init 1 = .ok (.invokespecial 1, 3) := by decide +kernel
theorem dX1_init_4 : decode cX1_init 4 = .ok (.aload_n 0, 1) := by decide +kernel
theorem dX1_init_5 : decode cX1_init 5 = .ok (.iload_n 1, 1) := by decide +kernel
theorem dX1_init_6 : decode cX1_init 6 = .ok (.putfield 7, 3) := by decide +kernel
theorem dX1_init_9 : decode cX1_init 9 = .ok (.aload_n 0, 1) := by decide +kernel
theorem dX1_init_10 : decode cX1_init 10 = .ok (.iload_n 2, 1) := by decide +kernel
theorem dX1_init_11 : decode cX1_init 11 = .ok (.putfield 13, 3) := by decide +kernel
theorem dX1_init_14 : decode cX1_init 14 = .ok (.aload_n 0, 1) := by decide +kernel
theorem dX1_init_15 : decode cX1_init 15 = .ok (.iload_n 3, 1) := by decide +kernel
theorem dX1_init_16 : decode cX1_init 16 = .ok (.putfield 16, 3) := by decide +kernel
theorem dX1_init_19 : decode cX1_init 19 = .ok (.aload_n 0, 1) := by decide +kernel
theorem dX1_init_20 : decode cX1_init 20 = .ok (.iload 4, 2) := by decide +kernel
theorem dX1_init_22 : decode cX1_init 22 = .ok (.putfield 19, 3) := by decide +kernel
theorem dX1_init_25 : decode cX1_init 25 = .ok (.return_, 1) := by decide +kernel
theorem dX2_init_0 : decode cX2_init 0 = .ok (.aload_n 0, 1) := by decide +kernel
theorem dX2_init_1 : decode cX2_init 1 = .ok (.invokespecial 3, 3) := by decide +kernel
theorem dX2_init_4 : decode cX2_init 4 = .ok (.aload_n 0, 1) := by decide +kernel
theorem dX2_init_5 : decode cX2_init 5 = .ok (.iload_n 1, 1) := by decide +kernel
theorem dX2_init_6 : decode cX2_init 6 = .ok (.putfield 9, 3) := by decide +kernel
theorem dX2_init_9 : decode cX2_init 9 = .ok (.aload_n 0, 1) := by decide +kernel
theorem dX2_init_10 : decode cX2_init 10 = .ok (.iload_n 2, 1) := by decide +kernel
theorem dX2_init_11 : decode cX2_init 11 = .ok (.putfield 15, 3) := by decide +kernel
theorem dX2_init_14 : decode cX2_init 14 = .ok (.aload_n 0, 1) := by decide +kernel
theorem dX2_init_15 : decode cX2_init 15 = .ok (.iload_n 3, 1) := by decide +kernel
theorem dX2_init_16 : decode cX2_init 16 = .ok (.putfield 18, 3) := by decide +kernel
theorem dX2_init_19 : decode cX2_init 19 = .ok (.aload_n 0, 1) := by decide +kernel
theorem dX2_init_20 : decode cX2_init 20 = .ok (.iload 4, 2) := by decide +kernel
theorem dX2_init_22 : decode cX2_init 22 = .ok (.putfield 21, 3) := by decide +kernel
theorem dX2_init_25 : decode cX2_init 25 = .ok (.aload_n 0, 1) := by decide +kernel
theorem dX2_init_26 : decode cX2_init 26 = .ok (.iload 5, 2) := by decide +kernel
theorem dX2_init_28 : decode cX2_init 28 = .ok (.putfield 24, 3) := by decide +kernel
theorem dX2_init_31 : decode cX2_init 31 = .ok (.return_, 1) := by decide +kernel
theorem dX2_is_0 : decode cX2_is 0 = .ok (.iload_n 1, 1) := by decide +kernel
theorem dX2_is_1 : decode cX2_is 1 = .ok (.ifCond .eq 24, 3) := by decide +kernel
theorem dX2_is_4 : decode cX2_is 4 = .ok (.iload_n 1, 1) := by decide +kernel
theorem dX2_is_5 : decode cX2_is 5 = .ok (.aload_n 0, 1) := by decide +kernel
theorem dX2_is_6 : decode cX2_is 6 = .ok (.getfield 21, 3) := by decide +kernel
theorem dX2_is_9 : decode cX2_is 9 = .ok (.if_icmp .eq 16, 3) := by decide +kernel
theorem dX2_is_12 : decode cX2_is 12 = .ok (.iload_n 1, 1) := by decide +kernel
theorem dX2_is_13 : decode cX2_is 13 = .ok (.iconst 1, 1) := by decide +kernel
theorem dX2_is_14 : decode cX2_is 14 = .ok (.if_icmp .ne 15, 3) := by decide +kernel
theorem dX2_is_17 : decode cX2_is 17 = .ok (.aload_n 0, 1) := by decide +kernel
theorem dX2_is_18 : decode cX2_is 18 = .ok (.getfield 21, 3) := by decide +kernel
theorem dX2_is_21 : decode cX2_is 21 = .ok (.iconst 2, 1) := by decide +kernel
theorem dX2_is_22 : decode cX2_is 22 = .ok (.if_icmp .ne 7, 3) := by decide +kernel
theorem dX2_is_25 : decode cX2_is 25 = .ok (.iconst 1, 1) := by decide +kernel
theorem dX2_is_26 : decode cX2_is 26 = .ok (.goto 4, 3) := by decide +kernel
theorem dX2_is_29 : decode cX2_is 29 = .ok (.iconst 0, 1) := by decide +kernel
theorem dX2_is_30 : decode cX2_is 30 = .ok (.ireturn, 1) := by decide +kernel
theorem dX3_init_0 : decode cX3_init 0 = .ok (.aload_n 0, 1) := by decide +kernel
theorem dX3_init_1 : decode cX3_init 1 = .ok (.invokespecial 3, 3) := by decide +kernel
theorem dX3_init_4 : decode cX3_init 4 = .ok (.aload_n 0, 1) := by decide +kernel
theorem dX3_init_5 : decode cX3_init 5 = .ok (.bipush 10, 2) := by decide +kernel
theorem dX3_init_7 : decode cX3_init 7 = .ok (.newarray .int, 2) := by decide +kernel
theorem dX3_init_9 : decode cX3_init 9 = .ok (.putfield 9, 3) := by decide +kernel
theorem dX3_init_12 : decode cX3_init 12 = .ok (.aload_n 0, 1) := by decide +kernel
theorem dX3_init_13 : decode cX3_init 13 = .ok (.bipush 6, 2) := by decide +kernel
theorem dX3_init_15 : decode cX3_init 15 = .ok (.newarray .int, 2) := by decide +kernel
theorem dX3_init_17 : decode cX3_init 17 = .ok (.putfield 15, 3) := by decide +kernel
theorem dX3_init_20 : decode cX3_init 20 = .ok (.aload_n 0, 1) := by decide +kernel
theorem dX3_init_21 : decode cX3_init 21 = .ok (.bipush 6, 2) := by decide +kernel
theorem dX3_init_23 : decode cX3_init 23 = .ok (.newarray .int, 2) := by decide +kernel
theorem dX3_init_25 : decode cX3_init 25 = .ok (.putfield 18, 3) := by decide +kernel
theorem dX3_init_28 : decode cX3_init 28 = .ok (.aload_n 0, 1) := by decide +kernel
theorem dX3_init_29 : decode cX3_init 29 = .ok (.iload_n 1, 1) := by decide +kernel
theorem dX3_init_30 : decode cX3_init 30 = .ok (.putfield 21, 3) := by decide +kernel
theorem dX3_init_33 : decode cX3_init 33 = .ok (.aload_n 0, 1) := by decide +kernel
theorem dX3_init_34 : decode cX3_init 34 = .ok (.iload_n 3, 1) := by decide +kernel
theorem dX3_init_35 : decode cX3_init 35 = .ok (.putfield 25, 3) := by decide +kernel
theorem dX3_init_38 : decode cX3_init 38 = .ok (.iconst 0, 1) := by decide +kernel
theorem dX3_init_39 : decode cX3_init 39 = .ok (.istore 4, 2) := by decide +kernel
theorem dX3_init_41 : decode cX3_init 41 = .ok (.iload 4, 2) := by decide +kernel
theorem dX3_init_43 : decode cX3_init 43 = .ok (.aload_n 0, 1) := by decide +kernel
theorem dX3_init_44 : decode cX3_init 44 = .ok (.getfield 9, 3) := by decide +kernel
theorem dX3_init_47 : decode cX3_init 47 = .ok (.arraylength, 1) := by decide +kernel
theorem dX3_init_48 : decode cX3_init 48 = .ok (.if_icmp .ge 17, 3) := by decide +kernel
theorem dX3_init_51 : decode cX3_init 51 = .ok (.aload_n 0, 1) := by decide +kernel
theorem dX3_init_52 : decode cX3_init 52 = .ok (.getfield 9, 3) := by decide +kernel
theorem dX3_init_55 : decode cX3_init 55 = .ok (.iload 4, 2) := by decide +kernel
theorem dX3_init_57 : decode cX3_init 57 = .ok (.iconst (-1), 1) := by decide +kernel
theorem dX3_init_58 : decode cX3_init 58 = .ok (.iastore, 1) := by decide +kernel
theorem dX3_init_59 : decode cX3_init 59 = .ok (.iinc 4 1, 3) := by decide +kernel
theorem dX3_init_62 : decode cX3_init 62 = .ok (.goto (-21), 3) := by decide +kernel
theorem dX3_init_65 : decode cX3_init 65 = .ok (.aload_n 0, 1) := by decide +kernel
theorem dX3_init_66 : decode cX3_init 66 = .ok (.iload_n 1, 1) := by decide +kernel
theorem dX3_init_67 : decode cX3_init 67 = .ok (.iload_n 2, 1) := by decide +kernel
theorem dX3_init_68 : decode cX3_init 68 = .ok (.invokevirtual 28, 3) := by decide +kernel
theorem dX3_init_71 : decode cX3_init 71 = .ok (.return_, 1) := by decide +kernel
theorem dX3_hears_0 : decode cX3_hears 0 = .ok (.aload_n 0, 1) := by decide +kernel
theorem dX3_hears_1 : decode cX3_hears 1 = .ok (.getfield 9, 3) := by decide +kernel
theorem dX3_hears_4 : decode cX3_hears 4 = .ok (.iload_n 1, 1) := by decide +kernel
theorem dX3_hears_5 : decode cX3_hears 5 = .ok (.iaload, 1) := by decide +kernel
theorem dX3_hears_6 : decode cX3_hears 6 = .ok (.iconst (-1), 1) := by decide +kernel
theorem dX3_hears_7 : decode cX3_hears 7 = .ok (.if_icmp .eq 7, 3) := by decide +kernel
theorem dX3_hears_10 : decode cX3_hears 10 = .ok (.iconst 1, 1) := by decide +kernel
theorem dX3_hears_11 : decode cX3_hears 11 = .ok (.goto 4, 3) := by decide +kernel
theorem dX3_hears_14 : decode cX3_hears 14 = .ok (.iconst 0, 1) := by decide +kernel
theorem dX3_hears_15 : decode cX3_hears 15 = .ok (.ireturn, 1) := by decide +kernel
theorem dX3_hear_0 : decode cX3_hear 0 = .ok (.aload_n 0, 1) := by decide +kernel
theorem dX3_hear_1 : decode cX3_hear 1 = .ok (.getfield 9, 3) := by decide +kernel
theorem dX3_hear_4 : decode cX3_hear 4 = .ok (.iload_n 1, 1) := by decide +kernel
theorem dX3_hear_5 : decode cX3_hear 5 = .ok (.iload_n 2, 1) := by decide +kernel
theorem dX3_hear_6 : decode cX3_hear 6 = .ok (.iastore, 1) := by decide +kernel
theorem dX3_hear_7 : decode cX3_hear 7 = .ok (.aload_n 0, 1) := by decide +kernel
theorem dX3_hear_8 : decode cX3_hear 8 = .ok (.dup, 1) := by decide +kernel
theorem dX3_hear_9 : decode cX3_hear 9 = .ok (.getfield 32, 3) := by decide +kernel
theorem dX3_hear_12 : decode cX3_hear 12 = .ok (.iconst 1, 1) := by decide +kernel
theorem dX3_hear_13 : decode cX3_hear 13 = .ok (.iadd, 1) := by decide +kernel
theorem dX3_hear_14 : decode cX3_hear 14 = .ok (.putfield 32, 3) := by decide +kernel
theorem dX3_hear_17 : decode cX3_hear 17 = .ok (.return_, 1) := by decide +kernel
theorem dX3_wasTold_0 : decode cX3_wasTold 0 = .ok (.aload_n 0, 1) := by decide +kernel
theorem dX3_wasTold_1 : decode cX3_wasTold 1 = .ok (.getfield 15, 3) := by decide +kernel
theorem dX3_wasTold_4 : decode cX3_wasTold 4 = .ok (.iload_n 1, 1) := by decide +kernel
theorem dX3_wasTold_5 : decode cX3_wasTold 5 = .ok (.iaload, 1) := by decide +kernel
theorem dX3_wasTold_6 : decode cX3_wasTold 6 = .ok (.iload_n 2, 1) := by decide +kernel
theorem dX3_wasTold_7 : decode cX3_wasTold 7 = .ok (.ishr, 1) := by decide +kernel
theorem dX3_wasTold_8 : decode cX3_wasTold 8 = .ok (.iconst 1, 1) := by decide +kernel
theorem dX3_wasTold_9 : decode cX3_wasTold 9 = .ok (.iand, 1) := by decide +kernel
theorem dX3_wasTold_10 : decode cX3_wasTold 10 = .ok (.iconst 1, 1) := by decide +kernel
theorem dX3_wasTold_11 : decode cX3_wasTold 11 = .ok (.if_icmp .ne 7, 3) := by decide +kernel
theorem dX3_wasTold_14 : decode cX3_wasTold 14 = .ok (.iconst 1, 1) := by decide +kernel
theorem dX3_wasTold_15 : decode cX3_wasTold 15 = .ok (.goto 4, 3) := by decide +kernel
theorem dX3_wasTold_18 : decode cX3_wasTold 18 = .ok (.iconst 0, 1) := by decide +kernel
theorem dX3_wasTold_19 : decode cX3_wasTold 19 = .ok (.ireturn, 1) := by decide +kernel
theorem dX3_wasTakenBack_0 : decode cX3_wasTakenBack 0 = .ok (.aload_n 0, 1) := by decide +kernel
theorem dX3_wasTakenBack_1 : decode cX3_wasTakenBack 1 = .ok (.getfield 18, 3) := by decide +kernel
theorem dX3_wasTakenBack_4 : decode cX3_wasTakenBack 4 = .ok (.iload_n 1, 1) := by decide +kernel
theorem dX3_wasTakenBack_5 : decode cX3_wasTakenBack 5 = .ok (.iaload, 1) := by decide +kernel
theorem dX3_wasTakenBack_6 : decode cX3_wasTakenBack 6 = .ok (.iload_n 2, 1) := by decide +kernel
theorem dX3_wasTakenBack_7 : decode cX3_wasTakenBack 7 = .ok (.ishr, 1) := by decide +kernel
theorem dX3_wasTakenBack_8 : decode cX3_wasTakenBack 8 = .ok (.iconst 1, 1) := by decide +kernel
theorem dX3_wasTakenBack_9 : decode cX3_wasTakenBack 9 = .ok (.iand, 1) := by decide +kernel
theorem dX3_wasTakenBack_10 : decode cX3_wasTakenBack 10 = .ok (.iconst 1, 1) := by decide +kernel
theorem dX3_wasTakenBack_11 : decode cX3_wasTakenBack 11 = .ok (.if_icmp .ne 7, 3) := by decide +kernel
theorem dX3_wasTakenBack_14 : decode cX3_wasTakenBack 14 = .ok (.iconst 1, 1) := by decide +kernel
theorem dX3_wasTakenBack_15 : decode cX3_wasTakenBack 15 = .ok (.goto 4, 3) := by decide +kernel
theorem dX3_wasTakenBack_18 : decode cX3_wasTakenBack 18 = .ok (.iconst 0, 1) := by decide +kernel
theorem dX3_wasTakenBack_19 : decode cX3_wasTakenBack 19 = .ok (.ireturn, 1) := by decide +kernel
theorem dX3_tell_0 : decode cX3_tell 0 = .ok (.aload_n 0, 1) := by decide +kernel
theorem dX3_tell_1 : decode cX3_tell 1 = .ok (.getfield 15, 3) := by decide +kernel
theorem dX3_tell_4 : decode cX3_tell 4 = .ok (.iload_n 1, 1) := by decide +kernel
theorem dX3_tell_5 : decode cX3_tell 5 = .ok (.dup2, 1) := by decide +kernel
theorem dX3_tell_6 : decode cX3_tell 6 = .ok (.iaload, 1) := by decide +kernel
theorem dX3_tell_7 : decode cX3_tell 7 = .ok (.iconst 1, 1) := by decide +kernel
theorem dX3_tell_8 : decode cX3_tell 8 = .ok (.iload_n 2, 1) := by decide +kernel
theorem dX3_tell_9 : decode cX3_tell 9 = .ok (.ishl, 1) := by decide +kernel
theorem dX3_tell_10 : decode cX3_tell 10 = .ok (.ior, 1) := by decide +kernel
theorem dX3_tell_11 : decode cX3_tell 11 = .ok (.iastore, 1) := by decide +kernel
theorem dX3_tell_12 : decode cX3_tell 12 = .ok (.return_, 1) := by decide +kernel
theorem dX3_takeBack_0 : decode cX3_takeBack 0 = .ok (.aload_n 0, 1) := by decide +kernel
theorem dX3_takeBack_1 : decode cX3_takeBack 1 = .ok (.getfield 18, 3) := by decide +kernel
theorem dX3_takeBack_4 : decode cX3_takeBack 4 = .ok (.iload_n 1, 1) := by decide +kernel
theorem dX3_takeBack_5 : decode cX3_takeBack 5 = .ok (.dup2, 1) := by decide +kernel
theorem dX3_takeBack_6 : decode cX3_takeBack 6 = .ok (.iaload, 1) := by decide +kernel
theorem dX3_takeBack_7 : decode cX3_takeBack 7 = .ok (.iconst 1, 1) := by decide +kernel
theorem dX3_takeBack_8 : decode cX3_takeBack 8 = .ok (.iload_n 2, 1) := by decide +kernel
theorem dX3_takeBack_9 : decode cX3_takeBack 9 = .ok (.ishl, 1) := by decide +kernel
theorem dX3_takeBack_10 : decode cX3_takeBack 10 = .ok (.ior, 1) := by decide +kernel
theorem dX3_takeBack_11 : decode cX3_takeBack 11 = .ok (.iastore, 1) := by decide +kernel
theorem dX3_takeBack_12 : decode cX3_takeBack 12 = .ok (.return_, 1) := by decide +kernel
theorem dX4_init_0 : decode cX4_init 0 = .ok (.aload_n 0, 1) := by decide +kernel
theorem dX4_init_1 : decode cX4_init 1 = .ok (.invokespecial 3, 3) := by decide +kernel
theorem dX4_init_4 : decode cX4_init 4 = .ok (.aload_n 0, 1) := by decide +kernel
theorem dX4_init_5 : decode cX4_init 5 = .ok (.bipush 30, 2) := by decide +kernel
theorem dX4_init_7 : decode cX4_init 7 = .ok (.newarray .int, 2) := by decide +kernel
theorem dX4_init_9 : decode cX4_init 9 = .ok (.putfield 9, 3) := by decide +kernel
theorem dX4_init_12 : decode cX4_init 12 = .ok (.aload_n 0, 1) := by decide +kernel
theorem dX4_init_13 : decode cX4_init 13 = .ok (.iconst (-1), 1) := by decide +kernel
theorem dX4_init_14 : decode cX4_init 14 = .ok (.putfield 15, 3) := by decide +kernel
theorem dX4_init_17 : decode cX4_init 17 = .ok (.return_, 1) := by decide +kernel
theorem dX4_isMissing_0 : decode cX4_isMissing 0 = .ok (.aload_n 0, 1) := by decide +kernel
theorem dX4_isMissing_1 : decode cX4_isMissing 1 = .ok (.getfield 15, 3) := by decide +kernel
theorem dX4_isMissing_4 : decode cX4_isMissing 4 = .ok (.iconst (-1), 1) := by decide +kernel
theorem dX4_isMissing_5 : decode cX4_isMissing 5 = .ok (.if_icmp .ne 7, 3) := by decide +kernel
theorem dX4_isMissing_8 : decode cX4_isMissing 8 = .ok (.iconst 1, 1) := by decide +kernel
theorem dX4_isMissing_9 : decode cX4_isMissing 9 = .ok (.goto 4, 3) := by decide +kernel
theorem dX4_isMissing_12 : decode cX4_isMissing 12 = .ok (.iconst 0, 1) := by decide +kernel
theorem dX4_isMissing_13 : decode cX4_isMissing 13 = .ok (.ireturn, 1) := by decide +kernel
theorem dX4_begin_0 : decode cX4_begin 0 = .ok (.iconst 0, 1) := by decide +kernel
theorem dX4_begin_1 : decode cX4_begin 1 = .ok (.istore_n 2, 1) := by decide +kernel
theorem dX4_begin_2 : decode cX4_begin 2 = .ok (.iload_n 2, 1) := by decide +kernel
theorem dX4_begin_3 : decode cX4_begin 3 = .ok (.aload_n 0, 1) := by decide +kernel
theorem dX4_begin_4 : decode cX4_begin 4 = .ok (.getfield 9, 3) := by decide +kernel
theorem dX4_begin_7 : decode cX4_begin 7 = .ok (.arraylength, 1) := by decide +kernel
theorem dX4_begin_8 : decode cX4_begin 8 = .ok (.if_icmp .ge 16, 3) := by decide +kernel
theorem dX4_begin_11 : decode cX4_begin 11 = .ok (.aload_n 0, 1) := by decide +kernel
theorem dX4_begin_12 : decode cX4_begin 12 = .ok (.getfield 9, 3) := by decide +kernel
theorem dX4_begin_15 : decode cX4_begin 15 = .ok (.iload_n 2, 1) := by decide +kernel
theorem dX4_begin_16 : decode cX4_begin 16 = .ok (.iconst 0, 1) := by decide +kernel
theorem dX4_begin_17 : decode cX4_begin 17 = .ok (.iastore, 1) := by decide +kernel
theorem dX4_begin_18 : decode cX4_begin 18 = .ok (.iinc 2 1, 3) := by decide +kernel
theorem dX4_begin_21 : decode cX4_begin 21 = .ok (.goto (-19), 3) := by decide +kernel
theorem dX4_begin_24 : decode cX4_begin 24 = .ok (.aload_n 0, 1) := by decide +kernel
theorem dX4_begin_25 : decode cX4_begin 25 = .ok (.iload_n 1, 1) := by decide +kernel
theorem dX4_begin_26 : decode cX4_begin 26 = .ok (.putfield 15, 3) := by decide +kernel
theorem dX4_begin_29 : decode cX4_begin 29 = .ok (.return_, 1) := by decide +kernel
theorem dX4_has_0 : decode cX4_has 0 = .ok (.iload_n 1, 1) := by decide +kernel
theorem dX4_has_1 : decode cX4_has 1 = .ok (.ifCond .lt 17, 3) := by decide +kernel
theorem dX4_has_4 : decode cX4_has 4 = .ok (.iload_n 2, 1) := by decide +kernel
theorem dX4_has_5 : decode cX4_has 5 = .ok (.aload_n 0, 1) := by decide +kernel
theorem dX4_has_6 : decode cX4_has 6 = .ok (.getfield 15, 3) := by decide +kernel
theorem dX4_has_9 : decode cX4_has 9 = .ok (.iload_n 1, 1) := by decide +kernel
theorem dX4_has_10 : decode cX4_has 10 = .ok (.isub, 1) := by decide +kernel
theorem dX4_has_11 : decode cX4_has 11 = .ok (.if_icmp .gt 7, 3) := by decide +kernel
theorem dX4_has_14 : decode cX4_has 14 = .ok (.iconst 1, 1) := by decide +kernel
theorem dX4_has_15 : decode cX4_has 15 = .ok (.goto 4, 3) := by decide +kernel
theorem dX4_has_18 : decode cX4_has 18 = .ok (.iconst 0, 1) := by decide +kernel
theorem dX4_has_19 : decode cX4_has 19 = .ok (.ireturn, 1) := by decide +kernel
theorem dX4_sizes_0 : decode cX4_sizes 0 = .ok (.lconst 0, 1) := by decide +kernel
theorem dX4_sizes_1 : decode cX4_sizes 1 = .ok (.lstore_n 3, 1) := by decide +kernel
theorem dX4_sizes_2 : decode cX4_sizes 2 = .ok (.iload_n 1, 1) := by decide +kernel
theorem dX4_sizes_3 : decode cX4_sizes 3 = .ok (.istore 5, 2) := by decide +kernel
theorem dX4_sizes_5 : decode cX4_sizes 5 = .ok (.iload 5, 2) := by decide +kernel
theorem dX4_sizes_7 : decode cX4_sizes 7 = .ok (.iload_n 1, 1) := by decide +kernel
theorem dX4_sizes_8 : decode cX4_sizes 8 = .ok (.iload_n 2, 1) := by decide +kernel
theorem dX4_sizes_9 : decode cX4_sizes 9 = .ok (.iadd, 1) := by decide +kernel
theorem dX4_sizes_10 : decode cX4_sizes 10 = .ok (.if_icmp .ge 23, 3) := by decide +kernel
theorem dX4_sizes_13 : decode cX4_sizes 13 = .ok (.lload_n 3, 1) := by decide +kernel
theorem dX4_sizes_14 : decode cX4_sizes 14 = .ok (.aload_n 0, 1) := by decide +kernel
theorem dX4_sizes_15 : decode cX4_sizes 15 = .ok (.getfield 9, 3) := by decide +kernel
theorem dX4_sizes_18 : decode cX4_sizes 18 = .ok (.iload 5, 2) := by decide +kernel
theorem dX4_sizes_20 : decode cX4_sizes 20 = .ok (.iaload, 1) := by decide +kernel
theorem dX4_sizes_21 : decode cX4_sizes 21 = .ok (.invokestatic 19, 3) := by decide +kernel
theorem dX4_sizes_24 : decode cX4_sizes 24 = .ok (.i2l, 1) := by decide +kernel
theorem dX4_sizes_25 : decode cX4_sizes 25 = .ok (.ladd, 1) := by decide +kernel
theorem dX4_sizes_26 : decode cX4_sizes 26 = .ok (.lstore_n 3, 1) := by decide +kernel
theorem dX4_sizes_27 : decode cX4_sizes 27 = .ok (.iinc 5 1, 3) := by decide +kernel
theorem dX4_sizes_30 : decode cX4_sizes 30 = .ok (.goto (-25), 3) := by decide +kernel
theorem dX4_sizes_33 : decode cX4_sizes 33 = .ok (.lload_n 3, 1) := by decide +kernel
theorem dX4_sizes_34 : decode cX4_sizes 34 = .ok (.lreturn, 1) := by decide +kernel
theorem dX4_firstPick_0 : decode cX4_firstPick 0 = .ok (.iload_n 2, 1) := by decide +kernel
theorem dX4_firstPick_1 : decode cX4_firstPick 1 = .ok (.istore 5, 2) := by decide +kernel
theorem dX4_firstPick_3 : decode cX4_firstPick 3 = .ok (.iload 5, 2) := by decide +kernel
theorem dX4_firstPick_5 : decode cX4_firstPick 5 = .ok (.aload_n 0, 1) := by decide +kernel
theorem dX4_firstPick_6 : decode cX4_firstPick 6 = .ok (.getfield 15, 3) := by decide +kernel
theorem dX4_firstPick_9 : decode cX4_firstPick 9 = .ok (.iload_n 1, 1) := by decide +kernel
theorem dX4_firstPick_10 : decode cX4_firstPick 10 = .ok (.isub, 1) := by decide +kernel
theorem dX4_firstPick_11 : decode cX4_firstPick 11 = .ok (.if_icmp .gt 45, 3) := by decide +kernel
theorem dX4_firstPick_14 : decode cX4_firstPick 14 = .ok (.aload_n 0, 1) := by decide +kernel
theorem dX4_firstPick_15 : decode cX4_firstPick 15 = .ok (.iload 5, 2) := by decide +kernel
theorem dX4_firstPick_17 : decode cX4_firstPick 17 = .ok (.iload_n 1, 1) := by decide +kernel
theorem dX4_firstPick_18 : decode cX4_firstPick 18 = .ok (.invokevirtual 25, 3) := by decide +kernel
theorem dX4_firstPick_21 : decode cX4_firstPick 21 = .ok (.iload_n 2, 1) := by decide +kernel
theorem dX4_firstPick_22 : decode cX4_firstPick 22 = .ok (.i2l, 1) := by decide +kernel
theorem dX4_firstPick_23 : decode cX4_firstPick 23 = .ok (.lmul, 1) := by decide +kernel
theorem dX4_firstPick_24 : decode cX4_firstPick 24 = .ok (.iload 4, 2) := by decide +kernel
theorem dX4_firstPick_26 : decode cX4_firstPick 26 = .ok (.i2l, 1) := by decide +kernel
theorem dX4_firstPick_27 : decode cX4_firstPick 27 = .ok (.lmul, 1) := by decide +kernel
theorem dX4_firstPick_28 : decode cX4_firstPick 28 = .ok (.aload_n 0, 1) := by decide +kernel
theorem dX4_firstPick_29 : decode cX4_firstPick 29 = .ok (.iload 5, 2) := by decide +kernel
theorem dX4_firstPick_31 : decode cX4_firstPick 31 = .ok (.iload_n 2, 1) := by decide +kernel
theorem dX4_firstPick_32 : decode cX4_firstPick 32 = .ok (.isub, 1) := by decide +kernel
theorem dX4_firstPick_33 : decode cX4_firstPick 33 = .ok (.iload_n 2, 1) := by decide +kernel
theorem dX4_firstPick_34 : decode cX4_firstPick 34 = .ok (.invokevirtual 25, 3) := by decide +kernel
theorem dX4_firstPick_37 : decode cX4_firstPick 37 = .ok (.iload_n 1, 1) := by decide +kernel
theorem dX4_firstPick_38 : decode cX4_firstPick 38 = .ok (.i2l, 1) := by decide +kernel
theorem dX4_firstPick_39 : decode cX4_firstPick 39 = .ok (.lmul, 1) := by decide +kernel
theorem dX4_firstPick_40 : decode cX4_firstPick 40 = .ok (.iload_n 3, 1) := by decide +kernel
theorem dX4_firstPick_41 : decode cX4_firstPick 41 = .ok (.i2l, 1) := by decide +kernel
theorem dX4_firstPick_42 : decode cX4_firstPick 42 = .ok (.lmul, 1) := by decide +kernel
theorem dX4_firstPick_43 : decode cX4_firstPick 43 = .ok (.lcmp, 1) := by decide +kernel
theorem dX4_firstPick_44 : decode cX4_firstPick 44 = .ok (.ifCond .le 6, 3) := by decide +kernel
theorem dX4_firstPick_47 : decode cX4_firstPick 47 = .ok (.iload 5, 2) := by decide +kernel
theorem dX4_firstPick_49 : decode cX4_firstPick 49 = .ok (.ireturn, 1) := by decide +kernel
theorem dX4_firstPick_50 : decode cX4_firstPick 50 = .ok (.iinc 5 1, 3) := by decide +kernel
theorem dX4_firstPick_53 : decode cX4_firstPick 53 = .ok (.goto (-50), 3) := by decide +kernel
theorem dX4_firstPick_56 : decode cX4_firstPick 56 = .ok (.bipush (-9), 2) := by decide +kernel
theorem dX4_firstPick_58 : decode cX4_firstPick 58 = .ok (.ireturn, 1) := by decide +kernel
theorem dX5_init_0 : decode cX5_init 0 = .ok (.aload_n 0, 1) := by decide +kernel
theorem dX5_init_1 : decode cX5_init 1 = .ok (.invokespecial 1, 3) := by decide +kernel
theorem dX5_init_4 : decode cX5_init 4 = .ok (.aload_n 0, 1) := by decide +kernel
theorem dX5_init_5 : decode cX5_init 5 = .ok (.new 7, 3) := by decide +kernel
theorem dX5_init_8 : decode cX5_init 8 = .ok (.dup, 1) := by decide +kernel
theorem dX5_init_9 : decode cX5_init 9 = .ok (.invokespecial 9, 3) := by decide +kernel
theorem dX5_init_12 : decode cX5_init 12 = .ok (.putfield 10, 3) := by decide +kernel
theorem dX5_init_15 : decode cX5_init 15 = .ok (.aload_n 0, 1) := by decide +kernel
theorem dX5_init_16 : decode cX5_init 16 = .ok (.iload_n 1, 1) := by decide +kernel
theorem dX5_init_17 : decode cX5_init 17 = .ok (.putfield 16, 3) := by decide +kernel
theorem dX5_init_20 : decode cX5_init 20 = .ok (.return_, 1) := by decide +kernel
theorem dX6_init_0 : decode cX6_init 0 = .ok (.aload_n 0, 1) := by decide +kernel
theorem dX6_init_1 : decode cX6_init 1 = .ok (.invokespecial 1, 3) := by decide +kernel
theorem dX6_init_4 : decode cX6_init 4 = .ok (.aload_n 0, 1) := by decide +kernel
theorem dX6_init_5 : decode cX6_init 5 = .ok (.iload_n 1, 1) := by decide +kernel
theorem dX6_init_6 : decode cX6_init 6 = .ok (.putfield 7, 3) := by decide +kernel
theorem dX6_init_9 : decode cX6_init 9 = .ok (.return_, 1) := by decide +kernel
theorem dX7_init_0 : decode cX7_init 0 = .ok (.aload_n 0, 1) := by decide +kernel
theorem dX7_init_1 : decode cX7_init 1 = .ok (.invokespecial 3, 3) := by decide +kernel
theorem dX7_init_4 : decode cX7_init 4 = .ok (.aload_n 0, 1) := by decide +kernel
theorem dX7_init_5 : decode cX7_init 5 = .ok (.sipush 144, 3) := by decide +kernel
theorem dX7_init_8 : decode cX7_init 8 = .ok (.newarray .int, 2) := by decide +kernel
theorem dX7_init_10 : decode cX7_init 10 = .ok (.putfield 9, 3) := by decide +kernel
theorem dX7_init_13 : decode cX7_init 13 = .ok (.aload_n 0, 1) := by decide +kernel
theorem dX7_init_14 : decode cX7_init 14 = .ok (.iload_n 1, 1) := by decide +kernel
theorem dX7_init_15 : decode cX7_init 15 = .ok (.invokevirtual 15, 3) := by decide +kernel
theorem dX7_init_18 : decode cX7_init 18 = .ok (.return_, 1) := by decide +kernel
theorem dX7_reckon_0 : decode cX7_reckon 0 = .ok (.iconst 0, 1) := by decide +kernel
theorem dX7_reckon_1 : decode cX7_reckon 1 = .ok (.istore_n 2, 1) := by decide +kernel
theorem dX7_reckon_2 : decode cX7_reckon 2 = .ok (.iload_n 2, 1) := by decide +kernel
theorem dX7_reckon_3 : decode cX7_reckon 3 = .ok (.sipush 144, 3) := by decide +kernel
theorem dX7_reckon_6 : decode cX7_reckon 6 = .ok (.if_icmp .ge 40, 3) := by decide +kernel
theorem dX7_reckon_9 : decode cX7_reckon 9 = .ok (.iload_n 2, 1) := by decide +kernel
theorem dX7_reckon_10 : decode cX7_reckon 10 = .ok (.bipush 12, 2) := by decide +kernel
theorem dX7_reckon_12 : decode cX7_reckon 12 = .ok (.idiv, 1) := by decide +kernel
theorem dX7_reckon_13 : decode cX7_reckon 13 = .ok (.istore_n 3, 1) := by decide +kernel
theorem dX7_reckon_14 : decode cX7_reckon 14 = .ok (.iload_n 2, 1) := by decide +kernel
theorem dX7_reckon_15 : decode cX7_reckon 15 = .ok (.bipush 12, 2) := by decide +kernel
theorem dX7_reckon_17 : decode cX7_reckon 17 = .ok (.irem, 1) := by decide +kernel
theorem dX7_reckon_18 : decode cX7_reckon 18 = .ok (.istore 4, 2) := by decide +kernel
theorem dX7_reckon_20 : decode cX7_reckon 20 = .ok (.aload_n 0, 1) := by decide +kernel
theorem dX7_reckon_21 : decode cX7_reckon 21 = .ok (.getfield 9, 3) := by decide +kernel
theorem dX7_reckon_24 : decode cX7_reckon 24 = .ok (.iload_n 2, 1) := by decide +kernel
theorem dX7_reckon_25 : decode cX7_reckon 25 = .ok (.iload_n 1, 1) := by decide +kernel
theorem dX7_reckon_26 : decode cX7_reckon 26 = .ok (.iload_n 3, 1) := by decide +kernel
theorem dX7_reckon_27 : decode cX7_reckon 27 = .ok (.iload_n 3, 1) := by decide +kernel
theorem dX7_reckon_28 : decode cX7_reckon 28 = .ok (.imul, 1) := by decide +kernel
theorem dX7_reckon_29 : decode cX7_reckon 29 = .ok (.iload 4, 2) := by decide +kernel
theorem dX7_reckon_31 : decode cX7_reckon 31 = .ok (.iload 4, 2) := by decide +kernel
theorem dX7_reckon_33 : decode cX7_reckon 33 = .ok (.imul, 1) := by decide +kernel
theorem dX7_reckon_34 : decode cX7_reckon 34 = .ok (.iadd, 1) := by decide +kernel
theorem dX7_reckon_35 : decode cX7_reckon 35 = .ok (.imul, 1) := by decide +kernel
theorem dX7_reckon_36 : decode cX7_reckon 36 = .ok (.invokestatic 19, 3) := by decide +kernel
theorem dX7_reckon_39 : decode cX7_reckon 39 = .ok (.iastore, 1) := by decide +kernel
theorem dX7_reckon_40 : decode cX7_reckon 40 = .ok (.iinc 2 1, 3) := by decide +kernel
theorem dX7_reckon_43 : decode cX7_reckon 43 = .ok (.goto (-41), 3) := by decide +kernel
theorem dX7_reckon_46 : decode cX7_reckon 46 = .ok (.return_, 1) := by decide +kernel
theorem dX7_between_0 : decode cX7_between 0 = .ok (.iload_n 1, 1) := by decide +kernel
theorem dX7_between_1 : decode cX7_between 1 = .ok (.bipush 12, 2) := by decide +kernel
theorem dX7_between_3 : decode cX7_between 3 = .ok (.idiv, 1) := by decide +kernel
theorem dX7_between_4 : decode cX7_between 4 = .ok (.iload_n 2, 1) := by decide +kernel
theorem dX7_between_5 : decode cX7_between 5 = .ok (.bipush 12, 2) := by decide +kernel
theorem dX7_between_7 : decode cX7_between 7 = .ok (.idiv, 1) := by decide +kernel
theorem dX7_between_8 : decode cX7_between 8 = .ok (.isub, 1) := by decide +kernel
theorem dX7_between_9 : decode cX7_between 9 = .ok (.invokestatic 23, 3) := by decide +kernel
theorem dX7_between_12 : decode cX7_between 12 = .ok (.istore_n 3, 1) := by decide +kernel
theorem dX7_between_13 : decode cX7_between 13 = .ok (.iload_n 1, 1) := by decide +kernel
theorem dX7_between_14 : decode cX7_between 14 = .ok (.bipush 12, 2) := by decide +kernel
theorem dX7_between_16 : decode cX7_between 16 = .ok (.irem, 1) := by decide +kernel
theorem dX7_between_17 : decode cX7_between 17 = .ok (.iload_n 2, 1) := by decide +kernel
theorem dX7_between_18 : decode cX7_between 18 = .ok (.bipush 12, 2) := by decide +kernel
theorem dX7_between_20 : decode cX7_between 20 = .ok (.irem, 1) := by decide +kernel
theorem dX7_between_21 : decode cX7_between 21 = .ok (.isub, 1) := by decide +kernel
theorem dX7_between_22 : decode cX7_between 22 = .ok (.invokestatic 23, 3) := by decide +kernel
theorem dX7_between_25 : decode cX7_between 25 = .ok (.istore 4, 2) := by decide +kernel
theorem dX7_between_27 : decode cX7_between 27 = .ok (.aload_n 0, 1) := by decide +kernel
theorem dX7_between_28 : decode cX7_between 28 = .ok (.getfield 9, 3) := by decide +kernel
theorem dX7_between_31 : decode cX7_between 31 = .ok (.bipush 12, 2) := by decide +kernel
theorem dX7_between_33 : decode cX7_between 33 = .ok (.iload_n 3, 1) := by decide +kernel
theorem dX7_between_34 : decode cX7_between 34 = .ok (.imul, 1) := by decide +kernel
theorem dX7_between_35 : decode cX7_between 35 = .ok (.iload 4, 2) := by decide +kernel
theorem dX7_between_37 : decode cX7_between 37 = .ok (.iadd, 1) := by decide +kernel
theorem dX7_between_38 : decode cX7_between 38 = .ok (.iaload, 1) := by decide +kernel
theorem dX7_between_39 : decode cX7_between 39 = .ok (.ireturn, 1) := by decide +kernel
theorem dX7_root_0 : decode cX7_root 0 = .ok (.iconst 0, 1) := by decide +kernel
theorem dX7_root_1 : decode cX7_root 1 = .ok (.istore_n 1, 1) := by decide +kernel
theorem dX7_root_2 : decode cX7_root 2 = .ok (.sipush 256, 3) := by decide +kernel
theorem dX7_root_5 : decode cX7_root 5 = .ok (.istore_n 2, 1) := by decide +kernel
theorem dX7_root_6 : decode cX7_root 6 = .ok (.iload_n 2, 1) := by decide +kernel
theorem dX7_root_7 : decode cX7_root 7 = .ok (.ifCond .le 25, 3) := by decide +kernel
theorem dX7_root_10 : decode cX7_root 10 = .ok (.iload_n 1, 1) := by decide +kernel
theorem dX7_root_11 : decode cX7_root 11 = .ok (.iload_n 2, 1) := by decide +kernel
theorem dX7_root_12 : decode cX7_root 12 = .ok (.iadd, 1) := by decide +kernel
theorem dX7_root_13 : decode cX7_root 13 = .ok (.iload_n 1, 1) := by decide +kernel
theorem dX7_root_14 : decode cX7_root 14 = .ok (.iload_n 2, 1) := by decide +kernel
theorem dX7_root_15 : decode cX7_root 15 = .ok (.iadd, 1) := by decide +kernel
theorem dX7_root_16 : decode cX7_root 16 = .ok (.imul, 1) := by decide +kernel
theorem dX7_root_17 : decode cX7_root 17 = .ok (.iload_n 0, 1) := by decide +kernel
theorem dX7_root_18 : decode cX7_root 18 = .ok (.if_icmp .gt 7, 3) := by decide +kernel
theorem dX7_root_21 : decode cX7_root 21 = .ok (.iload_n 1, 1) := by decide +kernel
theorem dX7_root_22 : decode cX7_root 22 = .ok (.iload_n 2, 1) := by decide +kernel
theorem dX7_root_23 : decode cX7_root 23 = .ok (.iadd, 1) := by decide +kernel
theorem dX7_root_24 : decode cX7_root 24 = .ok (.istore_n 1, 1) := by decide +kernel
theorem dX7_root_25 : decode cX7_root 25 = .ok (.iload_n 2, 1) := by decide +kernel
theorem dX7_root_26 : decode cX7_root 26 = .ok (.iconst 2, 1) := by decide +kernel
theorem dX7_root_27 : decode cX7_root 27 = .ok (.idiv, 1) := by decide +kernel
theorem dX7_root_28 : decode cX7_root 28 = .ok (.istore_n 2, 1) := by decide +kernel
theorem dX7_root_29 : decode cX7_root 29 = .ok (.goto (-23), 3) := by decide +kernel
theorem dX7_root_32 : decode cX7_root 32 = .ok (.iload_n 1, 1) := by decide +kernel
theorem dX7_root_33 : decode cX7_root 33 = .ok (.ireturn, 1) := by decide +kernel
theorem dX8_init_0 : decode cX8_init 0 = .ok (.aload_n 0, 1) := by decide +kernel
theorem dX8_init_1 : decode cX8_init 1 = .ok (.invokespecial 3, 3) := by decide +kernel
theorem dX8_init_4 : decode cX8_init 4 = .ok (.aload_n 0, 1) := by decide +kernel
theorem dX8_init_5 : decode cX8_init 5 = .ok (.new 9, 3) := by decide +kernel
theorem dX8_init_8 : decode cX8_init 8 = .ok (.dup, 1) := by decide +kernel
theorem dX8_init_9 : decode cX8_init 9 = .ok (.bipush 100, 2) := by decide +kernel
theorem dX8_init_11 : decode cX8_init 11 = .ok (.invokespecial 11, 3) := by decide +kernel
theorem dX8_init_14 : decode cX8_init 14 = .ok (.putfield 14, 3) := by decide +kernel
theorem dX8_init_17 : decode cX8_init 17 = .ok (.aload_n 0, 1) := by decide +kernel
theorem dX8_init_18 : decode cX8_init 18 = .ok (.new 18, 3) := by decide +kernel
theorem dX8_init_21 : decode cX8_init 21 = .ok (.dup, 1) := by decide +kernel
theorem dX8_init_22 : decode cX8_init 22 = .ok (.invokespecial 20, 3) := by decide +kernel
theorem dX8_init_25 : decode cX8_init 25 = .ok (.putfield 21, 3) := by decide +kernel
theorem dX8_init_28 : decode cX8_init 28 = .ok (.aload_n 0, 1) := by decide +kernel
theorem dX8_init_29 : decode cX8_init 29 = .ok (.new 18, 3) := by decide +kernel
theorem dX8_init_32 : decode cX8_init 32 = .ok (.dup, 1) := by decide +kernel
theorem dX8_init_33 : decode cX8_init 33 = .ok (.invokespecial 20, 3) := by decide +kernel
theorem dX8_init_36 : decode cX8_init 36 = .ok (.putfield 25, 3) := by decide +kernel
theorem dX8_init_39 : decode cX8_init 39 = .ok (.aload_n 0, 1) := by decide +kernel
theorem dX8_init_40 : decode cX8_init 40 = .ok (.new 18, 3) := by decide +kernel
theorem dX8_init_43 : decode cX8_init 43 = .ok (.dup, 1) := by decide +kernel
theorem dX8_init_44 : decode cX8_init 44 = .ok (.invokespecial 20, 3) := by decide +kernel
theorem dX8_init_47 : decode cX8_init 47 = .ok (.putfield 28, 3) := by decide +kernel
theorem dX8_init_50 : decode cX8_init 50 = .ok (.aload_n 0, 1) := by decide +kernel
theorem dX8_init_51 : decode cX8_init 51 = .ok (.new 18, 3) := by decide +kernel
theorem dX8_init_54 : decode cX8_init 54 = .ok (.dup, 1) := by decide +kernel
theorem dX8_init_55 : decode cX8_init 55 = .ok (.invokespecial 20, 3) := by decide +kernel
theorem dX8_init_58 : decode cX8_init 58 = .ok (.putfield 31, 3) := by decide +kernel
theorem dX8_init_61 : decode cX8_init 61 = .ok (.aload_n 0, 1) := by decide +kernel
theorem dX8_init_62 : decode cX8_init 62 = .ok (.new 18, 3) := by decide +kernel
theorem dX8_init_65 : decode cX8_init 65 = .ok (.dup, 1) := by decide +kernel
theorem dX8_init_66 : decode cX8_init 66 = .ok (.invokespecial 20, 3) := by decide +kernel
theorem dX8_init_69 : decode cX8_init 69 = .ok (.putfield 34, 3) := by decide +kernel
theorem dX8_init_72 : decode cX8_init 72 = .ok (.aload_n 0, 1) := by decide +kernel
theorem dX8_init_73 : decode cX8_init 73 = .ok (.new 37, 3) := by decide +kernel
theorem dX8_init_76 : decode cX8_init 76 = .ok (.dup, 1) := by decide +kernel
theorem dX8_init_77 : decode cX8_init 77 = .ok (.invokespecial 39, 3) := by decide +kernel
theorem dX8_init_80 : decode cX8_init 80 = .ok (.putfield 40, 3) := by decide +kernel
theorem dX8_init_83 : decode cX8_init 83 = .ok (.aload_n 0, 1) := by decide +kernel
theorem dX8_init_84 : decode cX8_init 84 = .ok (.bipush 6, 2) := by decide +kernel
theorem dX8_init_86 : decode cX8_init 86 = .ok (.newarray .int, 2) := by decide +kernel
theorem dX8_init_88 : decode cX8_init 88 = .ok (.dup, 1) := by decide +kernel
theorem dX8_init_89 : decode cX8_init 89 = .ok (.iconst 0, 1) := by decide +kernel
theorem dX8_init_90 : decode cX8_init 90 = .ok (.iconst 0, 1) := by decide +kernel
theorem dX8_init_91 : decode cX8_init 91 = .ok (.iastore, 1) := by decide +kernel
theorem dX8_init_92 : decode cX8_init 92 = .ok (.dup, 1) := by decide +kernel
theorem dX8_init_93 : decode cX8_init 93 = .ok (.iconst 1, 1) := by decide +kernel
theorem dX8_init_94 : decode cX8_init 94 = .ok (.iconst 4, 1) := by decide +kernel
theorem dX8_init_95 : decode cX8_init 95 = .ok (.iastore, 1) := by decide +kernel
theorem dX8_init_96 : decode cX8_init 96 = .ok (.dup, 1) := by decide +kernel
theorem dX8_init_97 : decode cX8_init 97 = .ok (.iconst 2, 1) := by decide +kernel
theorem dX8_init_98 : decode cX8_init 98 = .ok (.bipush 8, 2) := by decide +kernel
theorem dX8_init_100 : decode cX8_init 100 = .ok (.iastore, 1) := by decide +kernel
theorem dX8_init_101 : decode cX8_init 101 = .ok (.dup, 1) := by decide +kernel
theorem dX8_init_102 : decode cX8_init 102 = .ok (.iconst 3, 1) := by decide +kernel
theorem dX8_init_103 : decode cX8_init 103 = .ok (.bipush 12, 2) := by decide +kernel
theorem dX8_init_105 : decode cX8_init 105 = .ok (.iastore, 1) := by decide +kernel
theorem dX8_init_106 : decode cX8_init 106 = .ok (.dup, 1) := by decide +kernel
theorem dX8_init_107 : decode cX8_init 107 = .ok (.iconst 4, 1) := by decide +kernel
theorem dX8_init_108 : decode cX8_init 108 = .ok (.bipush 16, 2) := by decide +kernel
theorem dX8_init_110 : decode cX8_init 110 = .ok (.iastore, 1) := by decide +kernel
theorem dX8_init_111 : decode cX8_init 111 = .ok (.dup, 1) := by decide +kernel
theorem dX8_init_112 : decode cX8_init 112 = .ok (.iconst 5, 1) := by decide +kernel
theorem dX8_init_113 : decode cX8_init 113 = .ok (.bipush 61, 2) := by decide +kernel
theorem dX8_init_115 : decode cX8_init 115 = .ok (.iastore, 1) := by decide +kernel
theorem dX8_init_116 : decode cX8_init 116 = .ok (.putfield 44, 3) := by decide +kernel
theorem dX8_init_119 : decode cX8_init 119 = .ok (.aload_n 0, 1) := by decide +kernel
theorem dX8_init_120 : decode cX8_init 120 = .ok (.bipush 6, 2) := by decide +kernel
theorem dX8_init_122 : decode cX8_init 122 = .ok (.newarray .int, 2) := by decide +kernel
theorem dX8_init_124 : decode cX8_init 124 = .ok (.putfield 48, 3) := by decide +kernel
theorem dX8_init_127 : decode cX8_init 127 = .ok (.aload_n 0, 1) := by decide +kernel
theorem dX8_init_128 : decode cX8_init 128 = .ok (.iconst 2, 1) := by decide +kernel
theorem dX8_init_129 : decode cX8_init 129 = .ok (.putfield 51, 3) := by decide +kernel
theorem dX8_init_132 : decode cX8_init 132 = .ok (.return_, 1) := by decide +kernel
theorem dX8_rule_0 : decode cX8_rule 0 = .ok (.iload_n 1, 1) := by decide +kernel
theorem dX8_rule_1 : decode cX8_rule 1 = .ok (.iconst 1, 1) := by decide +kernel
theorem dX8_rule_2 : decode cX8_rule 2 = .ok (.sipush 400, 3) := by decide +kernel
theorem dX8_rule_5 : decode cX8_rule 5 = .ok (.invokestatic 55, 3) := by decide +kernel
theorem dX8_rule_8 : decode cX8_rule 8 = .ok (.ifCond .eq 13, 3) := by decide +kernel
theorem dX8_rule_11 : decode cX8_rule 11 = .ok (.iload_n 2, 1) := by decide +kernel
theorem dX8_rule_12 : decode cX8_rule 12 = .ok (.iconst 0, 1) := by decide +kernel
theorem dX8_rule_13 : decode cX8_rule 13 = .ok (.bipush 50, 2) := by decide +kernel
theorem dX8_rule_15 : decode cX8_rule 15 = .ok (.invokestatic 55, 3) := by decide +kernel
theorem dX8_rule_18 : decode cX8_rule 18 = .ok (.ifCond .ne 5, 3) := by decide +kernel
theorem dX8_rule_21 : decode cX8_rule 21 = .ok (.iconst (-1), 1) := by decide +kernel
theorem dX8_rule_22 : decode cX8_rule 22 = .ok (.ireturn, 1) := by decide +kernel
theorem dX8_rule_23 : decode cX8_rule 23 = .ok (.aload_n 0, 1) := by decide +kernel
theorem dX8_rule_24 : decode cX8_rule 24 = .ok (.getfield 28, 3) := by decide +kernel
theorem dX8_rule_27 : decode cX8_rule 27 = .ok (.invokevirtual 59, 3) := by decide +kernel
theorem dX8_rule_30 : decode cX8_rule 30 = .ok (.ifCond .ne 6, 3) := by decide +kernel
theorem dX8_rule_33 : decode cX8_rule 33 = .ok (.bipush (-4), 2) := by decide +kernel
theorem dX8_rule_35 : decode cX8_rule 35 = .ok (.ireturn, 1) := by decide +kernel
theorem dX8_rule_36 : decode cX8_rule 36 = .ok (.aload_n 0, 1) := by decide +kernel
theorem dX8_rule_37 : decode cX8_rule 37 = .ok (.getfield 14, 3) := by decide +kernel
theorem dX8_rule_40 : decode cX8_rule 40 = .ok (.iload_n 1, 1) := by decide +kernel
theorem dX8_rule_41 : decode cX8_rule 41 = .ok (.invokevirtual 63, 3) := by decide +kernel
theorem dX8_rule_44 : decode cX8_rule 44 = .ok (.aload_n 0, 1) := by decide +kernel
theorem dX8_rule_45 : decode cX8_rule 45 = .ok (.iload_n 2, 1) := by decide +kernel
theorem dX8_rule_46 : decode cX8_rule 46 = .ok (.putfield 51, 3) := by decide +kernel
theorem dX8_rule_49 : decode cX8_rule 49 = .ok (.iconst 1, 1) := by decide +kernel
theorem dX8_rule_50 : decode cX8_rule 50 = .ok (.ireturn, 1) := by decide +kernel
theorem dX8_station_0 : decode cX8_station 0 = .ok (.iload_n 1, 1) := by decide +kernel
theorem dX8_station_1 : decode cX8_station 1 = .ok (.invokestatic 66, 3) := by decide +kernel
theorem dX8_station_4 : decode cX8_station 4 = .ok (.ifCond .ne 5, 3) := by decide +kernel
theorem dX8_station_7 : decode cX8_station 7 = .ok (.iconst (-1), 1) := by decide +kernel
theorem dX8_station_8 : decode cX8_station 8 = .ok (.ireturn, 1) := by decide +kernel
theorem dX8_station_9 : decode cX8_station 9 = .ok (.aload_n 0, 1) := by decide +kernel
theorem dX8_station_10 : decode cX8_station 10 = .ok (.getfield 21, 3) := by decide +kernel
theorem dX8_station_13 : decode cX8_station 13 = .ok (.invokevirtual 70, 3) := by decide +kernel
theorem dX8_station_16 : decode cX8_station 16 = .ok (.bipush 10, 2) := by decide +kernel
theorem dX8_station_18 : decode cX8_station 18 = .ok (.if_icmp .lt 6, 3) := by decide +kernel
theorem dX8_station_21 : decode cX8_station 21 = .ok (.bipush (-2), 2) := by decide +kernel
theorem dX8_station_23 : decode cX8_station 23 = .ok (.ireturn, 1) := by decide +kernel
theorem dX8_station_24 : decode cX8_station 24 = .ok (.aload_n 0, 1) := by decide +kernel
theorem dX8_station_25 : decode cX8_station 25 = .ok (.getfield 28, 3) := by decide +kernel
theorem dX8_station_28 : decode cX8_station 28 = .ok (.invokevirtual 59, 3) := by decide +kernel
theorem dX8_station_31 : decode cX8_station 31 = .ok (.ifCond .ne 6, 3) := by decide +kernel
theorem dX8_station_34 : decode cX8_station 34 = .ok (.bipush (-4), 2) := by decide +kernel
theorem dX8_station_36 : decode cX8_station 36 = .ok (.ireturn, 1) := by decide +kernel
theorem dX8_station_37 : decode cX8_station 37 = .ok (.aload_n 0, 1) := by decide +kernel
theorem dX8_station_38 : decode cX8_station 38 = .ok (.getfield 21, 3) := by decide +kernel
theorem dX8_station_41 : decode cX8_station 41 = .ok (.new 74, 3) := by decide +kernel
theorem dX8_station_44 : decode cX8_station 44 = .ok (.dup, 1) := by decide +kernel
theorem dX8_station_45 : decode cX8_station 45 = .ok (.iload_n 1, 1) := by decide +kernel
theorem dX8_station_46 : decode cX8_station 46 = .ok (.invokespecial 76, 3) := by decide +kernel
theorem dX8_station_49 : decode cX8_station 49 = .ok (.invokevirtual 77, 3) := by decide +kernel
theorem dX8_station_52 : decode cX8_station 52 = .ok (.pop, 1) := by decide +kernel
theorem dX8_station_53 : decode cX8_station 53 = .ok (.aload_n 0, 1) := by decide +kernel
theorem dX8_station_54 : decode cX8_station 54 = .ok (.getfield 21, 3) := by decide +kernel
theorem dX8_station_57 : decode cX8_station 57 = .ok (.invokevirtual 70, 3) := by decide +kernel
theorem dX8_station_60 : decode cX8_station 60 = .ok (.iconst 1, 1) := by decide +kernel
theorem dX8_station_61 : decode cX8_station 61 = .ok (.isub, 1) := by decide +kernel
theorem dX8_station_62 : decode cX8_station 62 = .ok (.ireturn, 1) := by decide +kernel
theorem dX8_town_0 : decode cX8_town 0 = .ok (.iload_n 1, 1) := by decide +kernel
theorem dX8_town_1 : decode cX8_town 1 = .ok (.invokestatic 66, 3) := by decide +kernel
theorem dX8_town_4 : decode cX8_town 4 = .ok (.ifCond .ne 5, 3) := by decide +kernel
theorem dX8_town_7 : decode cX8_town 7 = .ok (.iconst (-1), 1) := by decide +kernel
theorem dX8_town_8 : decode cX8_town 8 = .ok (.ireturn, 1) := by decide +kernel
theorem dX8_town_9 : decode cX8_town 9 = .ok (.aload_n 0, 1) := by decide +kernel
theorem dX8_town_10 : decode cX8_town 10 = .ok (.getfield 25, 3) := by decide +kernel
theorem dX8_town_13 : decode cX8_town 13 = .ok (.invokevirtual 70, 3) := by decide +kernel
theorem dX8_town_16 : decode cX8_town 16 = .ok (.bipush 6, 2) := by decide +kernel
theorem dX8_town_18 : decode cX8_town 18 = .ok (.if_icmp .lt 6, 3) := by decide +kernel
theorem dX8_town_21 : decode cX8_town 21 = .ok (.bipush (-2), 2) := by decide +kernel
theorem dX8_town_23 : decode cX8_town 23 = .ok (.ireturn, 1) := by decide +kernel
theorem dX8_town_24 : decode cX8_town 24 = .ok (.aload_n 0, 1) := by decide +kernel
theorem dX8_town_25 : decode cX8_town 25 = .ok (.getfield 25, 3) := by decide +kernel
theorem dX8_town_28 : decode cX8_town 28 = .ok (.new 81, 3) := by decide +kernel
theorem dX8_town_31 : decode cX8_town 31 = .ok (.dup, 1) := by decide +kernel
theorem dX8_town_32 : decode cX8_town 32 = .ok (.iload_n 1, 1) := by decide +kernel
theorem dX8_town_33 : decode cX8_town 33 = .ok (.invokespecial 83, 3) := by decide +kernel
theorem dX8_town_36 : decode cX8_town 36 = .ok (.invokevirtual 77, 3) := by decide +kernel
theorem dX8_town_39 : decode cX8_town 39 = .ok (.pop, 1) := by decide +kernel
theorem dX8_town_40 : decode cX8_town 40 = .ok (.aload_n 0, 1) := by decide +kernel
theorem dX8_town_41 : decode cX8_town 41 = .ok (.getfield 25, 3) := by decide +kernel
theorem dX8_town_44 : decode cX8_town 44 = .ok (.invokevirtual 70, 3) := by decide +kernel
theorem dX8_town_47 : decode cX8_town 47 = .ok (.iconst 1, 1) := by decide +kernel
theorem dX8_town_48 : decode cX8_town 48 = .ok (.isub, 1) := by decide +kernel
theorem dX8_town_49 : decode cX8_town 49 = .ok (.ireturn, 1) := by decide +kernel
theorem dX8_deaf_0 : decode cX8_deaf 0 = .ok (.aload_n 0, 1) := by decide +kernel
theorem dX8_deaf_1 : decode cX8_deaf 1 = .ok (.iload_n 1, 1) := by decide +kernel
theorem dX8_deaf_2 : decode cX8_deaf 2 = .ok (.invokevirtual 84, 3) := by decide +kernel
theorem dX8_deaf_5 : decode cX8_deaf 5 = .ok (.ifCond .ne 5, 3) := by decide +kernel
theorem dX8_deaf_8 : decode cX8_deaf 8 = .ok (.iconst (-1), 1) := by decide +kernel
theorem dX8_deaf_9 : decode cX8_deaf 9 = .ok (.ireturn, 1) := by decide +kernel
theorem dX8_deaf_10 : decode cX8_deaf 10 = .ok (.aload_n 0, 1) := by decide +kernel
theorem dX8_deaf_11 : decode cX8_deaf 11 = .ok (.getfield 21, 3) := by decide +kernel
theorem dX8_deaf_14 : decode cX8_deaf 14 = .ok (.iload_n 1, 1) := by decide +kernel
theorem dX8_deaf_15 : decode cX8_deaf 15 = .ok (.invokevirtual 87, 3) := by decide +kernel
theorem dX8_deaf_18 : decode cX8_deaf 18 = .ok (.checkcast 74, 3) := by decide +kernel
theorem dX8_deaf_21 : decode cX8_deaf 21 = .ok (.astore_n 3, 1) := by decide +kernel
theorem dX8_deaf_22 : decode cX8_deaf 22 = .ok (.aload_n 3, 1) := by decide +kernel
theorem dX8_deaf_23 : decode cX8_deaf 23 = .ok (.getfield 91, 3) := by decide +kernel
theorem dX8_deaf_26 : decode cX8_deaf 26 = .ok (.istore 4, 2) := by decide +kernel
theorem dX8_deaf_28 : decode cX8_deaf 28 = .ok (.aload_n 3, 1) := by decide +kernel
theorem dX8_deaf_29 : decode cX8_deaf 29 = .ok (.iload_n 2, 1) := by decide +kernel
theorem dX8_deaf_30 : decode cX8_deaf 30 = .ok (.putfield 91, 3) := by decide +kernel
theorem dX8_deaf_33 : decode cX8_deaf 33 = .ok (.aload_n 0, 1) := by decide +kernel
theorem dX8_deaf_34 : decode cX8_deaf 34 = .ok (.getfield 40, 3) := by decide +kernel
theorem dX8_deaf_37 : decode cX8_deaf 37 = .ok (.invokevirtual 95, 3) := by decide +kernel
theorem dX8_deaf_40 : decode cX8_deaf 40 = .ok (.iload 4, 2) := by decide +kernel
theorem dX8_deaf_42 : decode cX8_deaf 42 = .ok (.ifCond .eq 7, 3) := by decide +kernel
theorem dX8_deaf_45 : decode cX8_deaf 45 = .ok (.iconst 1, 1) := by decide +kernel
theorem dX8_deaf_46 : decode cX8_deaf 46 = .ok (.goto 4, 3) := by decide +kernel
theorem dX8_deaf_49 : decode cX8_deaf 49 = .ok (.iconst 0, 1) := by decide +kernel
theorem dX8_deaf_50 : decode cX8_deaf 50 = .ok (.ireturn, 1) := by decide +kernel
theorem dX8_travel_0 : decode cX8_travel 0 = .ok (.iload_n 1, 1) := by decide +kernel
theorem dX8_travel_1 : decode cX8_travel 1 = .ok (.invokestatic 66, 3) := by decide +kernel
theorem dX8_travel_4 : decode cX8_travel 4 = .ok (.ifCond .eq 10, 3) := by decide +kernel
theorem dX8_travel_7 : decode cX8_travel 7 = .ok (.iload_n 2, 1) := by decide +kernel
theorem dX8_travel_8 : decode cX8_travel 8 = .ok (.invokestatic 66, 3) := by decide +kernel
theorem dX8_travel_11 : decode cX8_travel 11 = .ok (.ifCond .ne 5, 3) := by decide +kernel
theorem dX8_travel_14 : decode cX8_travel 14 = .ok (.iconst (-1), 1) := by decide +kernel
theorem dX8_travel_15 : decode cX8_travel 15 = .ok (.ireturn, 1) := by decide +kernel
theorem dX8_travel_16 : decode cX8_travel 16 = .ok (.aload_n 0, 1) := by decide +kernel
theorem dX8_travel_17 : decode cX8_travel 17 = .ok (.getfield 14, 3) := by decide +kernel
theorem dX8_travel_20 : decode cX8_travel 20 = .ok (.iload_n 1, 1) := by decide +kernel
theorem dX8_travel_21 : decode cX8_travel 21 = .ok (.iload_n 2, 1) := by decide +kernel
theorem dX8_travel_22 : decode cX8_travel 22 = .ok (.invokevirtual 98, 3) := by decide +kernel
theorem dX8_travel_25 : decode cX8_travel 25 = .ok (.ireturn, 1) := by decide +kernel
theorem dX8_later_0 : decode cX8_later 0 = .ok (.iload_n 1, 1) := by decide +kernel
theorem dX8_later_1 : decode cX8_later 1 = .ok (.iconst 0, 1) := by decide +kernel
theorem dX8_later_2 : decode cX8_later 2 = .ok (.ldc 102, 2) := by decide +kernel
theorem dX8_later_4 : decode cX8_later 4 = .ok (.aload_n 0, 1) := by decide +kernel
theorem dX8_later_5 : decode cX8_later 5 = .ok (.getfield 103, 3) := by decide +kernel
theorem dX8_later_8 : decode cX8_later 8 = .ok (.isub, 1) := by decide +kernel
theorem dX8_later_9 : decode cX8_later 9 = .ok (.invokestatic 55, 3) := by decide +kernel
theorem dX8_later_12 : decode cX8_later 12 = .ok (.ifCond .ne 5, 3) := by decide +kernel
theorem dX8_later_15 : decode cX8_later 15 = .ok (.iconst (-1), 1) := by decide +kernel
theorem dX8_later_16 : decode cX8_later 16 = .ok (.ireturn, 1) := by decide +kernel
theorem dX8_later_17 : decode cX8_later 17 = .ok (.aload_n 0, 1) := by decide +kernel
theorem dX8_later_18 : decode cX8_later 18 = .ok (.dup, 1) := by decide +kernel
theorem dX8_later_19 : decode cX8_later 19 = .ok (.getfield 103, 3) := by decide +kernel
theorem dX8_later_22 : decode cX8_later 22 = .ok (.iload_n 1, 1) := by decide +kernel
theorem dX8_later_23 : decode cX8_later 23 = .ok (.iadd, 1) := by decide +kernel
theorem dX8_later_24 : decode cX8_later 24 = .ok (.putfield 103, 3) := by decide +kernel
theorem dX8_later_27 : decode cX8_later 27 = .ok (.aload_n 0, 1) := by decide +kernel
theorem dX8_later_28 : decode cX8_later 28 = .ok (.getfield 40, 3) := by decide +kernel
theorem dX8_later_31 : decode cX8_later 31 = .ok (.invokevirtual 95, 3) := by decide +kernel
theorem dX8_later_34 : decode cX8_later 34 = .ok (.aload_n 0, 1) := by decide +kernel
theorem dX8_later_35 : decode cX8_later 35 = .ok (.getfield 103, 3) := by decide +kernel
theorem dX8_later_38 : decode cX8_later 38 = .ok (.ireturn, 1) := by decide +kernel
theorem dX8_row_0 : decode cX8_row 0 = .ok (.aload_n 0, 1) := by decide +kernel
theorem dX8_row_1 : decode cX8_row 1 = .ok (.iload_n 1, 1) := by decide +kernel
theorem dX8_row_2 : decode cX8_row 2 = .ok (.invokevirtual 84, 3) := by decide +kernel
theorem dX8_row_5 : decode cX8_row 5 = .ok (.ifCond .eq 9, 3) := by decide +kernel
theorem dX8_row_8 : decode cX8_row 8 = .ok (.iload_n 2, 1) := by decide +kernel
theorem dX8_row_9 : decode cX8_row 9 = .ok (.bipush 30, 2) := by decide +kernel
theorem dX8_row_11 : decode cX8_row 11 = .ok (.if_icmp .le 5, 3) := by decide +kernel
theorem dX8_row_14 : decode cX8_row 14 = .ok (.iconst (-1), 1) := by decide +kernel
theorem dX8_row_15 : decode cX8_row 15 = .ok (.ireturn, 1) := by decide +kernel
theorem dX8_row_16 : decode cX8_row 16 = .ok (.iload_n 2, 1) := by decide +kernel
theorem dX8_row_17 : decode cX8_row 17 = .ok (.ifCond .ge 9, 3) := by decide +kernel
theorem dX8_row_20 : decode cX8_row 20 = .ok (.aload_n 0, 1) := by decide +kernel
theorem dX8_row_21 : decode cX8_row 21 = .ok (.iconst 5, 1) := by decide +kernel
theorem dX8_row_22 : decode cX8_row 22 = .ok (.invokevirtual 106, 3) := by decide +kernel
theorem dX8_row_25 : decode cX8_row 25 = .ok (.ireturn, 1) := by decide +kernel
theorem dX8_row_26 : decode cX8_row 26 = .ok (.aload_n 0, 1) := by decide +kernel
theorem dX8_row_27 : decode cX8_row 27 = .ok (.iload_n 1, 1) := by decide +kernel
theorem dX8_row_28 : decode cX8_row 28 = .ok (.invokevirtual 110, 3) := by decide +kernel
theorem dX8_row_31 : decode cX8_row 31 = .ok (.iload_n 2, 1) := by decide +kernel
theorem dX8_row_32 : decode cX8_row 32 = .ok (.invokevirtual 114, 3) := by decide +kernel
theorem dX8_row_35 : decode cX8_row 35 = .ok (.iload_n 2, 1) := by decide +kernel
theorem dX8_row_36 : decode cX8_row 36 = .ok (.ireturn, 1) := by decide +kernel
theorem dX8_lay_0 : decode cX8_lay 0 = .ok (.aload_n 0, 1) := by decide +kernel
theorem dX8_lay_1 : decode cX8_lay 1 = .ok (.iload_n 1, 1) := by decide +kernel
theorem dX8_lay_2 : decode cX8_lay 2 = .ok (.invokevirtual 84, 3) := by decide +kernel
theorem dX8_lay_5 : decode cX8_lay 5 = .ok (.ifCond .eq 14, 3) := by decide +kernel
theorem dX8_lay_8 : decode cX8_lay 8 = .ok (.iload_n 3, 1) := by decide +kernel
theorem dX8_lay_9 : decode cX8_lay 9 = .ok (.ldc 119, 2) := by decide +kernel
theorem dX8_lay_11 : decode cX8_lay 11 = .ok (.ldc 102, 2) := by decide +kernel
theorem dX8_lay_13 : decode cX8_lay 13 = .ok (.invokestatic 55, 3) := by decide +kernel
theorem dX8_lay_16 : decode cX8_lay 16 = .ok (.ifCond .ne 5, 3) := by decide +kernel
theorem dX8_lay_19 : decode cX8_lay 19 = .ok (.iconst (-1), 1) := by decide +kernel
theorem dX8_lay_20 : decode cX8_lay 20 = .ok (.ireturn, 1) := by decide +kernel
theorem dX8_lay_21 : decode cX8_lay 21 = .ok (.aload_n 0, 1) := by decide +kernel
theorem dX8_lay_22 : decode cX8_lay 22 = .ok (.iload_n 1, 1) := by decide +kernel
theorem dX8_lay_23 : decode cX8_lay 23 = .ok (.invokevirtual 110, 3) := by decide +kernel
theorem dX8_lay_26 : decode cX8_lay 26 = .ok (.astore 4, 2) := by decide +kernel
theorem dX8_lay_28 : decode cX8_lay 28 = .ok (.aload 4, 2) := by decide +kernel
theorem dX8_lay_30 : decode cX8_lay 30 = .ok (.invokevirtual 120, 3) := by decide +kernel
theorem dX8_lay_33 : decode cX8_lay 33 = .ok (.ifCond .eq 9, 3) := by decide +kernel
theorem dX8_lay_36 : decode cX8_lay 36 = .ok (.aload_n 0, 1) := by decide +kernel
theorem dX8_lay_37 : decode cX8_lay 37 = .ok (.iconst 1, 1) := by decide +kernel
theorem dX8_lay_38 : decode cX8_lay 38 = .ok (.invokevirtual 106, 3) := by decide +kernel
theorem dX8_lay_41 : decode cX8_lay 41 = .ok (.ireturn, 1) := by decide +kernel
theorem dX8_lay_42 : decode cX8_lay 42 = .ok (.aload 4, 2) := by decide +kernel
theorem dX8_lay_44 : decode cX8_lay 44 = .ok (.iload_n 2, 1) := by decide +kernel
theorem dX8_lay_45 : decode cX8_lay 45 = .ok (.iconst 1, 1) := by decide +kernel
theorem dX8_lay_46 : decode cX8_lay 46 = .ok (.invokevirtual 123, 3) := by decide +kernel
theorem dX8_lay_49 : decode cX8_lay 49 = .ok (.ifCond .ne 9, 3) := by decide +kernel
theorem dX8_lay_52 : decode cX8_lay 52 = .ok (.aload_n 0, 1) := by decide +kernel
theorem dX8_lay_53 : decode cX8_lay 53 = .ok (.iconst 2, 1) := by decide +kernel
theorem dX8_lay_54 : decode cX8_lay 54 = .ok (.invokevirtual 106, 3) := by decide +kernel
theorem dX8_lay_57 : decode cX8_lay 57 = .ok (.ireturn, 1) := by decide +kernel
theorem dX8_lay_58 : decode cX8_lay 58 = .ok (.aload_n 0, 1) := by decide +kernel
theorem dX8_lay_59 : decode cX8_lay 59 = .ok (.aload 4, 2) := by decide +kernel
theorem dX8_lay_61 : decode cX8_lay 61 = .ok (.getfield 127, 3) := by decide +kernel
theorem dX8_lay_64 : decode cX8_lay 64 = .ok (.iload_n 2, 1) := by decide +kernel
theorem dX8_lay_65 : decode cX8_lay 65 = .ok (.iaload, 1) := by decide +kernel
theorem dX8_lay_66 : decode cX8_lay 66 = .ok (.putfield 130, 3) := by decide +kernel
theorem dX8_lay_69 : decode cX8_lay 69 = .ok (.aload 4, 2) := by decide +kernel
theorem dX8_lay_71 : decode cX8_lay 71 = .ok (.getfield 127, 3) := by decide +kernel
theorem dX8_lay_74 : decode cX8_lay 74 = .ok (.iload_n 2, 1) := by decide +kernel
theorem dX8_lay_75 : decode cX8_lay 75 = .ok (.iload_n 3, 1) := by decide +kernel
theorem dX8_lay_76 : decode cX8_lay 76 = .ok (.iastore, 1) := by decide +kernel
theorem dX8_lay_77 : decode cX8_lay 77 = .ok (.iconst 1, 1) := by decide +kernel
theorem dX8_lay_78 : decode cX8_lay 78 = .ok (.ireturn, 1) := by decide +kernel
theorem dX8_tear_0 : decode cX8_tear 0 = .ok (.aload_n 0, 1) := by decide +kernel
theorem dX8_tear_1 : decode cX8_tear 1 = .ok (.iload_n 1, 1) := by decide +kernel
theorem dX8_tear_2 : decode cX8_tear 2 = .ok (.invokevirtual 84, 3) := by decide +kernel
theorem dX8_tear_5 : decode cX8_tear 5 = .ok (.ifCond .ne 5, 3) := by decide +kernel
theorem dX8_tear_8 : decode cX8_tear 8 = .ok (.iconst (-1), 1) := by decide +kernel
theorem dX8_tear_9 : decode cX8_tear 9 = .ok (.ireturn, 1) := by decide +kernel
theorem dX8_tear_10 : decode cX8_tear 10 = .ok (.aload_n 0, 1) := by decide +kernel
theorem dX8_tear_11 : decode cX8_tear 11 = .ok (.iload_n 1, 1) := by decide +kernel
theorem dX8_tear_12 : decode cX8_tear 12 = .ok (.invokevirtual 110, 3) := by decide +kernel
theorem dX8_tear_15 : decode cX8_tear 15 = .ok (.astore_n 2, 1) := by decide +kernel
theorem dX8_tear_16 : decode cX8_tear 16 = .ok (.aload_n 2, 1) := by decide +kernel
theorem dX8_tear_17 : decode cX8_tear 17 = .ok (.invokevirtual 120, 3) := by decide +kernel
theorem dX8_tear_20 : decode cX8_tear 20 = .ok (.ifCond .eq 9, 3) := by decide +kernel
theorem dX8_tear_23 : decode cX8_tear 23 = .ok (.aload_n 0, 1) := by decide +kernel
theorem dX8_tear_24 : decode cX8_tear 24 = .ok (.iconst 1, 1) := by decide +kernel
theorem dX8_tear_25 : decode cX8_tear 25 = .ok (.invokevirtual 106, 3) := by decide +kernel
theorem dX8_tear_28 : decode cX8_tear 28 = .ok (.ireturn, 1) := by decide +kernel
theorem dX8_tear_29 : decode cX8_tear 29 = .ok (.aload_n 2, 1) := by decide +kernel
theorem dX8_tear_30 : decode cX8_tear 30 = .ok (.iconst (-1), 1) := by decide +kernel
theorem dX8_tear_31 : decode cX8_tear 31 = .ok (.putfield 133, 3) := by decide +kernel
theorem dX8_tear_34 : decode cX8_tear 34 = .ok (.iconst 1, 1) := by decide +kernel
theorem dX8_tear_35 : decode cX8_tear 35 = .ok (.ireturn, 1) := by decide +kernel
theorem dX8_copy_0 : decode cX8_copy 0 = .ok (.aload_n 0, 1) := by decide +kernel
theorem dX8_copy_1 : decode cX8_copy 1 = .ok (.iload_n 1, 1) := by decide +kernel
theorem dX8_copy_2 : decode cX8_copy 2 = .ok (.invokevirtual 84, 3) := by decide +kernel
theorem dX8_copy_5 : decode cX8_copy 5 = .ok (.ifCond .eq 11, 3) := by decide +kernel
theorem dX8_copy_8 : decode cX8_copy 8 = .ok (.aload_n 0, 1) := by decide +kernel
theorem dX8_copy_9 : decode cX8_copy 9 = .ok (.iload_n 3, 1) := by decide +kernel
theorem dX8_copy_10 : decode cX8_copy 10 = .ok (.invokevirtual 84, 3) := by decide +kernel
theorem dX8_copy_13 : decode cX8_copy 13 = .ok (.ifCond .ne 5, 3) := by decide +kernel
theorem dX8_copy_16 : decode cX8_copy 16 = .ok (.iconst (-1), 1) := by decide +kernel
theorem dX8_copy_17 : decode cX8_copy 17 = .ok (.ireturn, 1) := by decide +kernel
theorem dX8_copy_18 : decode cX8_copy 18 = .ok (.iload 5, 2) := by decide +kernel
theorem dX8_copy_20 : decode cX8_copy 20 = .ok (.ifCond .ge 9, 3) := by decide +kernel
theorem dX8_copy_23 : decode cX8_copy 23 = .ok (.aload_n 0, 1) := by decide +kernel
theorem dX8_copy_24 : decode cX8_copy 24 = .ok (.iconst 5, 1) := by decide +kernel
theorem dX8_copy_25 : decode cX8_copy 25 = .ok (.invokevirtual 106, 3) := by decide +kernel
theorem dX8_copy_28 : decode cX8_copy 28 = .ok (.ireturn, 1) := by decide +kernel
theorem dX8_copy_29 : decode cX8_copy 29 = .ok (.aload_n 0, 1) := by decide +kernel
theorem dX8_copy_30 : decode cX8_copy 30 = .ok (.iload_n 1, 1) := by decide +kernel
theorem dX8_copy_31 : decode cX8_copy 31 = .ok (.invokevirtual 110, 3) := by decide +kernel
theorem dX8_copy_34 : decode cX8_copy 34 = .ok (.astore 6, 2) := by decide +kernel
theorem dX8_copy_36 : decode cX8_copy 36 = .ok (.aload_n 0, 1) := by decide +kernel
theorem dX8_copy_37 : decode cX8_copy 37 = .ok (.iload_n 3, 1) := by decide +kernel
theorem dX8_copy_38 : decode cX8_copy 38 = .ok (.invokevirtual 110, 3) := by decide +kernel
theorem dX8_copy_41 : decode cX8_copy 41 = .ok (.astore 7, 2) := by decide +kernel
theorem dX8_copy_43 : decode cX8_copy 43 = .ok (.aload 6, 2) := by decide +kernel
theorem dX8_copy_45 : decode cX8_copy 45 = .ok (.invokevirtual 120, 3) := by decide +kernel
theorem dX8_copy_48 : decode cX8_copy 48 = .ok (.ifCond .ne 11, 3) := by decide +kernel
theorem dX8_copy_51 : decode cX8_copy 51 = .ok (.aload 7, 2) := by decide +kernel
theorem dX8_copy_53 : decode cX8_copy 53 = .ok (.invokevirtual 120, 3) := by decide +kernel
theorem dX8_copy_56 : decode cX8_copy 56 = .ok (.ifCond .eq 9, 3) := by decide +kernel
theorem dX8_copy_59 : decode cX8_copy 59 = .ok (.aload_n 0, 1) := by decide +kernel
theorem dX8_copy_60 : decode cX8_copy 60 = .ok (.iconst 1, 1) := by decide +kernel
theorem dX8_copy_61 : decode cX8_copy 61 = .ok (.invokevirtual 106, 3) := by decide +kernel
theorem dX8_copy_64 : decode cX8_copy 64 = .ok (.ireturn, 1) := by decide +kernel
theorem dX8_copy_65 : decode cX8_copy 65 = .ok (.aload 6, 2) := by decide +kernel
theorem dX8_copy_67 : decode cX8_copy 67 = .ok (.iload_n 2, 1) := by decide +kernel
theorem dX8_copy_68 : decode cX8_copy 68 = .ok (.iload 5, 2) := by decide +kernel
theorem dX8_copy_70 : decode cX8_copy 70 = .ok (.invokevirtual 123, 3) := by decide +kernel
theorem dX8_copy_73 : decode cX8_copy 73 = .ok (.ifCond .eq 15, 3) := by decide +kernel
theorem dX8_copy_76 : decode cX8_copy 76 = .ok (.aload 7, 2) := by decide +kernel
theorem dX8_copy_78 : decode cX8_copy 78 = .ok (.iload 4, 2) := by decide +kernel
theorem dX8_copy_80 : decode cX8_copy 80 = .ok (.iload 5, 2) := by decide +kernel
theorem dX8_copy_82 : decode cX8_copy 82 = .ok (.invokevirtual 123, 3) := by decide +kernel
theorem dX8_copy_85 : decode cX8_copy 85 = .ok (.ifCond .ne 9, 3) := by decide +kernel
theorem dX8_copy_88 : decode cX8_copy 88 = .ok (.aload_n 0, 1) := by decide +kernel
theorem dX8_copy_89 : decode cX8_copy 89 = .ok (.iconst 2, 1) := by decide +kernel
theorem dX8_copy_90 : decode cX8_copy 90 = .ok (.invokevirtual 106, 3) := by decide +kernel
theorem dX8_copy_93 : decode cX8_copy 93 = .ok (.ireturn, 1) := by decide +kernel
theorem dX8_copy_94 : decode cX8_copy 94 = .ok (.aload 6, 2) := by decide +kernel
theorem dX8_copy_96 : decode cX8_copy 96 = .ok (.getfield 127, 3) := by decide +kernel
theorem dX8_copy_99 : decode cX8_copy 99 = .ok (.iload_n 2, 1) := by decide +kernel
theorem dX8_copy_100 : decode cX8_copy 100 = .ok (.aload 7, 2) := by decide +kernel
theorem dX8_copy_102 : decode cX8_copy 102 = .ok (.getfield 127, 3) := by decide +kernel
theorem dX8_copy_105 : decode cX8_copy 105 = .ok (.iload 4, 2) := by decide +kernel
theorem dX8_copy_107 : decode cX8_copy 107 = .ok (.iload 5, 2) := by decide +kernel
theorem dX8_copy_109 : decode cX8_copy 109 = .ok (.invokestatic 135, 3) := by decide +kernel
theorem dX8_copy_112 : decode cX8_copy 112 = .ok (.iconst 1, 1) := by decide +kernel
theorem dX8_copy_113 : decode cX8_copy 113 = .ok (.ireturn, 1) := by decide +kernel
theorem dX8_mean_0 : decode cX8_mean 0 = .ok (.aload_n 0, 1) := by decide +kernel
theorem dX8_mean_1 : decode cX8_mean 1 = .ok (.iload_n 1, 1) := by decide +kernel
theorem dX8_mean_2 : decode cX8_mean 2 = .ok (.invokevirtual 84, 3) := by decide +kernel
theorem dX8_mean_5 : decode cX8_mean 5 = .ok (.ifCond .ne 5, 3) := by decide +kernel
theorem dX8_mean_8 : decode cX8_mean 8 = .ok (.iconst (-1), 1) := by decide +kernel
theorem dX8_mean_9 : decode cX8_mean 9 = .ok (.ireturn, 1) := by decide +kernel
theorem dX8_mean_10 : decode cX8_mean 10 = .ok (.aload_n 0, 1) := by decide +kernel
theorem dX8_mean_11 : decode cX8_mean 11 = .ok (.iload_n 1, 1) := by decide +kernel
theorem dX8_mean_12 : decode cX8_mean 12 = .ok (.invokevirtual 110, 3) := by decide +kernel
theorem dX8_mean_15 : decode cX8_mean 15 = .ok (.astore_n 2, 1) := by decide +kernel
theorem dX8_mean_16 : decode cX8_mean 16 = .ok (.aload_n 2, 1) := by decide +kernel
theorem dX8_mean_17 : decode cX8_mean 17 = .ok (.invokevirtual 120, 3) := by decide +kernel
theorem dX8_mean_20 : decode cX8_mean 20 = .ok (.ifCond .eq 9, 3) := by decide +kernel
theorem dX8_mean_23 : decode cX8_mean 23 = .ok (.aload_n 0, 1) := by decide +kernel
theorem dX8_mean_24 : decode cX8_mean 24 = .ok (.iconst 1, 1) := by decide +kernel
theorem dX8_mean_25 : decode cX8_mean 25 = .ok (.invokevirtual 106, 3) := by decide +kernel
theorem dX8_mean_28 : decode cX8_mean 28 = .ok (.ireturn, 1) := by decide +kernel
theorem dX8_mean_29 : decode cX8_mean 29 = .ok (.aload_n 2, 1) := by decide +kernel
theorem dX8_mean_30 : decode cX8_mean 30 = .ok (.getfield 133, 3) := by decide +kernel
theorem dX8_mean_33 : decode cX8_mean 33 = .ok (.ifCond .ne 9, 3) := by decide +kernel
theorem dX8_mean_36 : decode cX8_mean 36 = .ok (.aload_n 0, 1) := by decide +kernel
theorem dX8_mean_37 : decode cX8_mean 37 = .ok (.iconst 4, 1) := by decide +kernel
theorem dX8_mean_38 : decode cX8_mean 38 = .ok (.invokevirtual 106, 3) := by decide +kernel
theorem dX8_mean_41 : decode cX8_mean 41 = .ok (.ireturn, 1) := by decide +kernel
theorem dX8_mean_42 : decode cX8_mean 42 = .ok (.aload_n 2, 1) := by decide +kernel
theorem dX8_mean_43 : decode cX8_mean 43 = .ok (.iconst 0, 1) := by decide +kernel
theorem dX8_mean_44 : decode cX8_mean 44 = .ok (.aload_n 2, 1) := by decide +kernel
theorem dX8_mean_45 : decode cX8_mean 45 = .ok (.getfield 133, 3) := by decide +kernel
theorem dX8_mean_48 : decode cX8_mean 48 = .ok (.invokevirtual 141, 3) := by decide +kernel
theorem dX8_mean_51 : decode cX8_mean 51 = .ok (.aload_n 2, 1) := by decide +kernel
theorem dX8_mean_52 : decode cX8_mean 52 = .ok (.getfield 133, 3) := by decide +kernel
theorem dX8_mean_55 : decode cX8_mean 55 = .ok (.i2l, 1) := by decide +kernel
theorem dX8_mean_56 : decode cX8_mean 56 = .ok (.ldiv, 1) := by decide +kernel
theorem dX8_mean_57 : decode cX8_mean 57 = .ok (.l2i, 1) := by decide +kernel
theorem dX8_mean_58 : decode cX8_mean 58 = .ok (.ireturn, 1) := by decide +kernel
theorem dX8_first_0 : decode cX8_first 0 = .ok (.aload_n 0, 1) := by decide +kernel
theorem dX8_first_1 : decode cX8_first 1 = .ok (.iload_n 1, 1) := by decide +kernel
theorem dX8_first_2 : decode cX8_first 2 = .ok (.invokevirtual 84, 3) := by decide +kernel
theorem dX8_first_5 : decode cX8_first 5 = .ok (.ifCond .ne 5, 3) := by decide +kernel
theorem dX8_first_8 : decode cX8_first 8 = .ok (.iconst (-1), 1) := by decide +kernel
theorem dX8_first_9 : decode cX8_first 9 = .ok (.ireturn, 1) := by decide +kernel
theorem dX8_first_10 : decode cX8_first 10 = .ok (.iload_n 2, 1) := by decide +kernel
theorem dX8_first_11 : decode cX8_first 11 = .ok (.iconst 1, 1) := by decide +kernel
theorem dX8_first_12 : decode cX8_first 12 = .ok (.bipush 10, 2) := by decide +kernel
theorem dX8_first_14 : decode cX8_first 14 = .ok (.invokestatic 55, 3) := by decide +kernel
theorem dX8_first_17 : decode cX8_first 17 = .ok (.ifCond .eq 13, 3) := by decide +kernel
theorem dX8_first_20 : decode cX8_first 20 = .ok (.iload_n 3, 1) := by decide +kernel
theorem dX8_first_21 : decode cX8_first 21 = .ok (.iconst 1, 1) := by decide +kernel
theorem dX8_first_22 : decode cX8_first 22 = .ok (.bipush 10, 2) := by decide +kernel
theorem dX8_first_24 : decode cX8_first 24 = .ok (.invokestatic 55, 3) := by decide +kernel
theorem dX8_first_27 : decode cX8_first 27 = .ok (.ifCond .ne 5, 3) := by decide +kernel
theorem dX8_first_30 : decode cX8_first 30 = .ok (.iconst (-1), 1) := by decide +kernel
theorem dX8_first_31 : decode cX8_first 31 = .ok (.ireturn, 1) := by decide +kernel
theorem dX8_first_32 : decode cX8_first 32 = .ok (.iload 4, 2) := by decide +kernel
theorem dX8_first_34 : decode cX8_first 34 = .ok (.iconst 1, 1) := by decide +kernel
theorem dX8_first_35 : decode cX8_first 35 = .ok (.sipush 1000, 3) := by decide +kernel
theorem dX8_first_38 : decode cX8_first 38 = .ok (.invokestatic 55, 3) := by decide +kernel
theorem dX8_first_41 : decode cX8_first 41 = .ok (.ifCond .eq 15, 3) := by decide +kernel
theorem dX8_first_44 : decode cX8_first 44 = .ok (.iload 5, 2) := by decide +kernel
theorem dX8_first_46 : decode cX8_first 46 = .ok (.iconst 1, 1) := by decide +kernel
theorem dX8_first_47 : decode cX8_first 47 = .ok (.sipush 1000, 3) := by decide +kernel
theorem dX8_first_50 : decode cX8_first 50 = .ok (.invokestatic 55, 3) := by decide +kernel
theorem dX8_first_53 : decode cX8_first 53 = .ok (.ifCond .ne 5, 3) := by decide +kernel
theorem dX8_first_56 : decode cX8_first 56 = .ok (.iconst (-1), 1) := by decide +kernel
theorem dX8_first_57 : decode cX8_first 57 = .ok (.ireturn, 1) := by decide +kernel
theorem dX8_first_58 : decode cX8_first 58 = .ok (.aload_n 0, 1) := by decide +kernel
theorem dX8_first_59 : decode cX8_first 59 = .ok (.iload_n 1, 1) := by decide +kernel
theorem dX8_first_60 : decode cX8_first 60 = .ok (.invokevirtual 110, 3) := by decide +kernel
theorem dX8_first_63 : decode cX8_first 63 = .ok (.astore 6, 2) := by decide +kernel
theorem dX8_first_65 : decode cX8_first 65 = .ok (.aload 6, 2) := by decide +kernel
theorem dX8_first_67 : decode cX8_first 67 = .ok (.invokevirtual 120, 3) := by decide +kernel
theorem dX8_first_70 : decode cX8_first 70 = .ok (.ifCond .eq 9, 3) := by decide +kernel
theorem dX8_first_73 : decode cX8_first 73 = .ok (.aload_n 0, 1) := by decide +kernel
theorem dX8_first_74 : decode cX8_first 74 = .ok (.iconst 1, 1) := by decide +kernel
theorem dX8_first_75 : decode cX8_first 75 = .ok (.invokevirtual 106, 3) := by decide +kernel
theorem dX8_first_78 : decode cX8_first 78 = .ok (.ireturn, 1) := by decide +kernel
theorem dX8_first_79 : decode cX8_first 79 = .ok (.aload 6, 2) := by decide +kernel
theorem dX8_first_81 : decode cX8_first 81 = .ok (.iload_n 2, 1) := by decide +kernel
theorem dX8_first_82 : decode cX8_first 82 = .ok (.iload_n 3, 1) := by decide +kernel
theorem dX8_first_83 : decode cX8_first 83 = .ok (.iload 4, 2) := by decide +kernel
theorem dX8_first_85 : decode cX8_first 85 = .ok (.iload 5, 2) := by decide +kernel
theorem dX8_first_87 : decode cX8_first 87 = .ok (.invokevirtual 145, 3) := by decide +kernel
theorem dX8_first_90 : decode cX8_first 90 = .ok (.ireturn, 1) := by decide +kernel
theorem dX8_pick_0 : decode cX8_pick 0 = .ok (.aload_n 0, 1) := by decide +kernel
theorem dX8_pick_1 : decode cX8_pick 1 = .ok (.iload_n 1, 1) := by decide +kernel
theorem dX8_pick_2 : decode cX8_pick 2 = .ok (.invokevirtual 84, 3) := by decide +kernel
theorem dX8_pick_5 : decode cX8_pick 5 = .ok (.ifCond .ne 5, 3) := by decide +kernel
theorem dX8_pick_8 : decode cX8_pick 8 = .ok (.iconst (-1), 1) := by decide +kernel
theorem dX8_pick_9 : decode cX8_pick 9 = .ok (.ireturn, 1) := by decide +kernel
theorem dX8_pick_10 : decode cX8_pick 10 = .ok (.iload_n 2, 1) := by decide +kernel
theorem dX8_pick_11 : decode cX8_pick 11 = .ok (.iconst 0, 1) := by decide +kernel
theorem dX8_pick_12 : decode cX8_pick 12 = .ok (.aload_n 0, 1) := by decide +kernel
theorem dX8_pick_13 : decode cX8_pick 13 = .ok (.getfield 103, 3) := by decide +kernel
theorem dX8_pick_16 : decode cX8_pick 16 = .ok (.invokestatic 55, 3) := by decide +kernel
theorem dX8_pick_19 : decode cX8_pick 19 = .ok (.ifCond .eq 13, 3) := by decide +kernel
theorem dX8_pick_22 : decode cX8_pick 22 = .ok (.iload_n 3, 1) := by decide +kernel
theorem dX8_pick_23 : decode cX8_pick 23 = .ok (.iconst 1, 1) := by decide +kernel
theorem dX8_pick_24 : decode cX8_pick 24 = .ok (.ldc 149, 2) := by decide +kernel
theorem dX8_pick_26 : decode cX8_pick 26 = .ok (.invokestatic 55, 3) := by decide +kernel
theorem dX8_pick_29 : decode cX8_pick 29 = .ok (.ifCond .ne 5, 3) := by decide +kernel
theorem dX8_pick_32 : decode cX8_pick 32 = .ok (.iconst (-1), 1) := by decide +kernel
theorem dX8_pick_33 : decode cX8_pick 33 = .ok (.ireturn, 1) := by decide +kernel
theorem dX8_pick_34 : decode cX8_pick 34 = .ok (.aload_n 0, 1) := by decide +kernel
theorem dX8_pick_35 : decode cX8_pick 35 = .ok (.getfield 28, 3) := by decide +kernel
theorem dX8_pick_38 : decode cX8_pick 38 = .ok (.invokevirtual 70, 3) := by decide +kernel
theorem dX8_pick_41 : decode cX8_pick 41 = .ok (.bipush 60, 2) := by decide +kernel
theorem dX8_pick_43 : decode cX8_pick 43 = .ok (.if_icmp .lt 6, 3) := by decide +kernel
theorem dX8_pick_46 : decode cX8_pick 46 = .ok (.bipush (-2), 2) := by decide +kernel
theorem dX8_pick_48 : decode cX8_pick 48 = .ok (.ireturn, 1) := by decide +kernel
theorem dX8_pick_49 : decode cX8_pick 49 = .ok (.aload_n 0, 1) := by decide +kernel
theorem dX8_pick_50 : decode cX8_pick 50 = .ok (.iload_n 1, 1) := by decide +kernel
theorem dX8_pick_51 : decode cX8_pick 51 = .ok (.iload_n 2, 1) := by decide +kernel
theorem dX8_pick_52 : decode cX8_pick 52 = .ok (.invokevirtual 150, 3) := by decide +kernel
theorem dX8_pick_55 : decode cX8_pick 55 = .ok (.istore 4, 2) := by decide +kernel
theorem dX8_pick_57 : decode cX8_pick 57 = .ok (.iload 4, 2) := by decide +kernel
theorem dX8_pick_59 : decode cX8_pick 59 = .ok (.bipush (-9), 2) := by decide +kernel
theorem dX8_pick_61 : decode cX8_pick 61 = .ok (.if_icmp .eq 51, 3) := by decide +kernel
theorem dX8_pick_64 : decode cX8_pick 64 = .ok (.aload_n 0, 1) := by decide +kernel
theorem dX8_pick_65 : decode cX8_pick 65 = .ok (.getfield 31, 3) := by decide +kernel
theorem dX8_pick_68 : decode cX8_pick 68 = .ok (.iload 4, 2) := by decide +kernel
theorem dX8_pick_70 : decode cX8_pick 70 = .ok (.invokevirtual 87, 3) := by decide +kernel
theorem dX8_pick_73 : decode cX8_pick 73 = .ok (.checkcast 153, 3) := by decide +kernel
theorem dX8_pick_76 : decode cX8_pick 76 = .ok (.iload_n 1, 1) := by decide +kernel
theorem dX8_pick_77 : decode cX8_pick 77 = .ok (.iload_n 2, 1) := by decide +kernel
theorem dX8_pick_78 : decode cX8_pick 78 = .ok (.invokevirtual 155, 3) := by decide +kernel
theorem dX8_pick_81 : decode cX8_pick 81 = .ok (.aload_n 0, 1) := by decide +kernel
theorem dX8_pick_82 : decode cX8_pick 82 = .ok (.getfield 40, 3) := by decide +kernel
theorem dX8_pick_85 : decode cX8_pick 85 = .ok (.invokevirtual 95, 3) := by decide +kernel
theorem dX8_pick_88 : decode cX8_pick 88 = .ok (.aload_n 0, 1) := by decide +kernel
theorem dX8_pick_89 : decode cX8_pick 89 = .ok (.getfield 28, 3) := by decide +kernel
theorem dX8_pick_92 : decode cX8_pick 92 = .ok (.new 159, 3) := by decide +kernel
theorem dX8_pick_95 : decode cX8_pick 95 = .ok (.dup, 1) := by decide +kernel
theorem dX8_pick_96 : decode cX8_pick 96 = .ok (.iload_n 1, 1) := by decide +kernel
theorem dX8_pick_97 : decode cX8_pick 97 = .ok (.iload_n 2, 1) := by decide +kernel
theorem dX8_pick_98 : decode cX8_pick 98 = .ok (.iload_n 3, 1) := by decide +kernel
theorem dX8_pick_99 : decode cX8_pick 99 = .ok (.iconst 1, 1) := by decide +kernel
theorem dX8_pick_100 : decode cX8_pick 100 = .ok (.iload 4, 2) := by decide +kernel
theorem dX8_pick_102 : decode cX8_pick 102 = .ok (.invokespecial 161, 3) := by decide +kernel
theorem dX8_pick_105 : decode cX8_pick 105 = .ok (.invokevirtual 77, 3) := by decide +kernel
theorem dX8_pick_108 : decode cX8_pick 108 = .ok (.pop, 1) := by decide +kernel
theorem dX8_pick_109 : decode cX8_pick 109 = .ok (.iload 4, 2) := by decide +kernel
theorem dX8_pick_111 : decode cX8_pick 111 = .ok (.ireturn, 1) := by decide +kernel
theorem dX8_pick_112 : decode cX8_pick 112 = .ok (.aload_n 0, 1) := by decide +kernel
theorem dX8_pick_113 : decode cX8_pick 113 = .ok (.getfield 31, 3) := by decide +kernel
theorem dX8_pick_116 : decode cX8_pick 116 = .ok (.invokevirtual 70, 3) := by decide +kernel
theorem dX8_pick_119 : decode cX8_pick 119 = .ok (.iconst 5, 1) := by decide +kernel
theorem dX8_pick_120 : decode cX8_pick 120 = .ok (.if_icmp .ge 57, 3) := by decide +kernel
theorem dX8_pick_123 : decode cX8_pick 123 = .ok (.aload_n 0, 1) := by decide +kernel
theorem dX8_pick_124 : decode cX8_pick 124 = .ok (.getfield 31, 3) := by decide +kernel
theorem dX8_pick_127 : decode cX8_pick 127 = .ok (.invokevirtual 70, 3) := by decide +kernel
theorem dX8_pick_130 : decode cX8_pick 130 = .ok (.istore 5, 2) := by decide +kernel
theorem dX8_pick_132 : decode cX8_pick 132 = .ok (.aload_n 0, 1) := by decide +kernel
theorem dX8_pick_133 : decode cX8_pick 133 = .ok (.getfield 31, 3) := by decide +kernel
theorem dX8_pick_136 : decode cX8_pick 136 = .ok (.new 153, 3) := by decide +kernel
theorem dX8_pick_139 : decode cX8_pick 139 = .ok (.dup, 1) := by decide +kernel
theorem dX8_pick_140 : decode cX8_pick 140 = .ok (.iload_n 1, 1) := by decide +kernel
theorem dX8_pick_141 : decode cX8_pick 141 = .ok (.iload_n 2, 1) := by decide +kernel
theorem dX8_pick_142 : decode cX8_pick 142 = .ok (.iload_n 3, 1) := by decide +kernel
theorem dX8_pick_143 : decode cX8_pick 143 = .ok (.invokespecial 164, 3) := by decide +kernel
theorem dX8_pick_146 : decode cX8_pick 146 = .ok (.invokevirtual 77, 3) := by decide +kernel
theorem dX8_pick_149 : decode cX8_pick 149 = .ok (.pop, 1) := by decide +kernel
theorem dX8_pick_150 : decode cX8_pick 150 = .ok (.aload_n 0, 1) := by decide +kernel
theorem dX8_pick_151 : decode cX8_pick 151 = .ok (.getfield 28, 3) := by decide +kernel
theorem dX8_pick_154 : decode cX8_pick 154 = .ok (.new 159, 3) := by decide +kernel
theorem dX8_pick_157 : decode cX8_pick 157 = .ok (.dup, 1) := by decide +kernel
theorem dX8_pick_158 : decode cX8_pick 158 = .ok (.iload_n 1, 1) := by decide +kernel
theorem dX8_pick_159 : decode cX8_pick 159 = .ok (.iload_n 2, 1) := by decide +kernel
theorem dX8_pick_160 : decode cX8_pick 160 = .ok (.iload_n 3, 1) := by decide +kernel
theorem dX8_pick_161 : decode cX8_pick 161 = .ok (.iconst 2, 1) := by decide +kernel
theorem dX8_pick_162 : decode cX8_pick 162 = .ok (.iload 5, 2) := by decide +kernel
theorem dX8_pick_164 : decode cX8_pick 164 = .ok (.invokespecial 161, 3) := by decide +kernel
theorem dX8_pick_167 : decode cX8_pick 167 = .ok (.invokevirtual 77, 3) := by decide +kernel
theorem dX8_pick_170 : decode cX8_pick 170 = .ok (.pop, 1) := by decide +kernel
theorem dX8_pick_171 : decode cX8_pick 171 = .ok (.bipush 10, 2) := by decide +kernel
theorem dX8_pick_173 : decode cX8_pick 173 = .ok (.iload 5, 2) := by decide +kernel
theorem dX8_pick_175 : decode cX8_pick 175 = .ok (.iadd, 1) := by decide +kernel
theorem dX8_pick_176 : decode cX8_pick 176 = .ok (.ireturn, 1) := by decide +kernel
theorem dX8_pick_177 : decode cX8_pick 177 = .ok (.aload_n 0, 1) := by decide +kernel
theorem dX8_pick_178 : decode cX8_pick 178 = .ok (.getfield 28, 3) := by decide +kernel
theorem dX8_pick_181 : decode cX8_pick 181 = .ok (.new 159, 3) := by decide +kernel
theorem dX8_pick_184 : decode cX8_pick 184 = .ok (.dup, 1) := by decide +kernel
theorem dX8_pick_185 : decode cX8_pick 185 = .ok (.iload_n 1, 1) := by decide +kernel
theorem dX8_pick_186 : decode cX8_pick 186 = .ok (.iload_n 2, 1) := by decide +kernel
theorem dX8_pick_187 : decode cX8_pick 187 = .ok (.iload_n 3, 1) := by decide +kernel
theorem dX8_pick_188 : decode cX8_pick 188 = .ok (.iconst 3, 1) := by decide +kernel
theorem dX8_pick_189 : decode cX8_pick 189 = .ok (.bipush (-9), 2) := by decide +kernel
theorem dX8_pick_191 : decode cX8_pick 191 = .ok (.invokespecial 161, 3) := by decide +kernel
theorem dX8_pick_194 : decode cX8_pick 194 = .ok (.invokevirtual 77, 3) := by decide +kernel
theorem dX8_pick_197 : decode cX8_pick 197 = .ok (.pop, 1) := by decide +kernel
theorem dX8_pick_198 : decode cX8_pick 198 = .ok (.bipush (-9), 2) := by decide +kernel
theorem dX8_pick_200 : decode cX8_pick 200 = .ok (.ireturn, 1) := by decide +kernel
theorem dX8_told_0 : decode cX8_told 0 = .ok (.aload_n 0, 1) := by decide +kernel
theorem dX8_told_1 : decode cX8_told 1 = .ok (.iload_n 1, 1) := by decide +kernel
theorem dX8_told_2 : decode cX8_told 2 = .ok (.invokevirtual 167, 3) := by decide +kernel
theorem dX8_told_5 : decode cX8_told 5 = .ok (.ifCond .ne 5, 3) := by decide +kernel
theorem dX8_told_8 : decode cX8_told 8 = .ok (.iconst (-1), 1) := by decide +kernel
theorem dX8_told_9 : decode cX8_told 9 = .ok (.ireturn, 1) := by decide +kernel
theorem dX8_told_10 : decode cX8_told 10 = .ok (.aload_n 0, 1) := by decide +kernel
theorem dX8_told_11 : decode cX8_told 11 = .ok (.getfield 28, 3) := by decide +kernel
theorem dX8_told_14 : decode cX8_told 14 = .ok (.iload_n 1, 1) := by decide +kernel
theorem dX8_told_15 : decode cX8_told 15 = .ok (.invokevirtual 87, 3) := by decide +kernel
theorem dX8_told_18 : decode cX8_told 18 = .ok (.checkcast 159, 3) := by decide +kernel
theorem dX8_told_21 : decode cX8_told 21 = .ok (.astore_n 3, 1) := by decide +kernel
theorem dX8_told_22 : decode cX8_told 22 = .ok (.iload_n 2, 1) := by decide +kernel
theorem dX8_told_23 : decode cX8_told 23 = .ok (.tableswitch 58 0 4 #[33, 38, 43, 48, 53], 33) := by decide +kernel
theorem dX8_told_56 : decode cX8_told 56 = .ok (.aload_n 3, 1) := by decide +kernel
theorem dX8_told_57 : decode cX8_told 57 = .ok (.getfield 170, 3) := by decide +kernel
theorem dX8_told_60 : decode cX8_told 60 = .ok (.ireturn, 1) := by decide +kernel
theorem dX8_told_61 : decode cX8_told 61 = .ok (.aload_n 3, 1) := by decide +kernel
theorem dX8_told_62 : decode cX8_told 62 = .ok (.getfield 173, 3) := by decide +kernel
theorem dX8_told_65 : decode cX8_told 65 = .ok (.ireturn, 1) := by decide +kernel
theorem dX8_told_66 : decode cX8_told 66 = .ok (.aload_n 3, 1) := by decide +kernel
theorem dX8_told_67 : decode cX8_told 67 = .ok (.getfield 176, 3) := by decide +kernel
theorem dX8_told_70 : decode cX8_told 70 = .ok (.ireturn, 1) := by decide +kernel
theorem dX8_told_71 : decode cX8_told 71 = .ok (.aload_n 3, 1) := by decide +kernel
theorem dX8_told_72 : decode cX8_told 72 = .ok (.getfield 179, 3) := by decide +kernel
theorem dX8_told_75 : decode cX8_told 75 = .ok (.ireturn, 1) := by decide +kernel
theorem dX8_told_76 : decode cX8_told 76 = .ok (.aload_n 3, 1) := by decide +kernel
theorem dX8_told_77 : decode cX8_told 77 = .ok (.getfield 182, 3) := by decide +kernel
theorem dX8_told_80 : decode cX8_told 80 = .ok (.ireturn, 1) := by decide +kernel
theorem dX8_told_81 : decode cX8_told 81 = .ok (.iconst (-1), 1) := by decide +kernel
theorem dX8_told_82 : decode cX8_told 82 = .ok (.ireturn, 1) := by decide +kernel
theorem dX8_mark_0 : decode cX8_mark 0 = .ok (.aload_n 0, 1) := by decide +kernel
theorem dX8_mark_1 : decode cX8_mark 1 = .ok (.iload_n 1, 1) := by decide +kernel
theorem dX8_mark_2 : decode cX8_mark 2 = .ok (.invokevirtual 167, 3) := by decide +kernel
theorem dX8_mark_5 : decode cX8_mark 5 = .ok (.ifCond .eq 12, 3) := by decide +kernel
theorem dX8_mark_8 : decode cX8_mark 8 = .ok (.iload_n 2, 1) := by decide +kernel
theorem dX8_mark_9 : decode cX8_mark 9 = .ok (.iconst 0, 1) := by decide +kernel
theorem dX8_mark_10 : decode cX8_mark 10 = .ok (.iconst 3, 1) := by decide +kernel
theorem dX8_mark_11 : decode cX8_mark 11 = .ok (.invokestatic 55, 3) := by decide +kernel
theorem dX8_mark_14 : decode cX8_mark 14 = .ok (.ifCond .ne 5, 3) := by decide +kernel
theorem dX8_mark_17 : decode cX8_mark 17 = .ok (.iconst (-1), 1) := by decide +kernel
theorem dX8_mark_18 : decode cX8_mark 18 = .ok (.ireturn, 1) := by decide +kernel
theorem dX8_mark_19 : decode cX8_mark 19 = .ok (.aload_n 0, 1) := by decide +kernel
theorem dX8_mark_20 : decode cX8_mark 20 = .ok (.getfield 28, 3) := by decide +kernel
theorem dX8_mark_23 : decode cX8_mark 23 = .ok (.iload_n 1, 1) := by decide +kernel
theorem dX8_mark_24 : decode cX8_mark 24 = .ok (.invokevirtual 87, 3) := by decide +kernel
theorem dX8_mark_27 : decode cX8_mark 27 = .ok (.checkcast 159, 3) := by decide +kernel
theorem dX8_mark_30 : decode cX8_mark 30 = .ok (.astore_n 3, 1) := by decide +kernel
theorem dX8_mark_31 : decode cX8_mark 31 = .ok (.aload_n 3, 1) := by decide +kernel
theorem dX8_mark_32 : decode cX8_mark 32 = .ok (.iload_n 2, 1) := by decide +kernel
theorem dX8_mark_33 : decode cX8_mark 33 = .ok (.invokevirtual 185, 3) := by decide +kernel
theorem dX8_mark_36 : decode cX8_mark 36 = .ok (.ifCond .ne 9, 3) := by decide +kernel
theorem dX8_mark_39 : decode cX8_mark 39 = .ok (.aload_n 0, 1) := by decide +kernel
theorem dX8_mark_40 : decode cX8_mark 40 = .ok (.iconst 3, 1) := by decide +kernel
theorem dX8_mark_41 : decode cX8_mark 41 = .ok (.invokevirtual 106, 3) := by decide +kernel
theorem dX8_mark_44 : decode cX8_mark 44 = .ok (.ireturn, 1) := by decide +kernel
theorem dX8_mark_45 : decode cX8_mark 45 = .ok (.iload_n 2, 1) := by decide +kernel
theorem dX8_mark_46 : decode cX8_mark 46 = .ok (.iconst 1, 1) := by decide +kernel
theorem dX8_mark_47 : decode cX8_mark 47 = .ok (.if_icmp .eq 8, 3) := by decide +kernel
theorem dX8_mark_50 : decode cX8_mark 50 = .ok (.iload_n 2, 1) := by decide +kernel
theorem dX8_mark_51 : decode cX8_mark 51 = .ok (.iconst 2, 1) := by decide +kernel
theorem dX8_mark_52 : decode cX8_mark 52 = .ok (.if_icmp .ne 10, 3) := by decide +kernel
theorem dX8_mark_55 : decode cX8_mark 55 = .ok (.aload_n 3, 1) := by decide +kernel
theorem dX8_mark_56 : decode cX8_mark 56 = .ok (.getfield 182, 3) := by decide +kernel
theorem dX8_mark_59 : decode cX8_mark 59 = .ok (.goto 7, 3) := by decide +kernel
theorem dX8_mark_62 : decode cX8_mark 62 = .ok (.aload_n 3, 1) := by decide +kernel
theorem dX8_mark_63 : decode cX8_mark 63 = .ok (.getfield 173, 3) := by decide +kernel
theorem dX8_mark_66 : decode cX8_mark 66 = .ok (.ireturn, 1) := by decide +kernel
theorem dX8_quake_0 : decode cX8_quake 0 = .ok (.aload_n 0, 1) := by decide +kernel
theorem dX8_quake_1 : decode cX8_quake 1 = .ok (.iload_n 1, 1) := by decide +kernel
theorem dX8_quake_2 : decode cX8_quake 2 = .ok (.invokevirtual 188, 3) := by decide +kernel
theorem dX8_quake_5 : decode cX8_quake 5 = .ok (.ifCond .ne 5, 3) := by decide +kernel
theorem dX8_quake_8 : decode cX8_quake 8 = .ok (.iconst (-1), 1) := by decide +kernel
theorem dX8_quake_9 : decode cX8_quake 9 = .ok (.ireturn, 1) := by decide +kernel
theorem dX8_quake_10 : decode cX8_quake 10 = .ok (.iload_n 2, 1) := by decide +kernel
theorem dX8_quake_11 : decode cX8_quake 11 = .ok (.tableswitch 89 0 4 #[33, 48, 57, 66, 75], 33) := by decide +kernel
theorem dX8_quake_44 : decode cX8_quake 44 = .ok (.aload_n 0, 1) := by decide +kernel
theorem dX8_quake_45 : decode cX8_quake 45 = .ok (.getfield 31, 3) := by decide +kernel
theorem dX8_quake_48 : decode cX8_quake 48 = .ok (.iload_n 1, 1) := by decide +kernel
theorem dX8_quake_49 : decode cX8_quake 49 = .ok (.invokevirtual 87, 3) := by decide +kernel
theorem dX8_quake_52 : decode cX8_quake 52 = .ok (.checkcast 153, 3) := by decide +kernel
theorem dX8_quake_55 : decode cX8_quake 55 = .ok (.getfield 191, 3) := by decide +kernel
theorem dX8_quake_58 : decode cX8_quake 58 = .ok (.ireturn, 1) := by decide +kernel
theorem dX8_quake_59 : decode cX8_quake 59 = .ok (.aload_n 0, 1) := by decide +kernel
theorem dX8_quake_60 : decode cX8_quake 60 = .ok (.iload_n 1, 1) := by decide +kernel
theorem dX8_quake_61 : decode cX8_quake 61 = .ok (.invokevirtual 194, 3) := by decide +kernel
theorem dX8_quake_64 : decode cX8_quake 64 = .ok (.getfield 198, 3) := by decide +kernel
theorem dX8_quake_67 : decode cX8_quake 67 = .ok (.ireturn, 1) := by decide +kernel
theorem dX8_quake_68 : decode cX8_quake 68 = .ok (.aload_n 0, 1) := by decide +kernel
theorem dX8_quake_69 : decode cX8_quake 69 = .ok (.iload_n 1, 1) := by decide +kernel
theorem dX8_quake_70 : decode cX8_quake 70 = .ok (.invokevirtual 194, 3) := by decide +kernel
theorem dX8_quake_73 : decode cX8_quake 73 = .ok (.getfield 201, 3) := by decide +kernel
theorem dX8_quake_76 : decode cX8_quake 76 = .ok (.ireturn, 1) := by decide +kernel
theorem dX8_quake_77 : decode cX8_quake 77 = .ok (.aload_n 0, 1) := by decide +kernel
theorem dX8_quake_78 : decode cX8_quake 78 = .ok (.iload_n 1, 1) := by decide +kernel
theorem dX8_quake_79 : decode cX8_quake 79 = .ok (.invokevirtual 194, 3) := by decide +kernel
theorem dX8_quake_82 : decode cX8_quake 82 = .ok (.getfield 204, 3) := by decide +kernel
theorem dX8_quake_85 : decode cX8_quake 85 = .ok (.ireturn, 1) := by decide +kernel
theorem dX8_quake_86 : decode cX8_quake 86 = .ok (.aload_n 0, 1) := by decide +kernel
theorem dX8_quake_87 : decode cX8_quake 87 = .ok (.iload_n 1, 1) := by decide +kernel
theorem dX8_quake_88 : decode cX8_quake 88 = .ok (.invokevirtual 207, 3) := by decide +kernel
theorem dX8_quake_91 : decode cX8_quake 91 = .ok (.ifCond .eq 7, 3) := by decide +kernel
theorem dX8_quake_94 : decode cX8_quake 94 = .ok (.iconst 1, 1) := by decide +kernel
theorem dX8_quake_95 : decode cX8_quake 95 = .ok (.goto 4, 3) := by decide +kernel
theorem dX8_quake_98 : decode cX8_quake 98 = .ok (.iconst 0, 1) := by decide +kernel
theorem dX8_quake_99 : decode cX8_quake 99 = .ok (.ireturn, 1) := by decide +kernel
theorem dX8_quake_100 : decode cX8_quake 100 = .ok (.iconst (-1), 1) := by decide +kernel
theorem dX8_quake_101 : decode cX8_quake 101 = .ok (.ireturn, 1) := by decide +kernel
theorem dX8_cell_0 : decode cX8_cell 0 = .ok (.aload_n 0, 1) := by decide +kernel
theorem dX8_cell_1 : decode cX8_cell 1 = .ok (.iload_n 1, 1) := by decide +kernel
theorem dX8_cell_2 : decode cX8_cell 2 = .ok (.invokevirtual 188, 3) := by decide +kernel
theorem dX8_cell_5 : decode cX8_cell 5 = .ok (.ifCond .ne 5, 3) := by decide +kernel
theorem dX8_cell_8 : decode cX8_cell 8 = .ok (.iconst (-1), 1) := by decide +kernel
theorem dX8_cell_9 : decode cX8_cell 9 = .ok (.ireturn, 1) := by decide +kernel
theorem dX8_cell_10 : decode cX8_cell 10 = .ok (.aload_n 0, 1) := by decide +kernel
theorem dX8_cell_11 : decode cX8_cell 11 = .ok (.iload_n 1, 1) := by decide +kernel
theorem dX8_cell_12 : decode cX8_cell 12 = .ok (.invokevirtual 194, 3) := by decide +kernel
theorem dX8_cell_15 : decode cX8_cell 15 = .ok (.iload_n 2, 1) := by decide +kernel
theorem dX8_cell_16 : decode cX8_cell 16 = .ok (.invokevirtual 210, 3) := by decide +kernel
theorem dX8_cell_19 : decode cX8_cell 19 = .ok (.ireturn, 1) := by decide +kernel
theorem dX8_time_0 : decode cX8_time 0 = .ok (.aload_n 0, 1) := by decide +kernel
theorem dX8_time_1 : decode cX8_time 1 = .ok (.iload_n 1, 1) := by decide +kernel
theorem dX8_time_2 : decode cX8_time 2 = .ok (.invokevirtual 188, 3) := by decide +kernel
theorem dX8_time_5 : decode cX8_time 5 = .ok (.ifCond .eq 10, 3) := by decide +kernel
theorem dX8_time_8 : decode cX8_time 8 = .ok (.iload_n 2, 1) := by decide +kernel
theorem dX8_time_9 : decode cX8_time 9 = .ok (.invokestatic 66, 3) := by decide +kernel
theorem dX8_time_12 : decode cX8_time 12 = .ok (.ifCond .ne 5, 3) := by decide +kernel
theorem dX8_time_15 : decode cX8_time 15 = .ok (.iconst (-1), 1) := by decide +kernel
theorem dX8_time_16 : decode cX8_time 16 = .ok (.ireturn, 1) := by decide +kernel
theorem dX8_time_17 : decode cX8_time 17 = .ok (.aload_n 0, 1) := by decide +kernel
theorem dX8_time_18 : decode cX8_time 18 = .ok (.iload_n 1, 1) := by decide +kernel
theorem dX8_time_19 : decode cX8_time 19 = .ok (.invokevirtual 194, 3) := by decide +kernel
theorem dX8_time_22 : decode cX8_time 22 = .ok (.astore 4, 2) := by decide +kernel
theorem dX8_time_24 : decode cX8_time 24 = .ok (.aload 4, 2) := by decide +kernel
theorem dX8_time_26 : decode cX8_time 26 = .ok (.iload_n 2, 1) := by decide +kernel
theorem dX8_time_27 : decode cX8_time 27 = .ok (.invokevirtual 213, 3) := by decide +kernel
theorem dX8_time_30 : decode cX8_time 30 = .ok (.ifCond .ne 6, 3) := by decide +kernel
theorem dX8_time_33 : decode cX8_time 33 = .ok (.bipush (-9), 2) := by decide +kernel
theorem dX8_time_35 : decode cX8_time 35 = .ok (.ireturn, 1) := by decide +kernel
theorem dX8_time_36 : decode cX8_time 36 = .ok (.aload_n 0, 1) := by decide +kernel
theorem dX8_time_37 : decode cX8_time 37 = .ok (.iload_n 3, 1) := by decide +kernel
theorem dX8_time_38 : decode cX8_time 38 = .ok (.ifCond .eq 13, 3) := by decide +kernel
theorem dX8_time_41 : decode cX8_time 41 = .ok (.aload 4, 2) := by decide +kernel
theorem dX8_time_43 : decode cX8_time 43 = .ok (.getfield 215, 3) := by decide +kernel
theorem dX8_time_46 : decode cX8_time 46 = .ok (.iload_n 2, 1) := by decide +kernel
theorem dX8_time_47 : decode cX8_time 47 = .ok (.iaload, 1) := by decide +kernel
theorem dX8_time_48 : decode cX8_time 48 = .ok (.goto 10, 3) := by decide +kernel
theorem dX8_time_51 : decode cX8_time 51 = .ok (.aload 4, 2) := by decide +kernel
theorem dX8_time_53 : decode cX8_time 53 = .ok (.getfield 218, 3) := by decide +kernel
theorem dX8_time_56 : decode cX8_time 56 = .ok (.iload_n 2, 1) := by decide +kernel
theorem dX8_time_57 : decode cX8_time 57 = .ok (.iaload, 1) := by decide +kernel
theorem dX8_time_58 : decode cX8_time 58 = .ok (.putfield 130, 3) := by decide +kernel
theorem dX8_time_61 : decode cX8_time 61 = .ok (.iconst 1, 1) := by decide +kernel
theorem dX8_time_62 : decode cX8_time 62 = .ok (.ireturn, 1) := by decide +kernel
theorem dX8_holds_0 : decode cX8_holds 0 = .ok (.aload_n 0, 1) := by decide +kernel
theorem dX8_holds_1 : decode cX8_holds 1 = .ok (.iload_n 1, 1) := by decide +kernel
theorem dX8_holds_2 : decode cX8_holds 2 = .ok (.invokevirtual 188, 3) := by decide +kernel
theorem dX8_holds_5 : decode cX8_holds 5 = .ok (.ifCond .eq 10, 3) := by decide +kernel
theorem dX8_holds_8 : decode cX8_holds 8 = .ok (.iload_n 2, 1) := by decide +kernel
theorem dX8_holds_9 : decode cX8_holds 9 = .ok (.invokestatic 66, 3) := by decide +kernel
theorem dX8_holds_12 : decode cX8_holds 12 = .ok (.ifCond .ne 5, 3) := by decide +kernel
theorem dX8_holds_15 : decode cX8_holds 15 = .ok (.iconst (-1), 1) := by decide +kernel
theorem dX8_holds_16 : decode cX8_holds 16 = .ok (.ireturn, 1) := by decide +kernel
theorem dX8_holds_17 : decode cX8_holds 17 = .ok (.aload_n 0, 1) := by decide +kernel
theorem dX8_holds_18 : decode cX8_holds 18 = .ok (.iload_n 1, 1) := by decide +kernel
theorem dX8_holds_19 : decode cX8_holds 19 = .ok (.invokevirtual 194, 3) := by decide +kernel
theorem dX8_holds_22 : decode cX8_holds 22 = .ok (.astore 4, 2) := by decide +kernel
theorem dX8_holds_24 : decode cX8_holds 24 = .ok (.iload_n 3, 1) := by decide +kernel
theorem dX8_holds_25 : decode cX8_holds 25 = .ok (.aload 4, 2) := by decide +kernel
theorem dX8_holds_27 : decode cX8_holds 27 = .ok (.getfield 218, 3) := by decide +kernel
theorem dX8_holds_30 : decode cX8_holds 30 = .ok (.iload_n 2, 1) := by decide +kernel
theorem dX8_holds_31 : decode cX8_holds 31 = .ok (.iaload, 1) := by decide +kernel
theorem dX8_holds_32 : decode cX8_holds 32 = .ok (.aload 4, 2) := by decide +kernel
theorem dX8_holds_34 : decode cX8_holds 34 = .ok (.getfield 215, 3) := by decide +kernel
theorem dX8_holds_37 : decode cX8_holds 37 = .ok (.iload_n 2, 1) := by decide +kernel
theorem dX8_holds_38 : decode cX8_holds 38 = .ok (.iaload, 1) := by decide +kernel
theorem dX8_holds_39 : decode cX8_holds 39 = .ok (.invokestatic 55, 3) := by decide +kernel
theorem dX8_holds_42 : decode cX8_holds 42 = .ok (.ifCond .eq 7, 3) := by decide +kernel
theorem dX8_holds_45 : decode cX8_holds 45 = .ok (.iconst 1, 1) := by decide +kernel
theorem dX8_holds_46 : decode cX8_holds 46 = .ok (.goto 4, 3) := by decide +kernel
theorem dX8_holds_49 : decode cX8_holds 49 = .ok (.iconst 0, 1) := by decide +kernel
theorem dX8_holds_50 : decode cX8_holds 50 = .ok (.ireturn, 1) := by decide +kernel
theorem dX8_felt_0 : decode cX8_felt 0 = .ok (.aload_n 0, 1) := by decide +kernel
theorem dX8_felt_1 : decode cX8_felt 1 = .ok (.iload_n 1, 1) := by decide +kernel
theorem dX8_felt_2 : decode cX8_felt 2 = .ok (.invokevirtual 221, 3) := by decide +kernel
theorem dX8_felt_5 : decode cX8_felt 5 = .ok (.ifCond .eq 11, 3) := by decide +kernel
theorem dX8_felt_8 : decode cX8_felt 8 = .ok (.aload_n 0, 1) := by decide +kernel
theorem dX8_felt_9 : decode cX8_felt 9 = .ok (.iload_n 2, 1) := by decide +kernel
theorem dX8_felt_10 : decode cX8_felt 10 = .ok (.invokevirtual 188, 3) := by decide +kernel
theorem dX8_felt_13 : decode cX8_felt 13 = .ok (.ifCond .ne 5, 3) := by decide +kernel
theorem dX8_felt_16 : decode cX8_felt 16 = .ok (.iconst (-1), 1) := by decide +kernel
theorem dX8_felt_17 : decode cX8_felt 17 = .ok (.ireturn, 1) := by decide +kernel
theorem dX8_felt_18 : decode cX8_felt 18 = .ok (.aload_n 0, 1) := by decide +kernel
theorem dX8_felt_19 : decode cX8_felt 19 = .ok (.iload_n 2, 1) := by decide +kernel
theorem dX8_felt_20 : decode cX8_felt 20 = .ok (.invokevirtual 207, 3) := by decide +kernel
theorem dX8_felt_23 : decode cX8_felt 23 = .ok (.ifCond .eq 6, 3) := by decide +kernel
theorem dX8_felt_26 : decode cX8_felt 26 = .ok (.bipush (-9), 2) := by decide +kernel
theorem dX8_felt_28 : decode cX8_felt 28 = .ok (.ireturn, 1) := by decide +kernel
theorem dX8_felt_29 : decode cX8_felt 29 = .ok (.aload_n 0, 1) := by decide +kernel
theorem dX8_felt_30 : decode cX8_felt 30 = .ok (.iload_n 1, 1) := by decide +kernel
theorem dX8_felt_31 : decode cX8_felt 31 = .ok (.iload_n 2, 1) := by decide +kernel
theorem dX8_felt_32 : decode cX8_felt 32 = .ok (.invokevirtual 224, 3) := by decide +kernel
theorem dX8_felt_35 : decode cX8_felt 35 = .ok (.ireturn, 1) := by decide +kernel
theorem dX8_level_0 : decode cX8_level 0 = .ok (.iload_n 1, 1) := by decide +kernel
theorem dX8_level_1 : decode cX8_level 1 = .ok (.iconst 1, 1) := by decide +kernel
theorem dX8_level_2 : decode cX8_level 2 = .ok (.iconst 4, 1) := by decide +kernel
theorem dX8_level_3 : decode cX8_level 3 = .ok (.invokestatic 55, 3) := by decide +kernel
theorem dX8_level_6 : decode cX8_level 6 = .ok (.ifCond .ne 5, 3) := by decide +kernel
theorem dX8_level_9 : decode cX8_level 9 = .ok (.iconst (-1), 1) := by decide +kernel
theorem dX8_level_10 : decode cX8_level 10 = .ok (.ireturn, 1) := by decide +kernel
theorem dX8_level_11 : decode cX8_level 11 = .ok (.iload_n 2, 1) := by decide +kernel
theorem dX8_level_12 : decode cX8_level 12 = .ok (.aload_n 0, 1) := by decide +kernel
theorem dX8_level_13 : decode cX8_level 13 = .ok (.getfield 44, 3) := by decide +kernel
theorem dX8_level_16 : decode cX8_level 16 = .ok (.iload_n 1, 1) := by decide +kernel
theorem dX8_level_17 : decode cX8_level 17 = .ok (.iconst 1, 1) := by decide +kernel
theorem dX8_level_18 : decode cX8_level 18 = .ok (.isub, 1) := by decide +kernel
theorem dX8_level_19 : decode cX8_level 19 = .ok (.iaload, 1) := by decide +kernel
theorem dX8_level_20 : decode cX8_level 20 = .ok (.if_icmp .le 15, 3) := by decide +kernel
theorem dX8_level_23 : decode cX8_level 23 = .ok (.iload_n 2, 1) := by decide +kernel
theorem dX8_level_24 : decode cX8_level 24 = .ok (.aload_n 0, 1) := by decide +kernel
theorem dX8_level_25 : decode cX8_level 25 = .ok (.getfield 44, 3) := by decide +kernel
theorem dX8_level_28 : decode cX8_level 28 = .ok (.iload_n 1, 1) := by decide +kernel
theorem dX8_level_29 : decode cX8_level 29 = .ok (.iconst 1, 1) := by decide +kernel
theorem dX8_level_30 : decode cX8_level 30 = .ok (.iadd, 1) := by decide +kernel
theorem dX8_level_31 : decode cX8_level 31 = .ok (.iaload, 1) := by decide +kernel
theorem dX8_level_32 : decode cX8_level 32 = .ok (.if_icmp .lt 5, 3) := by decide +kernel
theorem dX8_level_35 : decode cX8_level 35 = .ok (.iconst (-1), 1) := by decide +kernel
theorem dX8_level_36 : decode cX8_level 36 = .ok (.ireturn, 1) := by decide +kernel
theorem dX8_level_37 : decode cX8_level 37 = .ok (.aload_n 0, 1) := by decide +kernel
theorem dX8_level_38 : decode cX8_level 38 = .ok (.getfield 44, 3) := by decide +kernel
theorem dX8_level_41 : decode cX8_level 41 = .ok (.iload_n 1, 1) := by decide +kernel
theorem dX8_level_42 : decode cX8_level 42 = .ok (.iaload, 1) := by decide +kernel
theorem dX8_level_43 : decode cX8_level 43 = .ok (.istore_n 3, 1) := by decide +kernel
theorem dX8_level_44 : decode cX8_level 44 = .ok (.aload_n 0, 1) := by decide +kernel
theorem dX8_level_45 : decode cX8_level 45 = .ok (.getfield 44, 3) := by decide +kernel
theorem dX8_level_48 : decode cX8_level 48 = .ok (.iload_n 1, 1) := by decide +kernel
theorem dX8_level_49 : decode cX8_level 49 = .ok (.iload_n 2, 1) := by decide +kernel
theorem dX8_level_50 : decode cX8_level 50 = .ok (.iastore, 1) := by decide +kernel
theorem dX8_level_51 : decode cX8_level 51 = .ok (.iload_n 3, 1) := by decide +kernel
theorem dX8_level_52 : decode cX8_level 52 = .ok (.ireturn, 1) := by decide +kernel
theorem dX8_warn_0 : decode cX8_warn 0 = .ok (.iconst 0, 1) := by decide +kernel
theorem dX8_warn_1 : decode cX8_warn 1 = .ok (.istore_n 1, 1) := by decide +kernel
theorem dX8_warn_2 : decode cX8_warn 2 = .ok (.iconst 0, 1) := by decide +kernel
theorem dX8_warn_3 : decode cX8_warn 3 = .ok (.istore_n 2, 1) := by decide +kernel
theorem dX8_warn_4 : decode cX8_warn 4 = .ok (.iload_n 2, 1) := by decide +kernel
theorem dX8_warn_5 : decode cX8_warn 5 = .ok (.aload_n 0, 1) := by decide +kernel
theorem dX8_warn_6 : decode cX8_warn 6 = .ok (.getfield 31, 3) := by decide +kernel
theorem dX8_warn_9 : decode cX8_warn 9 = .ok (.invokevirtual 70, 3) := by decide +kernel
theorem dX8_warn_12 : decode cX8_warn 12 = .ok (.if_icmp .ge 60, 3) := by decide +kernel
theorem dX8_warn_15 : decode cX8_warn 15 = .ok (.aload_n 0, 1) := by decide +kernel
theorem dX8_warn_16 : decode cX8_warn 16 = .ok (.iload_n 2, 1) := by decide +kernel
theorem dX8_warn_17 : decode cX8_warn 17 = .ok (.invokevirtual 207, 3) := by decide +kernel
theorem dX8_warn_20 : decode cX8_warn 20 = .ok (.istore_n 3, 1) := by decide +kernel
theorem dX8_warn_21 : decode cX8_warn 21 = .ok (.iconst 0, 1) := by decide +kernel
theorem dX8_warn_22 : decode cX8_warn 22 = .ok (.istore 4, 2) := by decide +kernel
theorem dX8_warn_24 : decode cX8_warn 24 = .ok (.iload 4, 2) := by decide +kernel
theorem dX8_warn_26 : decode cX8_warn 26 = .ok (.aload_n 0, 1) := by decide +kernel
theorem dX8_warn_27 : decode cX8_warn 27 = .ok (.getfield 25, 3) := by decide +kernel
theorem dX8_warn_30 : decode cX8_warn 30 = .ok (.invokevirtual 70, 3) := by decide +kernel
theorem dX8_warn_33 : decode cX8_warn 33 = .ok (.if_icmp .ge 33, 3) := by decide +kernel
theorem dX8_warn_36 : decode cX8_warn 36 = .ok (.iload_n 1, 1) := by decide +kernel
theorem dX8_warn_37 : decode cX8_warn 37 = .ok (.iload_n 3, 1) := by decide +kernel
theorem dX8_warn_38 : decode cX8_warn 38 = .ok (.ifCond .eq 13, 3) := by decide +kernel
theorem dX8_warn_41 : decode cX8_warn 41 = .ok (.aload_n 0, 1) := by decide +kernel
theorem dX8_warn_42 : decode cX8_warn 42 = .ok (.iload 4, 2) := by decide +kernel
theorem dX8_warn_44 : decode cX8_warn 44 = .ok (.iload_n 2, 1) := by decide +kernel
theorem dX8_warn_45 : decode cX8_warn 45 = .ok (.invokevirtual 227, 3) := by decide +kernel
theorem dX8_warn_48 : decode cX8_warn 48 = .ok (.goto 10, 3) := by decide +kernel
theorem dX8_warn_51 : decode cX8_warn 51 = .ok (.aload_n 0, 1) := by decide +kernel
theorem dX8_warn_52 : decode cX8_warn 52 = .ok (.iload 4, 2) := by decide +kernel
theorem dX8_warn_54 : decode cX8_warn 54 = .ok (.iload_n 2, 1) := by decide +kernel
theorem dX8_warn_55 : decode cX8_warn 55 = .ok (.invokevirtual 230, 3) := by decide +kernel
theorem dX8_warn_58 : decode cX8_warn 58 = .ok (.iadd, 1) := by decide +kernel
theorem dX8_warn_59 : decode cX8_warn 59 = .ok (.istore_n 1, 1) := by decide +kernel
theorem dX8_warn_60 : decode cX8_warn 60 = .ok (.iinc 4 1, 3) := by decide +kernel
theorem dX8_warn_63 : decode cX8_warn 63 = .ok (.goto (-39), 3) := by decide +kernel
theorem dX8_warn_66 : decode cX8_warn 66 = .ok (.iinc 2 1, 3) := by decide +kernel
theorem dX8_warn_69 : decode cX8_warn 69 = .ok (.goto (-65), 3) := by decide +kernel
theorem dX8_warn_72 : decode cX8_warn 72 = .ok (.iload_n 1, 1) := by decide +kernel
theorem dX8_warn_73 : decode cX8_warn 73 = .ok (.ireturn, 1) := by decide +kernel
theorem dX8_drill_0 : decode cX8_drill 0 = .ok (.aload_n 0, 1) := by decide +kernel
theorem dX8_drill_1 : decode cX8_drill 1 = .ok (.iload_n 1, 1) := by decide +kernel
theorem dX8_drill_2 : decode cX8_drill 2 = .ok (.invokevirtual 221, 3) := by decide +kernel
theorem dX8_drill_5 : decode cX8_drill 5 = .ok (.ifCond .eq 12, 3) := by decide +kernel
theorem dX8_drill_8 : decode cX8_drill 8 = .ok (.iload_n 2, 1) := by decide +kernel
theorem dX8_drill_9 : decode cX8_drill 9 = .ok (.iconst 1, 1) := by decide +kernel
theorem dX8_drill_10 : decode cX8_drill 10 = .ok (.iconst 4, 1) := by decide +kernel
theorem dX8_drill_11 : decode cX8_drill 11 = .ok (.invokestatic 55, 3) := by decide +kernel
theorem dX8_drill_14 : decode cX8_drill 14 = .ok (.ifCond .ne 5, 3) := by decide +kernel
theorem dX8_drill_17 : decode cX8_drill 17 = .ok (.iconst (-1), 1) := by decide +kernel
theorem dX8_drill_18 : decode cX8_drill 18 = .ok (.ireturn, 1) := by decide +kernel
theorem dX8_drill_19 : decode cX8_drill 19 = .ok (.aload_n 0, 1) := by decide +kernel
theorem dX8_drill_20 : decode cX8_drill 20 = .ok (.getfield 233, 3) := by decide +kernel
theorem dX8_drill_23 : decode cX8_drill 23 = .ok (.sipush 400, 3) := by decide +kernel
theorem dX8_drill_26 : decode cX8_drill 26 = .ok (.if_icmp .lt 6, 3) := by decide +kernel
theorem dX8_drill_29 : decode cX8_drill 29 = .ok (.bipush (-2), 2) := by decide +kernel
theorem dX8_drill_31 : decode cX8_drill 31 = .ok (.ireturn, 1) := by decide +kernel
theorem dX8_drill_32 : decode cX8_drill 32 = .ok (.aload_n 0, 1) := by decide +kernel
theorem dX8_drill_33 : decode cX8_drill 33 = .ok (.iload_n 1, 1) := by decide +kernel
theorem dX8_drill_34 : decode cX8_drill 34 = .ok (.bipush (-9), 2) := by decide +kernel
theorem dX8_drill_36 : decode cX8_drill 36 = .ok (.iload_n 2, 1) := by decide +kernel
theorem dX8_drill_37 : decode cX8_drill 37 = .ok (.invokevirtual 236, 3) := by decide +kernel
theorem dX8_drill_40 : decode cX8_drill 40 = .ok (.aload_n 0, 1) := by decide +kernel
theorem dX8_drill_41 : decode cX8_drill 41 = .ok (.getfield 233, 3) := by decide +kernel
theorem dX8_drill_44 : decode cX8_drill 44 = .ok (.ireturn, 1) := by decide +kernel
theorem dX8_message_0 : decode cX8_message 0 = .ok (.iload_n 2, 1) := by decide +kernel
theorem dX8_message_1 : decode cX8_message 1 = .ok (.iconst 0, 1) := by decide +kernel
theorem dX8_message_2 : decode cX8_message 2 = .ok (.iconst 3, 1) := by decide +kernel
theorem dX8_message_3 : decode cX8_message 3 = .ok (.invokestatic 55, 3) := by decide +kernel
theorem dX8_message_6 : decode cX8_message 6 = .ok (.ifCond .ne 5, 3) := by decide +kernel
theorem dX8_message_9 : decode cX8_message 9 = .ok (.iconst (-1), 1) := by decide +kernel
theorem dX8_message_10 : decode cX8_message 10 = .ok (.ireturn, 1) := by decide +kernel
theorem dX8_message_11 : decode cX8_message 11 = .ok (.iload_n 1, 1) := by decide +kernel
theorem dX8_message_12 : decode cX8_message 12 = .ok (.iconst 0, 1) := by decide +kernel
theorem dX8_message_13 : decode cX8_message 13 = .ok (.aload_n 0, 1) := by decide +kernel
theorem dX8_message_14 : decode cX8_message 14 = .ok (.getfield 34, 3) := by decide +kernel
theorem dX8_message_17 : decode cX8_message 17 = .ok (.invokevirtual 70, 3) := by decide +kernel
theorem dX8_message_20 : decode cX8_message 20 = .ok (.iconst 1, 1) := by decide +kernel
theorem dX8_message_21 : decode cX8_message 21 = .ok (.isub, 1) := by decide +kernel
theorem dX8_message_22 : decode cX8_message 22 = .ok (.invokestatic 55, 3) := by decide +kernel
theorem dX8_message_25 : decode cX8_message 25 = .ok (.ifCond .ne 6, 3) := by decide +kernel
theorem dX8_message_28 : decode cX8_message 28 = .ok (.bipush (-9), 2) := by decide +kernel
theorem dX8_message_30 : decode cX8_message 30 = .ok (.ireturn, 1) := by decide +kernel
theorem dX8_message_31 : decode cX8_message 31 = .ok (.aload_n 0, 1) := by decide +kernel
theorem dX8_message_32 : decode cX8_message 32 = .ok (.getfield 34, 3) := by decide +kernel
theorem dX8_message_35 : decode cX8_message 35 = .ok (.iload_n 1, 1) := by decide +kernel
theorem dX8_message_36 : decode cX8_message 36 = .ok (.invokevirtual 87, 3) := by decide +kernel
theorem dX8_message_39 : decode cX8_message 39 = .ok (.checkcast 239, 3) := by decide +kernel
theorem dX8_message_42 : decode cX8_message 42 = .ok (.astore_n 3, 1) := by decide +kernel
theorem dX8_message_43 : decode cX8_message 43 = .ok (.iload_n 2, 1) := by decide +kernel
theorem dX8_message_44 : decode cX8_message 44 = .ok (.tableswitch 43 0 2 #[28, 33, 38], 28) := by decide +kernel
theorem dX8_message_72 : decode cX8_message 72 = .ok (.aload_n 3, 1) := by decide +kernel
theorem dX8_message_73 : decode cX8_message 73 = .ok (.getfield 241, 3) := by decide +kernel
theorem dX8_message_76 : decode cX8_message 76 = .ok (.ireturn, 1) := by decide +kernel
theorem dX8_message_77 : decode cX8_message 77 = .ok (.aload_n 3, 1) := by decide +kernel
theorem dX8_message_78 : decode cX8_message 78 = .ok (.getfield 244, 3) := by decide +kernel
theorem dX8_message_81 : decode cX8_message 81 = .ok (.ireturn, 1) := by decide +kernel
theorem dX8_message_82 : decode cX8_message 82 = .ok (.aload_n 3, 1) := by decide +kernel
theorem dX8_message_83 : decode cX8_message 83 = .ok (.getfield 245, 3) := by decide +kernel
theorem dX8_message_86 : decode cX8_message 86 = .ok (.ireturn, 1) := by decide +kernel
theorem dX8_message_87 : decode cX8_message 87 = .ok (.aload_n 3, 1) := by decide +kernel
theorem dX8_message_88 : decode cX8_message 88 = .ok (.getfield 248, 3) := by decide +kernel
theorem dX8_message_91 : decode cX8_message 91 = .ok (.ireturn, 1) := by decide +kernel
theorem dX8_alarm_0 : decode cX8_alarm 0 = .ok (.aload_n 0, 1) := by decide +kernel
theorem dX8_alarm_1 : decode cX8_alarm 1 = .ok (.iload_n 1, 1) := by decide +kernel
theorem dX8_alarm_2 : decode cX8_alarm 2 = .ok (.invokevirtual 221, 3) := by decide +kernel
theorem dX8_alarm_5 : decode cX8_alarm 5 = .ok (.ifCond .eq 11, 3) := by decide +kernel
theorem dX8_alarm_8 : decode cX8_alarm 8 = .ok (.aload_n 0, 1) := by decide +kernel
theorem dX8_alarm_9 : decode cX8_alarm 9 = .ok (.iload_n 2, 1) := by decide +kernel
theorem dX8_alarm_10 : decode cX8_alarm 10 = .ok (.invokevirtual 188, 3) := by decide +kernel
theorem dX8_alarm_13 : decode cX8_alarm 13 = .ok (.ifCond .ne 5, 3) := by decide +kernel
theorem dX8_alarm_16 : decode cX8_alarm 16 = .ok (.iconst (-1), 1) := by decide +kernel
theorem dX8_alarm_17 : decode cX8_alarm 17 = .ok (.ireturn, 1) := by decide +kernel
theorem dX8_alarm_18 : decode cX8_alarm 18 = .ok (.aload_n 0, 1) := by decide +kernel
theorem dX8_alarm_19 : decode cX8_alarm 19 = .ok (.getfield 31, 3) := by decide +kernel
theorem dX8_alarm_22 : decode cX8_alarm 22 = .ok (.iload_n 2, 1) := by decide +kernel
theorem dX8_alarm_23 : decode cX8_alarm 23 = .ok (.invokevirtual 87, 3) := by decide +kernel
theorem dX8_alarm_26 : decode cX8_alarm 26 = .ok (.checkcast 153, 3) := by decide +kernel
theorem dX8_alarm_29 : decode cX8_alarm 29 = .ok (.astore_n 3, 1) := by decide +kernel
theorem dX8_alarm_30 : decode cX8_alarm 30 = .ok (.iconst 4, 1) := by decide +kernel
theorem dX8_alarm_31 : decode cX8_alarm 31 = .ok (.istore 4, 2) := by decide +kernel
theorem dX8_alarm_33 : decode cX8_alarm 33 = .ok (.iload 4, 2) := by decide +kernel
theorem dX8_alarm_35 : decode cX8_alarm 35 = .ok (.iconst 1, 1) := by decide +kernel
theorem dX8_alarm_36 : decode cX8_alarm 36 = .ok (.if_icmp .lt 32, 3) := by decide +kernel
theorem dX8_alarm_39 : decode cX8_alarm 39 = .ok (.aload_n 3, 1) := by decide +kernel
theorem dX8_alarm_40 : decode cX8_alarm 40 = .ok (.iload_n 1, 1) := by decide +kernel
theorem dX8_alarm_41 : decode cX8_alarm 41 = .ok (.iload 4, 2) := by decide +kernel
theorem dX8_alarm_43 : decode cX8_alarm 43 = .ok (.invokevirtual 249, 3) := by decide +kernel
theorem dX8_alarm_46 : decode cX8_alarm 46 = .ok (.ifCond .eq 16, 3) := by decide +kernel
theorem dX8_alarm_49 : decode cX8_alarm 49 = .ok (.aload_n 3, 1) := by decide +kernel
theorem dX8_alarm_50 : decode cX8_alarm 50 = .ok (.iload_n 1, 1) := by decide +kernel
theorem dX8_alarm_51 : decode cX8_alarm 51 = .ok (.iload 4, 2) := by decide +kernel
theorem dX8_alarm_53 : decode cX8_alarm 53 = .ok (.invokevirtual 252, 3) := by decide +kernel
theorem dX8_alarm_56 : decode cX8_alarm 56 = .ok (.ifCond .ne 6, 3) := by decide +kernel
theorem dX8_alarm_59 : decode cX8_alarm 59 = .ok (.iload 4, 2) := by decide +kernel
theorem dX8_alarm_61 : decode cX8_alarm 61 = .ok (.ireturn, 1) := by decide +kernel
theorem dX8_alarm_62 : decode cX8_alarm 62 = .ok (.iinc 4 (-1), 3) := by decide +kernel
theorem dX8_alarm_65 : decode cX8_alarm 65 = .ok (.goto (-32), 3) := by decide +kernel
theorem dX8_alarm_68 : decode cX8_alarm 68 = .ok (.iconst 0, 1) := by decide +kernel
theorem dX8_alarm_69 : decode cX8_alarm 69 = .ok (.ireturn, 1) := by decide +kernel
theorem dX8_late_0 : decode cX8_late 0 = .ok (.aload_n 0, 1) := by decide +kernel
theorem dX8_late_1 : decode cX8_late 1 = .ok (.iload_n 1, 1) := by decide +kernel
theorem dX8_late_2 : decode cX8_late 2 = .ok (.invokevirtual 221, 3) := by decide +kernel
theorem dX8_late_5 : decode cX8_late 5 = .ok (.ifCond .eq 11, 3) := by decide +kernel
theorem dX8_late_8 : decode cX8_late 8 = .ok (.aload_n 0, 1) := by decide +kernel
theorem dX8_late_9 : decode cX8_late 9 = .ok (.iload_n 2, 1) := by decide +kernel
theorem dX8_late_10 : decode cX8_late 10 = .ok (.invokevirtual 188, 3) := by decide +kernel
theorem dX8_late_13 : decode cX8_late 13 = .ok (.ifCond .ne 5, 3) := by decide +kernel
theorem dX8_late_16 : decode cX8_late 16 = .ok (.iconst (-1), 1) := by decide +kernel
theorem dX8_late_17 : decode cX8_late 17 = .ok (.ireturn, 1) := by decide +kernel
theorem dX8_late_18 : decode cX8_late 18 = .ok (.aload_n 0, 1) := by decide +kernel
theorem dX8_late_19 : decode cX8_late 19 = .ok (.iload_n 2, 1) := by decide +kernel
theorem dX8_late_20 : decode cX8_late 20 = .ok (.invokevirtual 207, 3) := by decide +kernel
theorem dX8_late_23 : decode cX8_late 23 = .ok (.ifCond .eq 6, 3) := by decide +kernel
theorem dX8_late_26 : decode cX8_late 26 = .ok (.bipush (-9), 2) := by decide +kernel
theorem dX8_late_28 : decode cX8_late 28 = .ok (.ireturn, 1) := by decide +kernel
theorem dX8_late_29 : decode cX8_late 29 = .ok (.aload_n 0, 1) := by decide +kernel
theorem dX8_late_30 : decode cX8_late 30 = .ok (.iload_n 1, 1) := by decide +kernel
theorem dX8_late_31 : decode cX8_late 31 = .ok (.iload_n 2, 1) := by decide +kernel
theorem dX8_late_32 : decode cX8_late 32 = .ok (.invokevirtual 255, 3) := by decide +kernel
theorem dX8_late_35 : decode cX8_late 35 = .ok (.aload_n 0, 1) := by decide +kernel
theorem dX8_late_36 : decode cX8_late 36 = .ok (.getfield 103, 3) := by decide +kernel
theorem dX8_late_39 : decode cX8_late 39 = .ok (.if_icmp .gt 5, 3) := by decide +kernel
theorem dX8_late_42 : decode cX8_late 42 = .ok (.iconst 1, 1) := by decide +kernel
theorem dX8_late_43 : decode cX8_late 43 = .ok (.ireturn, 1) := by decide +kernel
theorem dX8_late_44 : decode cX8_late 44 = .ok (.aload_n 0, 1) := by decide +kernel
theorem dX8_late_45 : decode cX8_late 45 = .ok (.iload_n 1, 1) := by decide +kernel
theorem dX8_late_46 : decode cX8_late 46 = .ok (.iload_n 2, 1) := by decide +kernel
theorem dX8_late_47 : decode cX8_late 47 = .ok (.invokevirtual 258, 3) := by decide +kernel
theorem dX8_late_50 : decode cX8_late 50 = .ok (.aload_n 0, 1) := by decide +kernel
theorem dX8_late_51 : decode cX8_late 51 = .ok (.getfield 103, 3) := by decide +kernel
theorem dX8_late_54 : decode cX8_late 54 = .ok (.if_icmp .le 7, 3) := by decide +kernel
theorem dX8_late_57 : decode cX8_late 57 = .ok (.iconst 2, 1) := by decide +kernel
theorem dX8_late_58 : decode cX8_late 58 = .ok (.goto 4, 3) := by decide +kernel
theorem dX8_late_61 : decode cX8_late 61 = .ok (.iconst 0, 1) := by decide +kernel
theorem dX8_late_62 : decode cX8_late 62 = .ok (.ireturn, 1) := by decide +kernel
theorem dX8_left_0 : decode cX8_left 0 = .ok (.aload_n 0, 1) := by decide +kernel
theorem dX8_left_1 : decode cX8_left 1 = .ok (.iload_n 1, 1) := by decide +kernel
theorem dX8_left_2 : decode cX8_left 2 = .ok (.invokevirtual 221, 3) := by decide +kernel
theorem dX8_left_5 : decode cX8_left 5 = .ok (.ifCond .eq 11, 3) := by decide +kernel
theorem dX8_left_8 : decode cX8_left 8 = .ok (.aload_n 0, 1) := by decide +kernel
theorem dX8_left_9 : decode cX8_left 9 = .ok (.iload_n 2, 1) := by decide +kernel
theorem dX8_left_10 : decode cX8_left 10 = .ok (.invokevirtual 188, 3) := by decide +kernel
theorem dX8_left_13 : decode cX8_left 13 = .ok (.ifCond .ne 5, 3) := by decide +kernel
theorem dX8_left_16 : decode cX8_left 16 = .ok (.iconst (-1), 1) := by decide +kernel
theorem dX8_left_17 : decode cX8_left 17 = .ok (.ireturn, 1) := by decide +kernel
theorem dX8_left_18 : decode cX8_left 18 = .ok (.aload_n 0, 1) := by decide +kernel
theorem dX8_left_19 : decode cX8_left 19 = .ok (.iload_n 2, 1) := by decide +kernel
theorem dX8_left_20 : decode cX8_left 20 = .ok (.invokevirtual 207, 3) := by decide +kernel
theorem dX8_left_23 : decode cX8_left 23 = .ok (.ifCond .eq 6, 3) := by decide +kernel
theorem dX8_left_26 : decode cX8_left 26 = .ok (.bipush (-9), 2) := by decide +kernel
theorem dX8_left_28 : decode cX8_left 28 = .ok (.ireturn, 1) := by decide +kernel
theorem dX8_left_29 : decode cX8_left 29 = .ok (.iconst 0, 1) := by decide +kernel
theorem dX8_left_30 : decode cX8_left 30 = .ok (.aload_n 0, 1) := by decide +kernel
theorem dX8_left_31 : decode cX8_left 31 = .ok (.iload_n 1, 1) := by decide +kernel
theorem dX8_left_32 : decode cX8_left 32 = .ok (.iload_n 2, 1) := by decide +kernel
theorem dX8_left_33 : decode cX8_left 33 = .ok (.invokevirtual 258, 3) := by decide +kernel
theorem dX8_left_36 : decode cX8_left 36 = .ok (.aload_n 0, 1) := by decide +kernel
theorem dX8_left_37 : decode cX8_left 37 = .ok (.getfield 103, 3) := by decide +kernel
theorem dX8_left_40 : decode cX8_left 40 = .ok (.isub, 1) := by decide +kernel
theorem dX8_left_41 : decode cX8_left 41 = .ok (.invokestatic 261, 3) := by decide +kernel
theorem dX8_left_44 : decode cX8_left 44 = .ok (.ireturn, 1) := by decide +kernel
theorem dX8_asked_0 : decode cX8_asked 0 = .ok (.aload_n 0, 1) := by decide +kernel
theorem dX8_asked_1 : decode cX8_asked 1 = .ok (.getfield 130, 3) := by decide +kernel
theorem dX8_asked_4 : decode cX8_asked 4 = .ok (.ireturn, 1) := by decide +kernel
theorem dX8_count_0 : decode cX8_count 0 = .ok (.iload_n 1, 1) := by decide +kernel
theorem dX8_count_1 : decode cX8_count 1 = .ok (.tableswitch 81 0 5 #[39, 47, 55, 63, 71, 76], 39) := by decide +kernel
theorem dX8_count_40 : decode cX8_count 40 = .ok (.aload_n 0, 1) := by decide +kernel
theorem dX8_count_41 : decode cX8_count 41 = .ok (.getfield 21, 3) := by decide +kernel
theorem dX8_count_44 : decode cX8_count 44 = .ok (.invokevirtual 70, 3) := by decide +kernel
theorem dX8_count_47 : decode cX8_count 47 = .ok (.ireturn, 1) := by decide +kernel
theorem dX8_count_48 : decode cX8_count 48 = .ok (.aload_n 0, 1) := by decide +kernel
theorem dX8_count_49 : decode cX8_count 49 = .ok (.getfield 25, 3) := by decide +kernel
theorem dX8_count_52 : decode cX8_count 52 = .ok (.invokevirtual 70, 3) := by decide +kernel
theorem dX8_count_55 : decode cX8_count 55 = .ok (.ireturn, 1) := by decide +kernel
theorem dX8_count_56 : decode cX8_count 56 = .ok (.aload_n 0, 1) := by decide +kernel
theorem dX8_count_57 : decode cX8_count 57 = .ok (.getfield 28, 3) := by decide +kernel
theorem dX8_count_60 : decode cX8_count 60 = .ok (.invokevirtual 70, 3) := by decide +kernel
theorem dX8_count_63 : decode cX8_count 63 = .ok (.ireturn, 1) := by decide +kernel
theorem dX8_count_64 : decode cX8_count 64 = .ok (.aload_n 0, 1) := by decide +kernel
theorem dX8_count_65 : decode cX8_count 65 = .ok (.getfield 31, 3) := by decide +kernel
theorem dX8_count_68 : decode cX8_count 68 = .ok (.invokevirtual 70, 3) := by decide +kernel
theorem dX8_count_71 : decode cX8_count 71 = .ok (.ireturn, 1) := by decide +kernel
theorem dX8_count_72 : decode cX8_count 72 = .ok (.aload_n 0, 1) := by decide +kernel
theorem dX8_count_73 : decode cX8_count 73 = .ok (.getfield 233, 3) := by decide +kernel
theorem dX8_count_76 : decode cX8_count 76 = .ok (.ireturn, 1) := by decide +kernel
theorem dX8_count_77 : decode cX8_count 77 = .ok (.aload_n 0, 1) := by decide +kernel
theorem dX8_count_78 : decode cX8_count 78 = .ok (.getfield 103, 3) := by decide +kernel
theorem dX8_count_81 : decode cX8_count 81 = .ok (.ireturn, 1) := by decide +kernel
theorem dX8_count_82 : decode cX8_count 82 = .ok (.iconst (-1), 1) := by decide +kernel
theorem dX8_count_83 : decode cX8_count 83 = .ok (.ireturn, 1) := by decide +kernel
theorem dX8_finding_0 : decode cX8_finding 0 = .ok (.aload_n 0, 1) := by decide +kernel
theorem dX8_finding_1 : decode cX8_finding 1 = .ok (.getfield 266, 3) := by decide +kernel
theorem dX8_finding_4 : decode cX8_finding 4 = .ok (.ireturn, 1) := by decide +kernel
theorem dX8_findings_0 : decode cX8_findings 0 = .ok (.iload_n 1, 1) := by decide +kernel
theorem dX8_findings_1 : decode cX8_findings 1 = .ok (.iconst 1, 1) := by decide +kernel
theorem dX8_findings_2 : decode cX8_findings 2 = .ok (.iconst 5, 1) := by decide +kernel
theorem dX8_findings_3 : decode cX8_findings 3 = .ok (.invokestatic 55, 3) := by decide +kernel
theorem dX8_findings_6 : decode cX8_findings 6 = .ok (.ifCond .ne 5, 3) := by decide +kernel
theorem dX8_findings_9 : decode cX8_findings 9 = .ok (.iconst (-1), 1) := by decide +kernel
theorem dX8_findings_10 : decode cX8_findings 10 = .ok (.ireturn, 1) := by decide +kernel
theorem dX8_findings_11 : decode cX8_findings 11 = .ok (.aload_n 0, 1) := by decide +kernel
theorem dX8_findings_12 : decode cX8_findings 12 = .ok (.getfield 48, 3) := by decide +kernel
theorem dX8_findings_15 : decode cX8_findings 15 = .ok (.iload_n 1, 1) := by decide +kernel
theorem dX8_findings_16 : decode cX8_findings 16 = .ok (.iaload, 1) := by decide +kernel
theorem dX8_findings_17 : decode cX8_findings 17 = .ok (.ireturn, 1) := by decide +kernel
theorem dX8_digest_0 : decode cX8_digest 0 = .ok (.ldc2_w 269, 3) := by decide +kernel
theorem dX8_digest_3 : decode cX8_digest 3 = .ok (.aload_n 0, 1) := by decide +kernel
theorem dX8_digest_4 : decode cX8_digest 4 = .ok (.getfield 103, 3) := by decide +kernel
theorem dX8_digest_7 : decode cX8_digest 7 = .ok (.invokestatic 271, 3) := by decide +kernel
theorem dX8_digest_10 : decode cX8_digest 10 = .ok (.lstore_n 1, 1) := by decide +kernel
theorem dX8_digest_11 : decode cX8_digest 11 = .ok (.iconst 0, 1) := by decide +kernel
theorem dX8_digest_12 : decode cX8_digest 12 = .ok (.istore_n 3, 1) := by decide +kernel
theorem dX8_digest_13 : decode cX8_digest 13 = .ok (.iload_n 3, 1) := by decide +kernel
theorem dX8_digest_14 : decode cX8_digest 14 = .ok (.aload_n 0, 1) := by decide +kernel
theorem dX8_digest_15 : decode cX8_digest 15 = .ok (.getfield 21, 3) := by decide +kernel
theorem dX8_digest_18 : decode cX8_digest 18 = .ok (.invokevirtual 70, 3) := by decide +kernel
theorem dX8_digest_21 : decode cX8_digest 21 = .ok (.if_icmp .ge 19, 3) := by decide +kernel
theorem dX8_digest_24 : decode cX8_digest 24 = .ok (.lload_n 1, 1) := by decide +kernel
theorem dX8_digest_25 : decode cX8_digest 25 = .ok (.aload_n 0, 1) := by decide +kernel
theorem dX8_digest_26 : decode cX8_digest 26 = .ok (.iload_n 3, 1) := by decide +kernel
theorem dX8_digest_27 : decode cX8_digest 27 = .ok (.invokevirtual 110, 3) := by decide +kernel
theorem dX8_digest_30 : decode cX8_digest 30 = .ok (.invokestatic 275, 3) := by decide +kernel
theorem dX8_digest_33 : decode cX8_digest 33 = .ok (.lstore_n 1, 1) := by decide +kernel
theorem dX8_digest_34 : decode cX8_digest 34 = .ok (.iinc 3 1, 3) := by decide +kernel
theorem dX8_digest_37 : decode cX8_digest 37 = .ok (.goto (-24), 3) := by decide +kernel
theorem dX8_digest_40 : decode cX8_digest 40 = .ok (.iconst 0, 1) := by decide +kernel
theorem dX8_digest_41 : decode cX8_digest 41 = .ok (.istore_n 3, 1) := by decide +kernel
theorem dX8_digest_42 : decode cX8_digest 42 = .ok (.iload_n 3, 1) := by decide +kernel
theorem dX8_digest_43 : decode cX8_digest 43 = .ok (.aload_n 0, 1) := by decide +kernel
theorem dX8_digest_44 : decode cX8_digest 44 = .ok (.getfield 28, 3) := by decide +kernel
theorem dX8_digest_47 : decode cX8_digest 47 = .ok (.invokevirtual 70, 3) := by decide +kernel
theorem dX8_digest_50 : decode cX8_digest 50 = .ok (.if_icmp .ge 36, 3) := by decide +kernel
theorem dX8_digest_53 : decode cX8_digest 53 = .ok (.iconst 0, 1) := by decide +kernel
theorem dX8_digest_54 : decode cX8_digest 54 = .ok (.istore 4, 2) := by decide +kernel
theorem dX8_digest_56 : decode cX8_digest 56 = .ok (.iload 4, 2) := by decide +kernel
theorem dX8_digest_58 : decode cX8_digest 58 = .ok (.iconst 4, 1) := by decide +kernel
theorem dX8_digest_59 : decode cX8_digest 59 = .ok (.if_icmp .gt 21, 3) := by decide +kernel
theorem dX8_digest_62 : decode cX8_digest 62 = .ok (.lload_n 1, 1) := by decide +kernel
theorem dX8_digest_63 : decode cX8_digest 63 = .ok (.aload_n 0, 1) := by decide +kernel
theorem dX8_digest_64 : decode cX8_digest 64 = .ok (.iload_n 3, 1) := by decide +kernel
theorem dX8_digest_65 : decode cX8_digest 65 = .ok (.iload 4, 2) := by decide +kernel
theorem dX8_digest_67 : decode cX8_digest 67 = .ok (.invokevirtual 279, 3) := by decide +kernel
theorem dX8_digest_70 : decode cX8_digest 70 = .ok (.invokestatic 271, 3) := by decide +kernel
theorem dX8_digest_73 : decode cX8_digest 73 = .ok (.lstore_n 1, 1) := by decide +kernel
theorem dX8_digest_74 : decode cX8_digest 74 = .ok (.iinc 4 1, 3) := by decide +kernel
theorem dX8_digest_77 : decode cX8_digest 77 = .ok (.goto (-21), 3) := by decide +kernel
theorem dX8_digest_80 : decode cX8_digest 80 = .ok (.iinc 3 1, 3) := by decide +kernel
theorem dX8_digest_83 : decode cX8_digest 83 = .ok (.goto (-41), 3) := by decide +kernel
theorem dX8_digest_86 : decode cX8_digest 86 = .ok (.iconst 0, 1) := by decide +kernel
theorem dX8_digest_87 : decode cX8_digest 87 = .ok (.istore_n 3, 1) := by decide +kernel
theorem dX8_digest_88 : decode cX8_digest 88 = .ok (.iload_n 3, 1) := by decide +kernel
theorem dX8_digest_89 : decode cX8_digest 89 = .ok (.aload_n 0, 1) := by decide +kernel
theorem dX8_digest_90 : decode cX8_digest 90 = .ok (.getfield 31, 3) := by decide +kernel
theorem dX8_digest_93 : decode cX8_digest 93 = .ok (.invokevirtual 70, 3) := by decide +kernel
theorem dX8_digest_96 : decode cX8_digest 96 = .ok (.if_icmp .ge 36, 3) := by decide +kernel
theorem dX8_digest_99 : decode cX8_digest 99 = .ok (.iconst 0, 1) := by decide +kernel
theorem dX8_digest_100 : decode cX8_digest 100 = .ok (.istore 4, 2) := by decide +kernel
theorem dX8_digest_102 : decode cX8_digest 102 = .ok (.iload 4, 2) := by decide +kernel
theorem dX8_digest_104 : decode cX8_digest 104 = .ok (.iconst 4, 1) := by decide +kernel
theorem dX8_digest_105 : decode cX8_digest 105 = .ok (.if_icmp .gt 21, 3) := by decide +kernel
theorem dX8_digest_108 : decode cX8_digest 108 = .ok (.lload_n 1, 1) := by decide +kernel
theorem dX8_digest_109 : decode cX8_digest 109 = .ok (.aload_n 0, 1) := by decide +kernel
theorem dX8_digest_110 : decode cX8_digest 110 = .ok (.iload_n 3, 1) := by decide +kernel
theorem dX8_digest_111 : decode cX8_digest 111 = .ok (.iload 4, 2) := by decide +kernel
theorem dX8_digest_113 : decode cX8_digest 113 = .ok (.invokevirtual 282, 3) := by decide +kernel
theorem dX8_digest_116 : decode cX8_digest 116 = .ok (.invokestatic 271, 3) := by decide +kernel
theorem dX8_digest_119 : decode cX8_digest 119 = .ok (.lstore_n 1, 1) := by decide +kernel
theorem dX8_digest_120 : decode cX8_digest 120 = .ok (.iinc 4 1, 3) := by decide +kernel
theorem dX8_digest_123 : decode cX8_digest 123 = .ok (.goto (-21), 3) := by decide +kernel
theorem dX8_digest_126 : decode cX8_digest 126 = .ok (.iinc 3 1, 3) := by decide +kernel
theorem dX8_digest_129 : decode cX8_digest 129 = .ok (.goto (-41), 3) := by decide +kernel
theorem dX8_digest_132 : decode cX8_digest 132 = .ok (.iconst 0, 1) := by decide +kernel
theorem dX8_digest_133 : decode cX8_digest 133 = .ok (.istore_n 3, 1) := by decide +kernel
theorem dX8_digest_134 : decode cX8_digest 134 = .ok (.iload_n 3, 1) := by decide +kernel
theorem dX8_digest_135 : decode cX8_digest 135 = .ok (.aload_n 0, 1) := by decide +kernel
theorem dX8_digest_136 : decode cX8_digest 136 = .ok (.getfield 34, 3) := by decide +kernel
theorem dX8_digest_139 : decode cX8_digest 139 = .ok (.invokevirtual 70, 3) := by decide +kernel
theorem dX8_digest_142 : decode cX8_digest 142 = .ok (.if_icmp .ge 36, 3) := by decide +kernel
theorem dX8_digest_145 : decode cX8_digest 145 = .ok (.iconst 0, 1) := by decide +kernel
theorem dX8_digest_146 : decode cX8_digest 146 = .ok (.istore 4, 2) := by decide +kernel
theorem dX8_digest_148 : decode cX8_digest 148 = .ok (.iload 4, 2) := by decide +kernel
theorem dX8_digest_150 : decode cX8_digest 150 = .ok (.iconst 3, 1) := by decide +kernel
theorem dX8_digest_151 : decode cX8_digest 151 = .ok (.if_icmp .gt 21, 3) := by decide +kernel
theorem dX8_digest_154 : decode cX8_digest 154 = .ok (.lload_n 1, 1) := by decide +kernel
theorem dX8_digest_155 : decode cX8_digest 155 = .ok (.aload_n 0, 1) := by decide +kernel
theorem dX8_digest_156 : decode cX8_digest 156 = .ok (.iload_n 3, 1) := by decide +kernel
theorem dX8_digest_157 : decode cX8_digest 157 = .ok (.iload 4, 2) := by decide +kernel
theorem dX8_digest_159 : decode cX8_digest 159 = .ok (.invokevirtual 284, 3) := by decide +kernel
theorem dX8_digest_162 : decode cX8_digest 162 = .ok (.invokestatic 271, 3) := by decide +kernel
theorem dX8_digest_165 : decode cX8_digest 165 = .ok (.lstore_n 1, 1) := by decide +kernel
theorem dX8_digest_166 : decode cX8_digest 166 = .ok (.iinc 4 1, 3) := by decide +kernel
theorem dX8_digest_169 : decode cX8_digest 169 = .ok (.goto (-21), 3) := by decide +kernel
theorem dX8_digest_172 : decode cX8_digest 172 = .ok (.iinc 3 1, 3) := by decide +kernel
theorem dX8_digest_175 : decode cX8_digest 175 = .ok (.goto (-41), 3) := by decide +kernel
theorem dX8_digest_178 : decode cX8_digest 178 = .ok (.lload_n 1, 1) := by decide +kernel
theorem dX8_digest_179 : decode cX8_digest 179 = .ok (.lreturn, 1) := by decide +kernel
theorem dX8_isWithin_0 : decode cX8_isWithin 0 = .ok (.iload_n 0, 1) := by decide +kernel
theorem dX8_isWithin_1 : decode cX8_isWithin 1 = .ok (.iload_n 1, 1) := by decide +kernel
theorem dX8_isWithin_2 : decode cX8_isWithin 2 = .ok (.if_icmp .lt 12, 3) := by decide +kernel
theorem dX8_isWithin_5 : decode cX8_isWithin 5 = .ok (.iload_n 0, 1) := by decide +kernel
theorem dX8_isWithin_6 : decode cX8_isWithin 6 = .ok (.iload_n 2, 1) := by decide +kernel
theorem dX8_isWithin_7 : decode cX8_isWithin 7 = .ok (.if_icmp .gt 7, 3) := by decide +kernel
theorem dX8_isWithin_10 : decode cX8_isWithin 10 = .ok (.iconst 1, 1) := by decide +kernel
theorem dX8_isWithin_11 : decode cX8_isWithin 11 = .ok (.goto 4, 3) := by decide +kernel
theorem dX8_isWithin_14 : decode cX8_isWithin 14 = .ok (.iconst 0, 1) := by decide +kernel
theorem dX8_isWithin_15 : decode cX8_isWithin 15 = .ok (.ireturn, 1) := by decide +kernel
theorem dX8_isCell_0 : decode cX8_isCell 0 = .ok (.iload_n 0, 1) := by decide +kernel
theorem dX8_isCell_1 : decode cX8_isCell 1 = .ok (.iconst 0, 1) := by decide +kernel
theorem dX8_isCell_2 : decode cX8_isCell 2 = .ok (.sipush 143, 3) := by decide +kernel
theorem dX8_isCell_5 : decode cX8_isCell 5 = .ok (.invokestatic 55, 3) := by decide +kernel
theorem dX8_isCell_8 : decode cX8_isCell 8 = .ok (.ireturn, 1) := by decide +kernel
theorem dX8_isStation_0 : decode cX8_isStation 0 = .ok (.iload_n 1, 1) := by decide +kernel
theorem dX8_isStation_1 : decode cX8_isStation 1 = .ok (.iconst 0, 1) := by decide +kernel
theorem dX8_isStation_2 : decode cX8_isStation 2 = .ok (.aload_n 0, 1) := by decide +kernel
theorem dX8_isStation_3 : decode cX8_isStation 3 = .ok (.getfield 21, 3) := by decide +kernel
theorem dX8_isStation_6 : decode cX8_isStation 6 = .ok (.invokevirtual 70, 3) := by decide +kernel
theorem dX8_isStation_9 : decode cX8_isStation 9 = .ok (.iconst 1, 1) := by decide +kernel
theorem dX8_isStation_10 : decode cX8_isStation 10 = .ok (.isub, 1) := by decide +kernel
theorem dX8_isStation_11 : decode cX8_isStation 11 = .ok (.invokestatic 55, 3) := by decide +kernel
theorem dX8_isStation_14 : decode cX8_isStation 14 = .ok (.ireturn, 1) := by decide +kernel
theorem dX8_isTown_0 : decode cX8_isTown 0 = .ok (.iload_n 1, 1) := by decide +kernel
theorem dX8_isTown_1 : decode cX8_isTown 1 = .ok (.iconst 0, 1) := by decide +kernel
theorem dX8_isTown_2 : decode cX8_isTown 2 = .ok (.aload_n 0, 1) := by decide +kernel
theorem dX8_isTown_3 : decode cX8_isTown 3 = .ok (.getfield 25, 3) := by decide +kernel
theorem dX8_isTown_6 : decode cX8_isTown 6 = .ok (.invokevirtual 70, 3) := by decide +kernel
theorem dX8_isTown_9 : decode cX8_isTown 9 = .ok (.iconst 1, 1) := by decide +kernel
theorem dX8_isTown_10 : decode cX8_isTown 10 = .ok (.isub, 1) := by decide +kernel
theorem dX8_isTown_11 : decode cX8_isTown 11 = .ok (.invokestatic 55, 3) := by decide +kernel
theorem dX8_isTown_14 : decode cX8_isTown 14 = .ok (.ireturn, 1) := by decide +kernel
theorem dX8_isPick_0 : decode cX8_isPick 0 = .ok (.iload_n 1, 1) := by decide +kernel
theorem dX8_isPick_1 : decode cX8_isPick 1 = .ok (.iconst 0, 1) := by decide +kernel
theorem dX8_isPick_2 : decode cX8_isPick 2 = .ok (.aload_n 0, 1) := by decide +kernel
theorem dX8_isPick_3 : decode cX8_isPick 3 = .ok (.getfield 28, 3) := by decide +kernel
theorem dX8_isPick_6 : decode cX8_isPick 6 = .ok (.invokevirtual 70, 3) := by decide +kernel
theorem dX8_isPick_9 : decode cX8_isPick 9 = .ok (.iconst 1, 1) := by decide +kernel
theorem dX8_isPick_10 : decode cX8_isPick 10 = .ok (.isub, 1) := by decide +kernel
theorem dX8_isPick_11 : decode cX8_isPick 11 = .ok (.invokestatic 55, 3) := by decide +kernel
theorem dX8_isPick_14 : decode cX8_isPick 14 = .ok (.ireturn, 1) := by decide +kernel
theorem dX8_isQuake_0 : decode cX8_isQuake 0 = .ok (.iload_n 1, 1) := by decide +kernel
theorem dX8_isQuake_1 : decode cX8_isQuake 1 = .ok (.iconst 0, 1) := by decide +kernel
theorem dX8_isQuake_2 : decode cX8_isQuake 2 = .ok (.aload_n 0, 1) := by decide +kernel
theorem dX8_isQuake_3 : decode cX8_isQuake 3 = .ok (.getfield 31, 3) := by decide +kernel
theorem dX8_isQuake_6 : decode cX8_isQuake 6 = .ok (.invokevirtual 70, 3) := by decide +kernel
theorem dX8_isQuake_9 : decode cX8_isQuake 9 = .ok (.iconst 1, 1) := by decide +kernel
theorem dX8_isQuake_10 : decode cX8_isQuake 10 = .ok (.isub, 1) := by decide +kernel
theorem dX8_isQuake_11 : decode cX8_isQuake 11 = .ok (.invokestatic 55, 3) := by decide +kernel
theorem dX8_isQuake_14 : decode cX8_isQuake 14 = .ok (.ireturn, 1) := by decide +kernel
theorem dX8_rowOf_0 : decode cX8_rowOf 0 = .ok (.aload_n 0, 1) := by decide +kernel
theorem dX8_rowOf_1 : decode cX8_rowOf 1 = .ok (.getfield 21, 3) := by decide +kernel
theorem dX8_rowOf_4 : decode cX8_rowOf 4 = .ok (.iload_n 1, 1) := by decide +kernel
theorem dX8_rowOf_5 : decode cX8_rowOf 5 = .ok (.invokevirtual 87, 3) := by decide +kernel
theorem dX8_rowOf_8 : decode cX8_rowOf 8 = .ok (.checkcast 74, 3) := by decide +kernel
theorem dX8_rowOf_11 : decode cX8_rowOf 11 = .ok (.getfield 287, 3) := by decide +kernel
theorem dX8_rowOf_14 : decode cX8_rowOf 14 = .ok (.areturn, 1) := by decide +kernel
theorem dX8_found_0 : decode cX8_found 0 = .ok (.aload_n 0, 1) := by decide +kernel
theorem dX8_found_1 : decode cX8_found 1 = .ok (.iload_n 1, 1) := by decide +kernel
theorem dX8_found_2 : decode cX8_found 2 = .ok (.putfield 266, 3) := by decide +kernel
theorem dX8_found_5 : decode cX8_found 5 = .ok (.aload_n 0, 1) := by decide +kernel
theorem dX8_found_6 : decode cX8_found 6 = .ok (.getfield 48, 3) := by decide +kernel
theorem dX8_found_9 : decode cX8_found 9 = .ok (.iload_n 1, 1) := by decide +kernel
theorem dX8_found_10 : decode cX8_found 10 = .ok (.dup2, 1) := by decide +kernel
theorem dX8_found_11 : decode cX8_found 11 = .ok (.iaload, 1) := by decide +kernel
theorem dX8_found_12 : decode cX8_found 12 = .ok (.iconst 1, 1) := by decide +kernel
theorem dX8_found_13 : decode cX8_found 13 = .ok (.iadd, 1) := by decide +kernel
theorem dX8_found_14 : decode cX8_found 14 = .ok (.iastore, 1) := by decide +kernel
theorem dX8_found_15 : decode cX8_found 15 = .ok (.bipush (-3), 2) := by decide +kernel
theorem dX8_found_17 : decode cX8_found 17 = .ok (.ireturn, 1) := by decide +kernel
theorem dX8_bits_0 : decode cX8_bits 0 = .ok (.bipush 32, 2) := by decide +kernel
theorem dX8_bits_2 : decode cX8_bits 2 = .ok (.iload_n 0, 1) := by decide +kernel
theorem dX8_bits_3 : decode cX8_bits 3 = .ok (.invokestatic 291, 3) := by decide +kernel
theorem dX8_bits_6 : decode cX8_bits 6 = .ok (.isub, 1) := by decide +kernel
theorem dX8_bits_7 : decode cX8_bits 7 = .ok (.ireturn, 1) := by decide +kernel
theorem dX8_mixed_0 : decode cX8_mixed 0 = .ok (.ldc2_w 296, 3) := by decide +kernel
theorem dX8_mixed_3 : decode cX8_mixed 3 = .ok (.lload_n 0, 1) := by decide +kernel
theorem dX8_mixed_4 : decode cX8_mixed 4 = .ok (.lmul, 1) := by decide +kernel
theorem dX8_mixed_5 : decode cX8_mixed 5 = .ok (.iload_n 2, 1) := by decide +kernel
theorem dX8_mixed_6 : decode cX8_mixed 6 = .ok (.i2l, 1) := by decide +kernel
theorem dX8_mixed_7 : decode cX8_mixed 7 = .ok (.ladd, 1) := by decide +kernel
theorem dX8_mixed_8 : decode cX8_mixed 8 = .ok (.lreturn, 1) := by decide +kernel
theorem dX8_mixedRow_0 : decode cX8_mixedRow 0 = .ok (.lload_n 0, 1) := by decide +kernel
theorem dX8_mixedRow_1 : decode cX8_mixedRow 1 = .ok (.aload_n 2, 1) := by decide +kernel
theorem dX8_mixedRow_2 : decode cX8_mixedRow 2 = .ok (.getfield 133, 3) := by decide +kernel
theorem dX8_mixedRow_5 : decode cX8_mixedRow 5 = .ok (.invokestatic 271, 3) := by decide +kernel
theorem dX8_mixedRow_8 : decode cX8_mixedRow 8 = .ok (.lstore_n 3, 1) := by decide +kernel
theorem dX8_mixedRow_9 : decode cX8_mixedRow 9 = .ok (.iconst 0, 1) := by decide +kernel
theorem dX8_mixedRow_10 : decode cX8_mixedRow 10 = .ok (.istore 5, 2) := by decide +kernel
theorem dX8_mixedRow_12 : decode cX8_mixedRow 12 = .ok (.iload 5, 2) := by decide +kernel
theorem dX8_mixedRow_14 : decode cX8_mixedRow 14 = .ok (.aload_n 2, 1) := by decide +kernel
theorem dX8_mixedRow_15 : decode cX8_mixedRow 15 = .ok (.getfield 133, 3) := by decide +kernel
theorem dX8_mixedRow_18 : decode cX8_mixedRow 18 = .ok (.if_icmp .ge 21, 3) := by decide +kernel
theorem dX8_mixedRow_21 : decode cX8_mixedRow 21 = .ok (.lload_n 3, 1) := by decide +kernel
theorem dX8_mixedRow_22 : decode cX8_mixedRow 22 = .ok (.aload_n 2, 1) := by decide +kernel
theorem dX8_mixedRow_23 : decode cX8_mixedRow 23 = .ok (.getfield 127, 3) := by decide +kernel
theorem dX8_mixedRow_26 : decode cX8_mixedRow 26 = .ok (.iload 5, 2) := by decide +kernel
theorem dX8_mixedRow_28 : decode cX8_mixedRow 28 = .ok (.iaload, 1) := by decide +kernel
theorem dX8_mixedRow_29 : decode cX8_mixedRow 29 = .ok (.invokestatic 271, 3) := by decide +kernel
theorem dX8_mixedRow_32 : decode cX8_mixedRow 32 = .ok (.lstore_n 3, 1) := by decide +kernel
theorem dX8_mixedRow_33 : decode cX8_mixedRow 33 = .ok (.iinc 5 1, 3) := by decide +kernel
theorem dX8_mixedRow_36 : decode cX8_mixedRow 36 = .ok (.goto (-24), 3) := by decide +kernel
theorem dX8_mixedRow_39 : decode cX8_mixedRow 39 = .ok (.lload_n 3, 1) := by decide +kernel
theorem dX8_mixedRow_40 : decode cX8_mixedRow 40 = .ok (.lreturn, 1) := by decide +kernel
theorem dX8_takerOf_0 : decode cX8_takerOf 0 = .ok (.iconst 0, 1) := by decide +kernel
theorem dX8_takerOf_1 : decode cX8_takerOf 1 = .ok (.istore_n 3, 1) := by decide +kernel
theorem dX8_takerOf_2 : decode cX8_takerOf 2 = .ok (.iload_n 3, 1) := by decide +kernel
theorem dX8_takerOf_3 : decode cX8_takerOf 3 = .ok (.aload_n 0, 1) := by decide +kernel
theorem dX8_takerOf_4 : decode cX8_takerOf 4 = .ok (.getfield 31, 3) := by decide +kernel
theorem dX8_takerOf_7 : decode cX8_takerOf 7 = .ok (.invokevirtual 70, 3) := by decide +kernel
theorem dX8_takerOf_10 : decode cX8_takerOf 10 = .ok (.if_icmp .ge 21, 3) := by decide +kernel
theorem dX8_takerOf_13 : decode cX8_takerOf 13 = .ok (.aload_n 0, 1) := by decide +kernel
theorem dX8_takerOf_14 : decode cX8_takerOf 14 = .ok (.iload_n 3, 1) := by decide +kernel
theorem dX8_takerOf_15 : decode cX8_takerOf 15 = .ok (.iload_n 1, 1) := by decide +kernel
theorem dX8_takerOf_16 : decode cX8_takerOf 16 = .ok (.iload_n 2, 1) := by decide +kernel
theorem dX8_takerOf_17 : decode cX8_takerOf 17 = .ok (.invokevirtual 298, 3) := by decide +kernel
theorem dX8_takerOf_20 : decode cX8_takerOf 20 = .ok (.ifCond .eq 5, 3) := by decide +kernel
theorem dX8_takerOf_23 : decode cX8_takerOf 23 = .ok (.iload_n 3, 1) := by decide +kernel
theorem dX8_takerOf_24 : decode cX8_takerOf 24 = .ok (.ireturn, 1) := by decide +kernel
theorem dX8_takerOf_25 : decode cX8_takerOf 25 = .ok (.iinc 3 1, 3) := by decide +kernel
theorem dX8_takerOf_28 : decode cX8_takerOf 28 = .ok (.goto (-26), 3) := by decide +kernel
theorem dX8_takerOf_31 : decode cX8_takerOf 31 = .ok (.bipush (-9), 2) := by decide +kernel
theorem dX8_takerOf_33 : decode cX8_takerOf 33 = .ok (.ireturn, 1) := by decide +kernel
theorem dX8_takes_0 : decode cX8_takes 0 = .ok (.aload_n 0, 1) := by decide +kernel
theorem dX8_takes_1 : decode cX8_takes 1 = .ok (.getfield 31, 3) := by decide +kernel
theorem dX8_takes_4 : decode cX8_takes 4 = .ok (.iload_n 1, 1) := by decide +kernel
theorem dX8_takes_5 : decode cX8_takes 5 = .ok (.invokevirtual 87, 3) := by decide +kernel
theorem dX8_takes_8 : decode cX8_takes 8 = .ok (.checkcast 153, 3) := by decide +kernel
theorem dX8_takes_11 : decode cX8_takes 11 = .ok (.astore 4, 2) := by decide +kernel
theorem dX8_takes_13 : decode cX8_takes 13 = .ok (.aload 4, 2) := by decide +kernel
theorem dX8_takes_15 : decode cX8_takes 15 = .ok (.iload_n 2, 1) := by decide +kernel
theorem dX8_takes_16 : decode cX8_takes 16 = .ok (.invokevirtual 301, 3) := by decide +kernel
theorem dX8_takes_19 : decode cX8_takes 19 = .ok (.ifCond .ne 14, 3) := by decide +kernel
theorem dX8_takes_22 : decode cX8_takes 22 = .ok (.aload_n 0, 1) := by decide +kernel
theorem dX8_takes_23 : decode cX8_takes 23 = .ok (.iload_n 1, 1) := by decide +kernel
theorem dX8_takes_24 : decode cX8_takes 24 = .ok (.invokevirtual 194, 3) := by decide +kernel
theorem dX8_takes_27 : decode cX8_takes 27 = .ok (.getfield 198, 3) := by decide +kernel
theorem dX8_takes_30 : decode cX8_takes 30 = .ok (.ifCond .ne 5, 3) := by decide +kernel
theorem dX8_takes_33 : decode cX8_takes 33 = .ok (.iconst 0, 1) := by decide +kernel
theorem dX8_takes_34 : decode cX8_takes 34 = .ok (.ireturn, 1) := by decide +kernel
theorem dX8_takes_35 : decode cX8_takes 35 = .ok (.aload_n 0, 1) := by decide +kernel
theorem dX8_takes_36 : decode cX8_takes 36 = .ok (.aload 4, 2) := by decide +kernel
theorem dX8_takes_38 : decode cX8_takes 38 = .ok (.iload_n 2, 1) := by decide +kernel
theorem dX8_takes_39 : decode cX8_takes 39 = .ok (.iload_n 3, 1) := by decide +kernel
theorem dX8_takes_40 : decode cX8_takes 40 = .ok (.invokevirtual 304, 3) := by decide +kernel
theorem dX8_takes_43 : decode cX8_takes 43 = .ok (.aload_n 0, 1) := by decide +kernel
theorem dX8_takes_44 : decode cX8_takes 44 = .ok (.getfield 40, 3) := by decide +kernel
theorem dX8_takes_47 : decode cX8_takes 47 = .ok (.getfield 198, 3) := by decide +kernel
theorem dX8_takes_50 : decode cX8_takes 50 = .ok (.ifCond .le 7, 3) := by decide +kernel
theorem dX8_takes_53 : decode cX8_takes 53 = .ok (.iconst 1, 1) := by decide +kernel
theorem dX8_takes_54 : decode cX8_takes 54 = .ok (.goto 4, 3) := by decide +kernel
theorem dX8_takes_57 : decode cX8_takes 57 = .ok (.iconst 0, 1) := by decide +kernel
theorem dX8_takes_58 : decode cX8_takes 58 = .ok (.ireturn, 1) := by decide +kernel
theorem dX8_isOver_0 : decode cX8_isOver 0 = .ok (.aload_n 0, 1) := by decide +kernel
theorem dX8_isOver_1 : decode cX8_isOver 1 = .ok (.iload_n 1, 1) := by decide +kernel
theorem dX8_isOver_2 : decode cX8_isOver 2 = .ok (.invokevirtual 194, 3) := by decide +kernel
theorem dX8_isOver_5 : decode cX8_isOver 5 = .ok (.getfield 198, 3) := by decide +kernel
theorem dX8_isOver_8 : decode cX8_isOver 8 = .ok (.ifCond .ne 7, 3) := by decide +kernel
theorem dX8_isOver_11 : decode cX8_isOver 11 = .ok (.iconst 1, 1) := by decide +kernel
theorem dX8_isOver_12 : decode cX8_isOver 12 = .ok (.goto 4, 3) := by decide +kernel
theorem dX8_isOver_15 : decode cX8_isOver 15 = .ok (.iconst 0, 1) := by decide +kernel
theorem dX8_isOver_16 : decode cX8_isOver 16 = .ok (.ireturn, 1) := by decide +kernel
theorem dX8_heapOf_0 : decode cX8_heapOf 0 = .ok (.aload_n 0, 1) := by decide +kernel
theorem dX8_heapOf_1 : decode cX8_heapOf 1 = .ok (.getfield 40, 3) := by decide +kernel
theorem dX8_heapOf_4 : decode cX8_heapOf 4 = .ok (.getfield 308, 3) := by decide +kernel
theorem dX8_heapOf_7 : decode cX8_heapOf 7 = .ok (.iload_n 1, 1) := by decide +kernel
theorem dX8_heapOf_8 : decode cX8_heapOf 8 = .ok (.if_icmp .eq 63, 3) := by decide +kernel
theorem dX8_heapOf_11 : decode cX8_heapOf 11 = .ok (.aload_n 0, 1) := by decide +kernel
theorem dX8_heapOf_12 : decode cX8_heapOf 12 = .ok (.getfield 31, 3) := by decide +kernel
theorem dX8_heapOf_15 : decode cX8_heapOf 15 = .ok (.iload_n 1, 1) := by decide +kernel
theorem dX8_heapOf_16 : decode cX8_heapOf 16 = .ok (.invokevirtual 87, 3) := by decide +kernel
theorem dX8_heapOf_19 : decode cX8_heapOf 19 = .ok (.checkcast 153, 3) := by decide +kernel
theorem dX8_heapOf_22 : decode cX8_heapOf 22 = .ok (.astore_n 2, 1) := by decide +kernel
theorem dX8_heapOf_23 : decode cX8_heapOf 23 = .ok (.aload_n 0, 1) := by decide +kernel
theorem dX8_heapOf_24 : decode cX8_heapOf 24 = .ok (.aload_n 2, 1) := by decide +kernel
theorem dX8_heapOf_25 : decode cX8_heapOf 25 = .ok (.bipush (-9), 2) := by decide +kernel
theorem dX8_heapOf_27 : decode cX8_heapOf 27 = .ok (.iconst (-1), 1) := by decide +kernel
theorem dX8_heapOf_28 : decode cX8_heapOf 28 = .ok (.invokevirtual 304, 3) := by decide +kernel
theorem dX8_heapOf_31 : decode cX8_heapOf 31 = .ok (.aload_n 0, 1) := by decide +kernel
theorem dX8_heapOf_32 : decode cX8_heapOf 32 = .ok (.getfield 40, 3) := by decide +kernel
theorem dX8_heapOf_35 : decode cX8_heapOf 35 = .ok (.aload_n 0, 1) := by decide +kernel
theorem dX8_heapOf_36 : decode cX8_heapOf 36 = .ok (.getfield 14, 3) := by decide +kernel
theorem dX8_heapOf_39 : decode cX8_heapOf 39 = .ok (.aload_n 0, 1) := by decide +kernel
theorem dX8_heapOf_40 : decode cX8_heapOf 40 = .ok (.getfield 21, 3) := by decide +kernel
theorem dX8_heapOf_43 : decode cX8_heapOf 43 = .ok (.aload_n 2, 1) := by decide +kernel
theorem dX8_heapOf_44 : decode cX8_heapOf 44 = .ok (.getfield 309, 3) := by decide +kernel
theorem dX8_heapOf_47 : decode cX8_heapOf 47 = .ok (.invokevirtual 87, 3) := by decide +kernel
theorem dX8_heapOf_50 : decode cX8_heapOf 50 = .ok (.checkcast 74, 3) := by decide +kernel
theorem dX8_heapOf_53 : decode cX8_heapOf 53 = .ok (.getfield 312, 3) := by decide +kernel
theorem dX8_heapOf_56 : decode cX8_heapOf 56 = .ok (.aload_n 2, 1) := by decide +kernel
theorem dX8_heapOf_57 : decode cX8_heapOf 57 = .ok (.getfield 315, 3) := by decide +kernel
theorem dX8_heapOf_60 : decode cX8_heapOf 60 = .ok (.invokevirtual 318, 3) := by decide +kernel
theorem dX8_heapOf_63 : decode cX8_heapOf 63 = .ok (.aload_n 0, 1) := by decide +kernel
theorem dX8_heapOf_64 : decode cX8_heapOf 64 = .ok (.getfield 40, 3) := by decide +kernel
theorem dX8_heapOf_67 : decode cX8_heapOf 67 = .ok (.iload_n 1, 1) := by decide +kernel
theorem dX8_heapOf_68 : decode cX8_heapOf 68 = .ok (.putfield 308, 3) := by decide +kernel
theorem dX8_heapOf_71 : decode cX8_heapOf 71 = .ok (.aload_n 0, 1) := by decide +kernel
theorem dX8_heapOf_72 : decode cX8_heapOf 72 = .ok (.getfield 40, 3) := by decide +kernel
theorem dX8_heapOf_75 : decode cX8_heapOf 75 = .ok (.areturn, 1) := by decide +kernel
theorem dX8_fillHeap_0 : decode cX8_fillHeap 0 = .ok (.aload_n 0, 1) := by decide +kernel
theorem dX8_fillHeap_1 : decode cX8_fillHeap 1 = .ok (.getfield 40, 3) := by decide +kernel
theorem dX8_fillHeap_4 : decode cX8_fillHeap 4 = .ok (.invokevirtual 322, 3) := by decide +kernel
theorem dX8_fillHeap_7 : decode cX8_fillHeap 7 = .ok (.iconst 0, 1) := by decide +kernel
theorem dX8_fillHeap_8 : decode cX8_fillHeap 8 = .ok (.istore 4, 2) := by decide +kernel
theorem dX8_fillHeap_10 : decode cX8_fillHeap 10 = .ok (.iload 4, 2) := by decide +kernel
theorem dX8_fillHeap_12 : decode cX8_fillHeap 12 = .ok (.aload_n 0, 1) := by decide +kernel
theorem dX8_fillHeap_13 : decode cX8_fillHeap 13 = .ok (.getfield 21, 3) := by decide +kernel
theorem dX8_fillHeap_16 : decode cX8_fillHeap 16 = .ok (.invokevirtual 70, 3) := by decide +kernel
theorem dX8_fillHeap_19 : decode cX8_fillHeap 19 = .ok (.if_icmp .ge 116, 3) := by decide +kernel
theorem dX8_fillHeap_22 : decode cX8_fillHeap 22 = .ok (.aload_n 0, 1) := by decide +kernel
theorem dX8_fillHeap_23 : decode cX8_fillHeap 23 = .ok (.getfield 21, 3) := by decide +kernel
theorem dX8_fillHeap_26 : decode cX8_fillHeap 26 = .ok (.iload 4, 2) := by decide +kernel
theorem dX8_fillHeap_28 : decode cX8_fillHeap 28 = .ok (.invokevirtual 87, 3) := by decide +kernel
theorem dX8_fillHeap_31 : decode cX8_fillHeap 31 = .ok (.checkcast 74, 3) := by decide +kernel
theorem dX8_fillHeap_34 : decode cX8_fillHeap 34 = .ok (.astore 5, 2) := by decide +kernel
theorem dX8_fillHeap_36 : decode cX8_fillHeap 36 = .ok (.iload 4, 2) := by decide +kernel
theorem dX8_fillHeap_38 : decode cX8_fillHeap 38 = .ok (.iload_n 2, 1) := by decide +kernel
theorem dX8_fillHeap_39 : decode cX8_fillHeap 39 = .ok (.if_icmp .ne 7, 3) := by decide +kernel
theorem dX8_fillHeap_42 : decode cX8_fillHeap 42 = .ok (.iload_n 3, 1) := by decide +kernel
theorem dX8_fillHeap_43 : decode cX8_fillHeap 43 = .ok (.goto 10, 3) := by decide +kernel
theorem dX8_fillHeap_46 : decode cX8_fillHeap 46 = .ok (.aload_n 1, 1) := by decide +kernel
theorem dX8_fillHeap_47 : decode cX8_fillHeap 47 = .ok (.getfield 325, 3) := by decide +kernel
theorem dX8_fillHeap_50 : decode cX8_fillHeap 50 = .ok (.iload 4, 2) := by decide +kernel
theorem dX8_fillHeap_52 : decode cX8_fillHeap 52 = .ok (.iaload, 1) := by decide +kernel
theorem dX8_fillHeap_53 : decode cX8_fillHeap 53 = .ok (.istore 6, 2) := by decide +kernel
theorem dX8_fillHeap_55 : decode cX8_fillHeap 55 = .ok (.iload 6, 2) := by decide +kernel
theorem dX8_fillHeap_57 : decode cX8_fillHeap 57 = .ok (.iconst (-1), 1) := by decide +kernel
theorem dX8_fillHeap_58 : decode cX8_fillHeap 58 = .ok (.if_icmp .eq 36, 3) := by decide +kernel
theorem dX8_fillHeap_61 : decode cX8_fillHeap 61 = .ok (.aload_n 0, 1) := by decide +kernel
theorem dX8_fillHeap_62 : decode cX8_fillHeap 62 = .ok (.getfield 40, 3) := by decide +kernel
theorem dX8_fillHeap_65 : decode cX8_fillHeap 65 = .ok (.aload_n 0, 1) := by decide +kernel
theorem dX8_fillHeap_66 : decode cX8_fillHeap 66 = .ok (.getfield 14, 3) := by decide +kernel
theorem dX8_fillHeap_69 : decode cX8_fillHeap 69 = .ok (.aload 5, 2) := by decide +kernel
theorem dX8_fillHeap_71 : decode cX8_fillHeap 71 = .ok (.getfield 312, 3) := by decide +kernel
theorem dX8_fillHeap_74 : decode cX8_fillHeap 74 = .ok (.iload 6, 2) := by decide +kernel
theorem dX8_fillHeap_76 : decode cX8_fillHeap 76 = .ok (.aload_n 0, 1) := by decide +kernel
theorem dX8_fillHeap_77 : decode cX8_fillHeap 77 = .ok (.getfield 51, 3) := by decide +kernel
theorem dX8_fillHeap_80 : decode cX8_fillHeap 80 = .ok (.isub, 1) := by decide +kernel
theorem dX8_fillHeap_81 : decode cX8_fillHeap 81 = .ok (.iload 6, 2) := by decide +kernel
theorem dX8_fillHeap_83 : decode cX8_fillHeap 83 = .ok (.aload_n 0, 1) := by decide +kernel
theorem dX8_fillHeap_84 : decode cX8_fillHeap 84 = .ok (.getfield 51, 3) := by decide +kernel
theorem dX8_fillHeap_87 : decode cX8_fillHeap 87 = .ok (.iadd, 1) := by decide +kernel
theorem dX8_fillHeap_88 : decode cX8_fillHeap 88 = .ok (.invokevirtual 328, 3) := by decide +kernel
theorem dX8_fillHeap_91 : decode cX8_fillHeap 91 = .ok (.goto 38, 3) := by decide +kernel
theorem dX8_fillHeap_94 : decode cX8_fillHeap 94 = .ok (.aload 5, 2) := by decide +kernel
theorem dX8_fillHeap_96 : decode cX8_fillHeap 96 = .ok (.getfield 91, 3) := by decide +kernel
theorem dX8_fillHeap_99 : decode cX8_fillHeap 99 = .ok (.ifCond .ne 30, 3) := by decide +kernel
theorem dX8_fillHeap_102 : decode cX8_fillHeap 102 = .ok (.aload_n 0, 1) := by decide +kernel
theorem dX8_fillHeap_103 : decode cX8_fillHeap 103 = .ok (.getfield 40, 3) := by decide +kernel
theorem dX8_fillHeap_106 : decode cX8_fillHeap 106 = .ok (.aload_n 0, 1) := by decide +kernel
theorem dX8_fillHeap_107 : decode cX8_fillHeap 107 = .ok (.getfield 14, 3) := by decide +kernel
theorem dX8_fillHeap_110 : decode cX8_fillHeap 110 = .ok (.aload 5, 2) := by decide +kernel
theorem dX8_fillHeap_112 : decode cX8_fillHeap 112 = .ok (.getfield 312, 3) := by decide +kernel
theorem dX8_fillHeap_115 : decode cX8_fillHeap 115 = .ok (.aload_n 0, 1) := by decide +kernel
theorem dX8_fillHeap_116 : decode cX8_fillHeap 116 = .ok (.getfield 103, 3) := by decide +kernel
theorem dX8_fillHeap_119 : decode cX8_fillHeap 119 = .ok (.aload_n 0, 1) := by decide +kernel
theorem dX8_fillHeap_120 : decode cX8_fillHeap 120 = .ok (.getfield 51, 3) := by decide +kernel
theorem dX8_fillHeap_123 : decode cX8_fillHeap 123 = .ok (.isub, 1) := by decide +kernel
theorem dX8_fillHeap_124 : decode cX8_fillHeap 124 = .ok (.ldc 149, 2) := by decide +kernel
theorem dX8_fillHeap_126 : decode cX8_fillHeap 126 = .ok (.invokevirtual 328, 3) := by decide +kernel
theorem dX8_fillHeap_129 : decode cX8_fillHeap 129 = .ok (.iinc 4 1, 3) := by decide +kernel
theorem dX8_fillHeap_132 : decode cX8_fillHeap 132 = .ok (.goto (-122), 3) := by decide +kernel
theorem dX8_fillHeap_135 : decode cX8_fillHeap 135 = .ok (.aload_n 0, 1) := by decide +kernel
theorem dX8_fillHeap_136 : decode cX8_fillHeap 136 = .ok (.getfield 40, 3) := by decide +kernel
theorem dX8_fillHeap_139 : decode cX8_fillHeap 139 = .ok (.invokevirtual 332, 3) := by decide +kernel
theorem dX8_fillHeap_142 : decode cX8_fillHeap 142 = .ok (.return_, 1) := by decide +kernel
theorem dX8_feltIn_0 : decode cX8_feltIn 0 = .ok (.aload_n 0, 1) := by decide +kernel
theorem dX8_feltIn_1 : decode cX8_feltIn 1 = .ok (.iload_n 2, 1) := by decide +kernel
theorem dX8_feltIn_2 : decode cX8_feltIn 2 = .ok (.invokevirtual 194, 3) := by decide +kernel
theorem dX8_feltIn_5 : decode cX8_feltIn 5 = .ok (.astore_n 3, 1) := by decide +kernel
theorem dX8_feltIn_6 : decode cX8_feltIn 6 = .ok (.aload_n 0, 1) := by decide +kernel
theorem dX8_feltIn_7 : decode cX8_feltIn 7 = .ok (.getfield 25, 3) := by decide +kernel
theorem dX8_feltIn_10 : decode cX8_feltIn 10 = .ok (.iload_n 1, 1) := by decide +kernel
theorem dX8_feltIn_11 : decode cX8_feltIn 11 = .ok (.invokevirtual 87, 3) := by decide +kernel
theorem dX8_feltIn_14 : decode cX8_feltIn 14 = .ok (.checkcast 81, 3) := by decide +kernel
theorem dX8_feltIn_17 : decode cX8_feltIn 17 = .ok (.getfield 335, 3) := by decide +kernel
theorem dX8_feltIn_20 : decode cX8_feltIn 20 = .ok (.istore 4, 2) := by decide +kernel
theorem dX8_feltIn_22 : decode cX8_feltIn 22 = .ok (.iconst 0, 1) := by decide +kernel
theorem dX8_feltIn_23 : decode cX8_feltIn 23 = .ok (.istore 5, 2) := by decide +kernel
theorem dX8_feltIn_25 : decode cX8_feltIn 25 = .ok (.iconst 0, 1) := by decide +kernel
theorem dX8_feltIn_26 : decode cX8_feltIn 26 = .ok (.istore 6, 2) := by decide +kernel
theorem dX8_feltIn_28 : decode cX8_feltIn 28 = .ok (.iload 6, 2) := by decide +kernel
theorem dX8_feltIn_30 : decode cX8_feltIn 30 = .ok (.sipush 144, 3) := by decide +kernel
theorem dX8_feltIn_33 : decode cX8_feltIn 33 = .ok (.if_icmp .ge 41, 3) := by decide +kernel
theorem dX8_feltIn_36 : decode cX8_feltIn 36 = .ok (.aload_n 3, 1) := by decide +kernel
theorem dX8_feltIn_37 : decode cX8_feltIn 37 = .ok (.iload 6, 2) := by decide +kernel
theorem dX8_feltIn_39 : decode cX8_feltIn 39 = .ok (.invokevirtual 213, 3) := by decide +kernel
theorem dX8_feltIn_42 : decode cX8_feltIn 42 = .ok (.ifCond .eq 26, 3) := by decide +kernel
theorem dX8_feltIn_45 : decode cX8_feltIn 45 = .ok (.iload 5, 2) := by decide +kernel
theorem dX8_feltIn_47 : decode cX8_feltIn 47 = .ok (.aload_n 0, 1) := by decide +kernel
theorem dX8_feltIn_48 : decode cX8_feltIn 48 = .ok (.getfield 14, 3) := by decide +kernel
theorem dX8_feltIn_51 : decode cX8_feltIn 51 = .ok (.iload 6, 2) := by decide +kernel
theorem dX8_feltIn_53 : decode cX8_feltIn 53 = .ok (.iload 4, 2) := by decide +kernel
theorem dX8_feltIn_55 : decode cX8_feltIn 55 = .ok (.invokevirtual 98, 3) := by decide +kernel
theorem dX8_feltIn_58 : decode cX8_feltIn 58 = .ok (.iconst 1, 1) := by decide +kernel
theorem dX8_feltIn_59 : decode cX8_feltIn 59 = .ok (.iadd, 1) := by decide +kernel
theorem dX8_feltIn_60 : decode cX8_feltIn 60 = .ok (.invokestatic 336, 3) := by decide +kernel
theorem dX8_feltIn_63 : decode cX8_feltIn 63 = .ok (.invokestatic 261, 3) := by decide +kernel
theorem dX8_feltIn_66 : decode cX8_feltIn 66 = .ok (.istore 5, 2) := by decide +kernel
theorem dX8_feltIn_68 : decode cX8_feltIn 68 = .ok (.iinc 6 1, 3) := by decide +kernel
theorem dX8_feltIn_71 : decode cX8_feltIn 71 = .ok (.goto (-43), 3) := by decide +kernel
theorem dX8_feltIn_74 : decode cX8_feltIn 74 = .ok (.iconst 0, 1) := by decide +kernel
theorem dX8_feltIn_75 : decode cX8_feltIn 75 = .ok (.aload_n 3, 1) := by decide +kernel
theorem dX8_feltIn_76 : decode cX8_feltIn 76 = .ok (.getfield 201, 3) := by decide +kernel
theorem dX8_feltIn_79 : decode cX8_feltIn 79 = .ok (.iload 5, 2) := by decide +kernel
theorem dX8_feltIn_81 : decode cX8_feltIn 81 = .ok (.isub, 1) := by decide +kernel
theorem dX8_feltIn_82 : decode cX8_feltIn 82 = .ok (.invokestatic 261, 3) := by decide +kernel
theorem dX8_feltIn_85 : decode cX8_feltIn 85 = .ok (.ireturn, 1) := by decide +kernel
theorem dX8_earliestArrival_0 : decode cX8_earliestArrival 0 = .ok (.aload_n 0, 1) := by decide +kernel
theorem dX8_earliestArrival_1 : decode cX8_earliestArrival 1 = .ok (.iload_n 2, 1) := by decide +kernel
theorem dX8_earliestArrival_2 : decode cX8_earliestArrival 2 = .ok (.invokevirtual 194, 3) := by decide +kernel
theorem dX8_earliestArrival_5 : decode cX8_earliestArrival 5 = .ok (.astore_n 3, 1) := by decide +kernel
theorem dX8_earliestArrival_6 : decode cX8_earliestArrival 6 = .ok (.aload_n 0, 1) := by decide +kernel
theorem dX8_earliestArrival_7 : decode cX8_earliestArrival 7 = .ok (.getfield 25, 3) := by decide +kernel
theorem dX8_earliestArrival_10 : decode cX8_earliestArrival 10 = .ok (.iload_n 1, 1) := by decide +kernel
theorem dX8_earliestArrival_11 : decode cX8_earliestArrival 11 = .ok (.invokevirtual 87, 3) := by decide +kernel
theorem dX8_earliestArrival_14 : decode cX8_earliestArrival 14 = .ok (.checkcast 81, 3) := by decide +kernel
theorem dX8_earliestArrival_17 : decode cX8_earliestArrival 17 = .ok (.getfield 335, 3) := by decide +kernel
theorem dX8_earliestArrival_20 : decode cX8_earliestArrival 20 = .ok (.istore 4, 2) := by decide +kernel
theorem dX8_earliestArrival_22 : decode cX8_earliestArrival 22 = .ok (.ldc 149, 2) := by decide +kernel
theorem dX8_earliestArrival_24 : decode cX8_earliestArrival 24 = .ok (.istore 5, 2) := by decide +kernel
theorem dX8_earliestArrival_26 : decode cX8_earliestArrival 26 = .ok (.iconst 0, 1) := by decide +kernel
theorem dX8_earliestArrival_27 : decode cX8_earliestArrival 27 = .ok (.istore 6, 2) := by decide +kernel
theorem dX8_earliestArrival_29 : decode cX8_earliestArrival 29 = .ok (.iload 6, 2) := by decide +kernel
theorem dX8_earliestArrival_31 : decode cX8_earliestArrival 31 = .ok (.sipush 144, 3) := by decide +kernel
theorem dX8_earliestArrival_34 : decode cX8_earliestArrival 34 = .ok (.if_icmp .ge 47, 3) := by decide +kernel
theorem dX8_earliestArrival_37 : decode cX8_earliestArrival 37 = .ok (.aload_n 3, 1) := by decide +kernel
theorem dX8_earliestArrival_38 : decode cX8_earliestArrival 38 = .ok (.iload 6, 2) := by decide +kernel
theorem dX8_earliestArrival_40 : decode cX8_earliestArrival 40 = .ok (.invokevirtual 213, 3) := by decide +kernel
theorem dX8_earliestArrival_43 : decode cX8_earliestArrival 43 = .ok (.ifCond .ne 6, 3) := by decide +kernel
theorem dX8_earliestArrival_46 : decode cX8_earliestArrival 46 = .ok (.goto 29, 3) := by decide +kernel
theorem dX8_earliestArrival_49 : decode cX8_earliestArrival 49 = .ok (.iload 5, 2) := by decide +kernel
theorem dX8_earliestArrival_51 : decode cX8_earliestArrival 51 = .ok (.aload_n 3, 1) := by decide +kernel
theorem dX8_earliestArrival_52 : decode cX8_earliestArrival 52 = .ok (.getfield 218, 3) := by decide +kernel
theorem dX8_earliestArrival_55 : decode cX8_earliestArrival 55 = .ok (.iload 6, 2) := by decide +kernel
theorem dX8_earliestArrival_57 : decode cX8_earliestArrival 57 = .ok (.iaload, 1) := by decide +kernel
theorem dX8_earliestArrival_58 : decode cX8_earliestArrival 58 = .ok (.aload_n 0, 1) := by decide +kernel
theorem dX8_earliestArrival_59 : decode cX8_earliestArrival 59 = .ok (.getfield 14, 3) := by decide +kernel
theorem dX8_earliestArrival_62 : decode cX8_earliestArrival 62 = .ok (.iload 6, 2) := by decide +kernel
theorem dX8_earliestArrival_64 : decode cX8_earliestArrival 64 = .ok (.iload 4, 2) := by decide +kernel
theorem dX8_earliestArrival_66 : decode cX8_earliestArrival 66 = .ok (.invokevirtual 98, 3) := by decide +kernel
theorem dX8_earliestArrival_69 : decode cX8_earliestArrival 69 = .ok (.iadd, 1) := by decide +kernel
theorem dX8_earliestArrival_70 : decode cX8_earliestArrival 70 = .ok (.invokestatic 339, 3) := by decide +kernel
theorem dX8_earliestArrival_73 : decode cX8_earliestArrival 73 = .ok (.istore 5, 2) := by decide +kernel
theorem dX8_earliestArrival_75 : decode cX8_earliestArrival 75 = .ok (.iinc 6 1, 3) := by decide +kernel
theorem dX8_earliestArrival_78 : decode cX8_earliestArrival 78 = .ok (.goto (-49), 3) := by decide +kernel
theorem dX8_earliestArrival_81 : decode cX8_earliestArrival 81 = .ok (.iload 5, 2) := by decide +kernel
theorem dX8_earliestArrival_83 : decode cX8_earliestArrival 83 = .ok (.ireturn, 1) := by decide +kernel
theorem dX8_latestArrival_0 : decode cX8_latestArrival 0 = .ok (.aload_n 0, 1) := by decide +kernel
theorem dX8_latestArrival_1 : decode cX8_latestArrival 1 = .ok (.iload_n 2, 1) := by decide +kernel
theorem dX8_latestArrival_2 : decode cX8_latestArrival 2 = .ok (.invokevirtual 194, 3) := by decide +kernel
theorem dX8_latestArrival_5 : decode cX8_latestArrival 5 = .ok (.astore_n 3, 1) := by decide +kernel
theorem dX8_latestArrival_6 : decode cX8_latestArrival 6 = .ok (.aload_n 0, 1) := by decide +kernel
theorem dX8_latestArrival_7 : decode cX8_latestArrival 7 = .ok (.getfield 25, 3) := by decide +kernel
theorem dX8_latestArrival_10 : decode cX8_latestArrival 10 = .ok (.iload_n 1, 1) := by decide +kernel
theorem dX8_latestArrival_11 : decode cX8_latestArrival 11 = .ok (.invokevirtual 87, 3) := by decide +kernel
theorem dX8_latestArrival_14 : decode cX8_latestArrival 14 = .ok (.checkcast 81, 3) := by decide +kernel
theorem dX8_latestArrival_17 : decode cX8_latestArrival 17 = .ok (.getfield 335, 3) := by decide +kernel
theorem dX8_latestArrival_20 : decode cX8_latestArrival 20 = .ok (.istore 4, 2) := by decide +kernel
theorem dX8_latestArrival_22 : decode cX8_latestArrival 22 = .ok (.ldc_w 342, 3) := by decide +kernel
theorem dX8_latestArrival_25 : decode cX8_latestArrival 25 = .ok (.istore 5, 2) := by decide +kernel
theorem dX8_latestArrival_27 : decode cX8_latestArrival 27 = .ok (.iconst 0, 1) := by decide +kernel
theorem dX8_latestArrival_28 : decode cX8_latestArrival 28 = .ok (.istore 6, 2) := by decide +kernel
theorem dX8_latestArrival_30 : decode cX8_latestArrival 30 = .ok (.iload 6, 2) := by decide +kernel
theorem dX8_latestArrival_32 : decode cX8_latestArrival 32 = .ok (.sipush 144, 3) := by decide +kernel
theorem dX8_latestArrival_35 : decode cX8_latestArrival 35 = .ok (.if_icmp .ge 47, 3) := by decide +kernel
theorem dX8_latestArrival_38 : decode cX8_latestArrival 38 = .ok (.aload_n 3, 1) := by decide +kernel
theorem dX8_latestArrival_39 : decode cX8_latestArrival 39 = .ok (.iload 6, 2) := by decide +kernel
theorem dX8_latestArrival_41 : decode cX8_latestArrival 41 = .ok (.invokevirtual 213, 3) := by decide +kernel
theorem dX8_latestArrival_44 : decode cX8_latestArrival 44 = .ok (.ifCond .ne 6, 3) := by decide +kernel
theorem dX8_latestArrival_47 : decode cX8_latestArrival 47 = .ok (.goto 29, 3) := by decide +kernel
theorem dX8_latestArrival_50 : decode cX8_latestArrival 50 = .ok (.iload 5, 2) := by decide +kernel
theorem dX8_latestArrival_52 : decode cX8_latestArrival 52 = .ok (.aload_n 3, 1) := by decide +kernel
theorem dX8_latestArrival_53 : decode cX8_latestArrival 53 = .ok (.getfield 215, 3) := by decide +kernel
theorem dX8_latestArrival_56 : decode cX8_latestArrival 56 = .ok (.iload 6, 2) := by decide +kernel
theorem dX8_latestArrival_58 : decode cX8_latestArrival 58 = .ok (.iaload, 1) := by decide +kernel
theorem dX8_latestArrival_59 : decode cX8_latestArrival 59 = .ok (.aload_n 0, 1) := by decide +kernel
theorem dX8_latestArrival_60 : decode cX8_latestArrival 60 = .ok (.getfield 14, 3) := by decide +kernel
theorem dX8_latestArrival_63 : decode cX8_latestArrival 63 = .ok (.iload 6, 2) := by decide +kernel
theorem dX8_latestArrival_65 : decode cX8_latestArrival 65 = .ok (.iload 4, 2) := by decide +kernel
theorem dX8_latestArrival_67 : decode cX8_latestArrival 67 = .ok (.invokevirtual 98, 3) := by decide +kernel
theorem dX8_latestArrival_70 : decode cX8_latestArrival 70 = .ok (.iadd, 1) := by decide +kernel
theorem dX8_latestArrival_71 : decode cX8_latestArrival 71 = .ok (.invokestatic 261, 3) := by decide +kernel
theorem dX8_latestArrival_74 : decode cX8_latestArrival 74 = .ok (.istore 5, 2) := by decide +kernel
theorem dX8_latestArrival_76 : decode cX8_latestArrival 76 = .ok (.iinc 6 1, 3) := by decide +kernel
theorem dX8_latestArrival_79 : decode cX8_latestArrival 79 = .ok (.goto (-49), 3) := by decide +kernel
theorem dX8_latestArrival_82 : decode cX8_latestArrival 82 = .ok (.iload 5, 2) := by decide +kernel
theorem dX8_latestArrival_84 : decode cX8_latestArrival 84 = .ok (.ireturn, 1) := by decide +kernel
theorem dX8_tellFelt_0 : decode cX8_tellFelt 0 = .ok (.aload_n 0, 1) := by decide +kernel
theorem dX8_tellFelt_1 : decode cX8_tellFelt 1 = .ok (.getfield 31, 3) := by decide +kernel
theorem dX8_tellFelt_4 : decode cX8_tellFelt 4 = .ok (.iload_n 2, 1) := by decide +kernel
theorem dX8_tellFelt_5 : decode cX8_tellFelt 5 = .ok (.invokevirtual 87, 3) := by decide +kernel
theorem dX8_tellFelt_8 : decode cX8_tellFelt 8 = .ok (.checkcast 153, 3) := by decide +kernel
theorem dX8_tellFelt_11 : decode cX8_tellFelt 11 = .ok (.astore_n 3, 1) := by decide +kernel
theorem dX8_tellFelt_12 : decode cX8_tellFelt 12 = .ok (.aload_n 0, 1) := by decide +kernel
theorem dX8_tellFelt_13 : decode cX8_tellFelt 13 = .ok (.iload_n 1, 1) := by decide +kernel
theorem dX8_tellFelt_14 : decode cX8_tellFelt 14 = .ok (.iload_n 2, 1) := by decide +kernel
theorem dX8_tellFelt_15 : decode cX8_tellFelt 15 = .ok (.invokevirtual 224, 3) := by decide +kernel
theorem dX8_tellFelt_18 : decode cX8_tellFelt 18 = .ok (.istore 4, 2) := by decide +kernel
theorem dX8_tellFelt_20 : decode cX8_tellFelt 20 = .ok (.iconst 0, 1) := by decide +kernel
theorem dX8_tellFelt_21 : decode cX8_tellFelt 21 = .ok (.istore 5, 2) := by decide +kernel
theorem dX8_tellFelt_23 : decode cX8_tellFelt 23 = .ok (.iconst 1, 1) := by decide +kernel
theorem dX8_tellFelt_24 : decode cX8_tellFelt 24 = .ok (.istore 6, 2) := by decide +kernel
theorem dX8_tellFelt_26 : decode cX8_tellFelt 26 = .ok (.iload 6, 2) := by decide +kernel
theorem dX8_tellFelt_28 : decode cX8_tellFelt 28 = .ok (.iconst 4, 1) := by decide +kernel
theorem dX8_tellFelt_29 : decode cX8_tellFelt 29 = .ok (.if_icmp .gt 52, 3) := by decide +kernel
theorem dX8_tellFelt_32 : decode cX8_tellFelt 32 = .ok (.iload 4, 2) := by decide +kernel
theorem dX8_tellFelt_34 : decode cX8_tellFelt 34 = .ok (.aload_n 0, 1) := by decide +kernel
theorem dX8_tellFelt_35 : decode cX8_tellFelt 35 = .ok (.getfield 44, 3) := by decide +kernel
theorem dX8_tellFelt_38 : decode cX8_tellFelt 38 = .ok (.iload 6, 2) := by decide +kernel
theorem dX8_tellFelt_40 : decode cX8_tellFelt 40 = .ok (.iaload, 1) := by decide +kernel
theorem dX8_tellFelt_41 : decode cX8_tellFelt 41 = .ok (.if_icmp .lt 34, 3) := by decide +kernel
theorem dX8_tellFelt_44 : decode cX8_tellFelt 44 = .ok (.aload_n 3, 1) := by decide +kernel
theorem dX8_tellFelt_45 : decode cX8_tellFelt 45 = .ok (.iload_n 1, 1) := by decide +kernel
theorem dX8_tellFelt_46 : decode cX8_tellFelt 46 = .ok (.iload 6, 2) := by decide +kernel
theorem dX8_tellFelt_48 : decode cX8_tellFelt 48 = .ok (.invokevirtual 249, 3) := by decide +kernel
theorem dX8_tellFelt_51 : decode cX8_tellFelt 51 = .ok (.ifCond .eq 6, 3) := by decide +kernel
theorem dX8_tellFelt_54 : decode cX8_tellFelt 54 = .ok (.goto 21, 3) := by decide +kernel
theorem dX8_tellFelt_57 : decode cX8_tellFelt 57 = .ok (.aload_n 3, 1) := by decide +kernel
theorem dX8_tellFelt_58 : decode cX8_tellFelt 58 = .ok (.iload_n 1, 1) := by decide +kernel
theorem dX8_tellFelt_59 : decode cX8_tellFelt 59 = .ok (.iload 6, 2) := by decide +kernel
theorem dX8_tellFelt_61 : decode cX8_tellFelt 61 = .ok (.invokevirtual 343, 3) := by decide +kernel
theorem dX8_tellFelt_64 : decode cX8_tellFelt 64 = .ok (.aload_n 0, 1) := by decide +kernel
theorem dX8_tellFelt_65 : decode cX8_tellFelt 65 = .ok (.iload_n 1, 1) := by decide +kernel
theorem dX8_tellFelt_66 : decode cX8_tellFelt 66 = .ok (.iload_n 2, 1) := by decide +kernel
theorem dX8_tellFelt_67 : decode cX8_tellFelt 67 = .ok (.iload 6, 2) := by decide +kernel
theorem dX8_tellFelt_69 : decode cX8_tellFelt 69 = .ok (.invokevirtual 236, 3) := by decide +kernel
theorem dX8_tellFelt_72 : decode cX8_tellFelt 72 = .ok (.iinc 5 1, 3) := by decide +kernel
theorem dX8_tellFelt_75 : decode cX8_tellFelt 75 = .ok (.iinc 6 1, 3) := by decide +kernel
theorem dX8_tellFelt_78 : decode cX8_tellFelt 78 = .ok (.goto (-52), 3) := by decide +kernel
theorem dX8_tellFelt_81 : decode cX8_tellFelt 81 = .ok (.iload 5, 2) := by decide +kernel
theorem dX8_tellFelt_83 : decode cX8_tellFelt 83 = .ok (.ireturn, 1) := by decide +kernel
theorem dX8_takeBack_0 : decode cX8_takeBack 0 = .ok (.aload_n 0, 1) := by decide +kernel
theorem dX8_takeBack_1 : decode cX8_takeBack 1 = .ok (.getfield 31, 3) := by decide +kernel
theorem dX8_takeBack_4 : decode cX8_takeBack 4 = .ok (.iload_n 2, 1) := by decide +kernel
theorem dX8_takeBack_5 : decode cX8_takeBack 5 = .ok (.invokevirtual 87, 3) := by decide +kernel
theorem dX8_takeBack_8 : decode cX8_takeBack 8 = .ok (.checkcast 153, 3) := by decide +kernel
theorem dX8_takeBack_11 : decode cX8_takeBack 11 = .ok (.astore_n 3, 1) := by decide +kernel
theorem dX8_takeBack_12 : decode cX8_takeBack 12 = .ok (.iconst 0, 1) := by decide +kernel
theorem dX8_takeBack_13 : decode cX8_takeBack 13 = .ok (.istore 4, 2) := by decide +kernel
theorem dX8_takeBack_15 : decode cX8_takeBack 15 = .ok (.iconst 1, 1) := by decide +kernel
theorem dX8_takeBack_16 : decode cX8_takeBack 16 = .ok (.istore 5, 2) := by decide +kernel
theorem dX8_takeBack_18 : decode cX8_takeBack 18 = .ok (.iload 5, 2) := by decide +kernel
theorem dX8_takeBack_20 : decode cX8_takeBack 20 = .ok (.iconst 4, 1) := by decide +kernel
theorem dX8_takeBack_21 : decode cX8_takeBack 21 = .ok (.if_icmp .gt 51, 3) := by decide +kernel
theorem dX8_takeBack_24 : decode cX8_takeBack 24 = .ok (.aload_n 3, 1) := by decide +kernel
theorem dX8_takeBack_25 : decode cX8_takeBack 25 = .ok (.iload_n 1, 1) := by decide +kernel
theorem dX8_takeBack_26 : decode cX8_takeBack 26 = .ok (.iload 5, 2) := by decide +kernel
theorem dX8_takeBack_28 : decode cX8_takeBack 28 = .ok (.invokevirtual 249, 3) := by decide +kernel
theorem dX8_takeBack_31 : decode cX8_takeBack 31 = .ok (.ifCond .eq 35, 3) := by decide +kernel
theorem dX8_takeBack_34 : decode cX8_takeBack 34 = .ok (.aload_n 3, 1) := by decide +kernel
theorem dX8_takeBack_35 : decode cX8_takeBack 35 = .ok (.iload_n 1, 1) := by decide +kernel
theorem dX8_takeBack_36 : decode cX8_takeBack 36 = .ok (.iload 5, 2) := by decide +kernel
theorem dX8_takeBack_38 : decode cX8_takeBack 38 = .ok (.invokevirtual 252, 3) := by decide +kernel
theorem dX8_takeBack_41 : decode cX8_takeBack 41 = .ok (.ifCond .eq 6, 3) := by decide +kernel
theorem dX8_takeBack_44 : decode cX8_takeBack 44 = .ok (.goto 22, 3) := by decide +kernel
theorem dX8_takeBack_47 : decode cX8_takeBack 47 = .ok (.aload_n 3, 1) := by decide +kernel
theorem dX8_takeBack_48 : decode cX8_takeBack 48 = .ok (.iload_n 1, 1) := by decide +kernel
theorem dX8_takeBack_49 : decode cX8_takeBack 49 = .ok (.iload 5, 2) := by decide +kernel
theorem dX8_takeBack_51 : decode cX8_takeBack 51 = .ok (.invokevirtual 346, 3) := by decide +kernel
theorem dX8_takeBack_54 : decode cX8_takeBack 54 = .ok (.aload_n 0, 1) := by decide +kernel
theorem dX8_takeBack_55 : decode cX8_takeBack 55 = .ok (.iload_n 1, 1) := by decide +kernel
theorem dX8_takeBack_56 : decode cX8_takeBack 56 = .ok (.iload_n 2, 1) := by decide +kernel
theorem dX8_takeBack_57 : decode cX8_takeBack 57 = .ok (.iload 5, 2) := by decide +kernel
theorem dX8_takeBack_59 : decode cX8_takeBack 59 = .ok (.ineg, 1) := by decide +kernel
theorem dX8_takeBack_60 : decode cX8_takeBack 60 = .ok (.invokevirtual 236, 3) := by decide +kernel
theorem dX8_takeBack_63 : decode cX8_takeBack 63 = .ok (.iinc 4 1, 3) := by decide +kernel
theorem dX8_takeBack_66 : decode cX8_takeBack 66 = .ok (.iinc 5 1, 3) := by decide +kernel
theorem dX8_takeBack_69 : decode cX8_takeBack 69 = .ok (.goto (-51), 3) := by decide +kernel
theorem dX8_takeBack_72 : decode cX8_takeBack 72 = .ok (.iload 4, 2) := by decide +kernel
theorem dX8_takeBack_74 : decode cX8_takeBack 74 = .ok (.ireturn, 1) := by decide +kernel
theorem dX8_send_0 : decode cX8_send 0 = .ok (.aload_n 0, 1) := by decide +kernel
theorem dX8_send_1 : decode cX8_send 1 = .ok (.getfield 34, 3) := by decide +kernel
theorem dX8_send_4 : decode cX8_send 4 = .ok (.invokevirtual 70, 3) := by decide +kernel
theorem dX8_send_7 : decode cX8_send 7 = .ok (.sipush 400, 3) := by decide +kernel
theorem dX8_send_10 : decode cX8_send 10 = .ok (.if_icmp .ge 25, 3) := by decide +kernel
theorem dX8_send_13 : decode cX8_send 13 = .ok (.aload_n 0, 1) := by decide +kernel
theorem dX8_send_14 : decode cX8_send 14 = .ok (.getfield 34, 3) := by decide +kernel
theorem dX8_send_17 : decode cX8_send 17 = .ok (.new 239, 3) := by decide +kernel
theorem dX8_send_20 : decode cX8_send 20 = .ok (.dup, 1) := by decide +kernel
theorem dX8_send_21 : decode cX8_send 21 = .ok (.iload_n 1, 1) := by decide +kernel
theorem dX8_send_22 : decode cX8_send 22 = .ok (.iload_n 2, 1) := by decide +kernel
theorem dX8_send_23 : decode cX8_send 23 = .ok (.iload_n 3, 1) := by decide +kernel
theorem dX8_send_24 : decode cX8_send 24 = .ok (.aload_n 0, 1) := by decide +kernel
theorem dX8_send_25 : decode cX8_send 25 = .ok (.getfield 103, 3) := by decide +kernel
theorem dX8_send_28 : decode cX8_send 28 = .ok (.invokespecial 348, 3) := by decide +kernel
theorem dX8_send_31 : decode cX8_send 31 = .ok (.invokevirtual 77, 3) := by decide +kernel
theorem dX8_send_34 : decode cX8_send 34 = .ok (.pop, 1) := by decide +kernel
theorem dX8_send_35 : decode cX8_send 35 = .ok (.aload_n 0, 1) := by decide +kernel
theorem dX8_send_36 : decode cX8_send 36 = .ok (.dup, 1) := by decide +kernel
theorem dX8_send_37 : decode cX8_send 37 = .ok (.getfield 233, 3) := by decide +kernel
theorem dX8_send_40 : decode cX8_send 40 = .ok (.iconst 1, 1) := by decide +kernel
theorem dX8_send_41 : decode cX8_send 41 = .ok (.iadd, 1) := by decide +kernel
theorem dX8_send_42 : decode cX8_send 42 = .ok (.putfield 233, 3) := by decide +kernel
theorem dX8_send_45 : decode cX8_send 45 = .ok (.return_, 1) := by decide +kernel
theorem dX9_init_0 : decode cX9_init 0 = .ok (.aload_n 0, 1) := by decide +kernel
theorem dX9_init_1 : decode cX9_init 1 = .ok (.invokespecial 1, 3) := by decide +kernel
theorem dX9_init_4 : decode cX9_init 4 = .ok (.aload_n 0, 1) := by decide +kernel
theorem dX9_init_5 : decode cX9_init 5 = .ok (.bipush 6, 2) := by decide +kernel
theorem dX9_init_7 : decode cX9_init 7 = .ok (.newarray .int, 2) := by decide +kernel
theorem dX9_init_9 : decode cX9_init 9 = .ok (.putfield 7, 3) := by decide +kernel
theorem dX9_init_12 : decode cX9_init 12 = .ok (.aload_n 0, 1) := by decide +kernel
theorem dX9_init_13 : decode cX9_init 13 = .ok (.bipush 100, 2) := by decide +kernel
theorem dX9_init_15 : decode cX9_init 15 = .ok (.putfield 13, 3) := by decide +kernel
theorem dX9_init_18 : decode cX9_init 18 = .ok (.aload_n 0, 1) := by decide +kernel
theorem dX9_init_19 : decode cX9_init 19 = .ok (.iconst 2, 1) := by decide +kernel
theorem dX9_init_20 : decode cX9_init 20 = .ok (.putfield 17, 3) := by decide +kernel
theorem dX9_init_23 : decode cX9_init 23 = .ok (.aload_n 0, 1) := by decide +kernel
theorem dX9_init_24 : decode cX9_init 24 = .ok (.bipush 10, 2) := by decide +kernel
theorem dX9_init_26 : decode cX9_init 26 = .ok (.newarray .int, 2) := by decide +kernel
theorem dX9_init_28 : decode cX9_init 28 = .ok (.putfield 20, 3) := by decide +kernel
theorem dX9_init_31 : decode cX9_init 31 = .ok (.aload_n 0, 1) := by decide +kernel
theorem dX9_init_32 : decode cX9_init 32 = .ok (.bipush 10, 2) := by decide +kernel
theorem dX9_init_34 : decode cX9_init 34 = .ok (.newarray .boolean, 2) := by decide +kernel
theorem dX9_init_36 : decode cX9_init 36 = .ok (.putfield 23, 3) := by decide +kernel
theorem dX9_init_39 : decode cX9_init 39 = .ok (.aload_n 0, 1) := by decide +kernel
theorem dX9_init_40 : decode cX9_init 40 = .ok (.bipush 6, 2) := by decide +kernel
theorem dX9_init_42 : decode cX9_init 42 = .ok (.newarray .int, 2) := by decide +kernel
theorem dX9_init_44 : decode cX9_init 44 = .ok (.putfield 27, 3) := by decide +kernel
theorem dX9_init_47 : decode cX9_init 47 = .ok (.aload_n 0, 1) := by decide +kernel
theorem dX9_init_48 : decode cX9_init 48 = .ok (.bipush 10, 2) := by decide +kernel
theorem dX9_init_50 : decode cX9_init 50 = .ok (.newarray .int, 2) := by decide +kernel
theorem dX9_init_52 : decode cX9_init 52 = .ok (.putfield 30, 3) := by decide +kernel
theorem dX9_init_55 : decode cX9_init 55 = .ok (.aload_n 0, 1) := by decide +kernel
theorem dX9_init_56 : decode cX9_init 56 = .ok (.sipush 300, 3) := by decide +kernel
theorem dX9_init_59 : decode cX9_init 59 = .ok (.newarray .int, 2) := by decide +kernel
theorem dX9_init_61 : decode cX9_init 61 = .ok (.putfield 33, 3) := by decide +kernel
theorem dX9_init_64 : decode cX9_init 64 = .ok (.aload_n 0, 1) := by decide +kernel
theorem dX9_init_65 : decode cX9_init 65 = .ok (.bipush 6, 2) := by decide +kernel
theorem dX9_init_67 : decode cX9_init 67 = .ok (.newarray .int, 2) := by decide +kernel
theorem dX9_init_69 : decode cX9_init 69 = .ok (.putfield 36, 3) := by decide +kernel
theorem dX9_init_72 : decode cX9_init 72 = .ok (.aload_n 0, 1) := by decide +kernel
theorem dX9_init_73 : decode cX9_init 73 = .ok (.bipush 30, 2) := by decide +kernel
theorem dX9_init_75 : decode cX9_init 75 = .ok (.newarray .int, 2) := by decide +kernel
theorem dX9_init_77 : decode cX9_init 77 = .ok (.putfield 39, 3) := by decide +kernel
theorem dX9_init_80 : decode cX9_init 80 = .ok (.aload_n 0, 1) := by decide +kernel
theorem dX9_init_81 : decode cX9_init 81 = .ok (.bipush 60, 2) := by decide +kernel
theorem dX9_init_83 : decode cX9_init 83 = .ok (.newarray .int, 2) := by decide +kernel
theorem dX9_init_85 : decode cX9_init 85 = .ok (.putfield 42, 3) := by decide +kernel
theorem dX9_init_88 : decode cX9_init 88 = .ok (.aload_n 0, 1) := by decide +kernel
theorem dX9_init_89 : decode cX9_init 89 = .ok (.bipush 60, 2) := by decide +kernel
theorem dX9_init_91 : decode cX9_init 91 = .ok (.newarray .int, 2) := by decide +kernel
theorem dX9_init_93 : decode cX9_init 93 = .ok (.putfield 45, 3) := by decide +kernel
theorem dX9_init_96 : decode cX9_init 96 = .ok (.aload_n 0, 1) := by decide +kernel
theorem dX9_init_97 : decode cX9_init 97 = .ok (.bipush 60, 2) := by decide +kernel
theorem dX9_init_99 : decode cX9_init 99 = .ok (.newarray .int, 2) := by decide +kernel
theorem dX9_init_101 : decode cX9_init 101 = .ok (.putfield 48, 3) := by decide +kernel
theorem dX9_init_104 : decode cX9_init 104 = .ok (.aload_n 0, 1) := by decide +kernel
theorem dX9_init_105 : decode cX9_init 105 = .ok (.bipush 60, 2) := by decide +kernel
theorem dX9_init_107 : decode cX9_init 107 = .ok (.newarray .int, 2) := by decide +kernel
theorem dX9_init_109 : decode cX9_init 109 = .ok (.putfield 51, 3) := by decide +kernel
theorem dX9_init_112 : decode cX9_init 112 = .ok (.aload_n 0, 1) := by decide +kernel
theorem dX9_init_113 : decode cX9_init 113 = .ok (.iconst 5, 1) := by decide +kernel
theorem dX9_init_114 : decode cX9_init 114 = .ok (.newarray .int, 2) := by decide +kernel
theorem dX9_init_116 : decode cX9_init 116 = .ok (.putfield 54, 3) := by decide +kernel
theorem dX9_init_119 : decode cX9_init 119 = .ok (.aload_n 0, 1) := by decide +kernel
theorem dX9_init_120 : decode cX9_init 120 = .ok (.sipush 144, 3) := by decide +kernel
theorem dX9_init_123 : decode cX9_init 123 = .ok (.newarray .int, 2) := by decide +kernel
theorem dX9_init_125 : decode cX9_init 125 = .ok (.putfield 57, 3) := by decide +kernel
theorem dX9_init_128 : decode cX9_init 128 = .ok (.aload_n 0, 1) := by decide +kernel
theorem dX9_init_129 : decode cX9_init 129 = .ok (.sipush 144, 3) := by decide +kernel
theorem dX9_init_132 : decode cX9_init 132 = .ok (.newarray .int, 2) := by decide +kernel
theorem dX9_init_134 : decode cX9_init 134 = .ok (.putfield 60, 3) := by decide +kernel
theorem dX9_init_137 : decode cX9_init 137 = .ok (.aload_n 0, 1) := by decide +kernel
theorem dX9_init_138 : decode cX9_init 138 = .ok (.sipush 1600, 3) := by decide +kernel
theorem dX9_init_141 : decode cX9_init 141 = .ok (.newarray .int, 2) := by decide +kernel
theorem dX9_init_143 : decode cX9_init 143 = .ok (.putfield 63, 3) := by decide +kernel
theorem dX9_init_146 : decode cX9_init 146 = .ok (.aload_n 0, 1) := by decide +kernel
theorem dX9_init_147 : decode cX9_init 147 = .ok (.sipush 150, 3) := by decide +kernel
theorem dX9_init_150 : decode cX9_init 150 = .ok (.newarray .int, 2) := by decide +kernel
theorem dX9_init_152 : decode cX9_init 152 = .ok (.putfield 66, 3) := by decide +kernel
theorem dX9_init_155 : decode cX9_init 155 = .ok (.iconst 0, 1) := by decide +kernel
theorem dX9_init_156 : decode cX9_init 156 = .ok (.istore_n 1, 1) := by decide +kernel
theorem dX9_init_157 : decode cX9_init 157 = .ok (.iload_n 1, 1) := by decide +kernel
theorem dX9_init_158 : decode cX9_init 158 = .ok (.bipush 10, 2) := by decide +kernel
theorem dX9_init_160 : decode cX9_init 160 = .ok (.if_icmp .ge 17, 3) := by decide +kernel
theorem dX9_init_163 : decode cX9_init 163 = .ok (.aload_n 0, 1) := by decide +kernel
theorem dX9_init_164 : decode cX9_init 164 = .ok (.getfield 30, 3) := by decide +kernel
theorem dX9_init_167 : decode cX9_init 167 = .ok (.iload_n 1, 1) := by decide +kernel
theorem dX9_init_168 : decode cX9_init 168 = .ok (.bipush (-9), 2) := by decide +kernel
theorem dX9_init_170 : decode cX9_init 170 = .ok (.iastore, 1) := by decide +kernel
theorem dX9_init_171 : decode cX9_init 171 = .ok (.iinc 1 1, 3) := by decide +kernel
theorem dX9_init_174 : decode cX9_init 174 = .ok (.goto (-17), 3) := by decide +kernel
theorem dX9_init_177 : decode cX9_init 177 = .ok (.iconst 1, 1) := by decide +kernel
theorem dX9_init_178 : decode cX9_init 178 = .ok (.istore_n 1, 1) := by decide +kernel
theorem dX9_init_179 : decode cX9_init 179 = .ok (.iload_n 1, 1) := by decide +kernel
theorem dX9_init_180 : decode cX9_init 180 = .ok (.iconst 5, 1) := by decide +kernel
theorem dX9_init_181 : decode cX9_init 181 = .ok (.if_icmp .ge 18, 3) := by decide +kernel
theorem dX9_init_184 : decode cX9_init 184 = .ok (.aload_n 0, 1) := by decide +kernel
theorem dX9_init_185 : decode cX9_init 185 = .ok (.getfield 36, 3) := by decide +kernel
theorem dX9_init_188 : decode cX9_init 188 = .ok (.iload_n 1, 1) := by decide +kernel
theorem dX9_init_189 : decode cX9_init 189 = .ok (.iconst 4, 1) := by decide +kernel
theorem dX9_init_190 : decode cX9_init 190 = .ok (.iload_n 1, 1) := by decide +kernel
theorem dX9_init_191 : decode cX9_init 191 = .ok (.imul, 1) := by decide +kernel
theorem dX9_init_192 : decode cX9_init 192 = .ok (.iastore, 1) := by decide +kernel
theorem dX9_init_193 : decode cX9_init 193 = .ok (.iinc 1 1, 3) := by decide +kernel
theorem dX9_init_196 : decode cX9_init 196 = .ok (.goto (-17), 3) := by decide +kernel
theorem dX9_init_199 : decode cX9_init 199 = .ok (.aload_n 0, 1) := by decide +kernel
theorem dX9_init_200 : decode cX9_init 200 = .ok (.getfield 36, 3) := by decide +kernel
theorem dX9_init_203 : decode cX9_init 203 = .ok (.iconst 5, 1) := by decide +kernel
theorem dX9_init_204 : decode cX9_init 204 = .ok (.bipush 61, 2) := by decide +kernel
theorem dX9_init_206 : decode cX9_init 206 = .ok (.iastore, 1) := by decide +kernel
theorem dX9_init_207 : decode cX9_init 207 = .ok (.return_, 1) := by decide +kernel
theorem dX9_in_0 : decode cX9_in 0 = .ok (.iload_n 0, 1) := by decide +kernel
theorem dX9_in_1 : decode cX9_in 1 = .ok (.iload_n 1, 1) := by decide +kernel
theorem dX9_in_2 : decode cX9_in 2 = .ok (.if_icmp .lt 12, 3) := by decide +kernel
theorem dX9_in_5 : decode cX9_in 5 = .ok (.iload_n 0, 1) := by decide +kernel
theorem dX9_in_6 : decode cX9_in 6 = .ok (.iload_n 2, 1) := by decide +kernel
theorem dX9_in_7 : decode cX9_in 7 = .ok (.if_icmp .gt 7, 3) := by decide +kernel
theorem dX9_in_10 : decode cX9_in 10 = .ok (.iconst 1, 1) := by decide +kernel
theorem dX9_in_11 : decode cX9_in 11 = .ok (.goto 4, 3) := by decide +kernel
theorem dX9_in_14 : decode cX9_in 14 = .ok (.iconst 0, 1) := by decide +kernel
theorem dX9_in_15 : decode cX9_in 15 = .ok (.ireturn, 1) := by decide +kernel
theorem dX9_meets_0 : decode cX9_meets 0 = .ok (.aload_n 0, 1) := by decide +kernel
theorem dX9_meets_1 : decode cX9_meets 1 = .ok (.iload_n 1, 1) := by decide +kernel
theorem dX9_meets_2 : decode cX9_meets 2 = .ok (.putfield 69, 3) := by decide +kernel
theorem dX9_meets_5 : decode cX9_meets 5 = .ok (.aload_n 0, 1) := by decide +kernel
theorem dX9_meets_6 : decode cX9_meets 6 = .ok (.getfield 7, 3) := by decide +kernel
theorem dX9_meets_9 : decode cX9_meets 9 = .ok (.iload_n 1, 1) := by decide +kernel
theorem dX9_meets_10 : decode cX9_meets 10 = .ok (.dup2, 1) := by decide +kernel
theorem dX9_meets_11 : decode cX9_meets 11 = .ok (.iaload, 1) := by decide +kernel
theorem dX9_meets_12 : decode cX9_meets 12 = .ok (.iconst 1, 1) := by decide +kernel
theorem dX9_meets_13 : decode cX9_meets 13 = .ok (.iadd, 1) := by decide +kernel
theorem dX9_meets_14 : decode cX9_meets 14 = .ok (.iastore, 1) := by decide +kernel
theorem dX9_meets_15 : decode cX9_meets 15 = .ok (.bipush (-3), 2) := by decide +kernel
theorem dX9_meets_17 : decode cX9_meets 17 = .ok (.ireturn, 1) := by decide +kernel
theorem dX9_rule_0 : decode cX9_rule 0 = .ok (.iload_n 1, 1) := by decide +kernel
theorem dX9_rule_1 : decode cX9_rule 1 = .ok (.iconst 1, 1) := by decide +kernel
theorem dX9_rule_2 : decode cX9_rule 2 = .ok (.sipush 400, 3) := by decide +kernel
theorem dX9_rule_5 : decode cX9_rule 5 = .ok (.invokestatic 72, 3) := by decide +kernel
theorem dX9_rule_8 : decode cX9_rule 8 = .ok (.ifCond .eq 13, 3) := by decide +kernel
theorem dX9_rule_11 : decode cX9_rule 11 = .ok (.iload_n 2, 1) := by decide +kernel
theorem dX9_rule_12 : decode cX9_rule 12 = .ok (.iconst 0, 1) := by decide +kernel
theorem dX9_rule_13 : decode cX9_rule 13 = .ok (.bipush 50, 2) := by decide +kernel
theorem dX9_rule_15 : decode cX9_rule 15 = .ok (.invokestatic 72, 3) := by decide +kernel
theorem dX9_rule_18 : decode cX9_rule 18 = .ok (.ifCond .ne 5, 3) := by decide +kernel
theorem dX9_rule_21 : decode cX9_rule 21 = .ok (.iconst (-1), 1) := by decide +kernel
theorem dX9_rule_22 : decode cX9_rule 22 = .ok (.ireturn, 1) := by decide +kernel
theorem dX9_rule_23 : decode cX9_rule 23 = .ok (.aload_n 0, 1) := by decide +kernel
theorem dX9_rule_24 : decode cX9_rule 24 = .ok (.getfield 76, 3) := by decide +kernel
theorem dX9_rule_27 : decode cX9_rule 27 = .ok (.ifCond .le 6, 3) := by decide +kernel
theorem dX9_rule_30 : decode cX9_rule 30 = .ok (.bipush (-4), 2) := by decide +kernel
theorem dX9_rule_32 : decode cX9_rule 32 = .ok (.ireturn, 1) := by decide +kernel
theorem dX9_rule_33 : decode cX9_rule 33 = .ok (.aload_n 0, 1) := by decide +kernel
theorem dX9_rule_34 : decode cX9_rule 34 = .ok (.iload_n 1, 1) := by decide +kernel
theorem dX9_rule_35 : decode cX9_rule 35 = .ok (.putfield 13, 3) := by decide +kernel
theorem dX9_rule_38 : decode cX9_rule 38 = .ok (.aload_n 0, 1) := by decide +kernel
theorem dX9_rule_39 : decode cX9_rule 39 = .ok (.iload_n 2, 1) := by decide +kernel
theorem dX9_rule_40 : decode cX9_rule 40 = .ok (.putfield 17, 3) := by decide +kernel
theorem dX9_rule_43 : decode cX9_rule 43 = .ok (.iconst 1, 1) := by decide +kernel
theorem dX9_rule_44 : decode cX9_rule 44 = .ok (.ireturn, 1) := by decide +kernel
theorem dX9_isCell_0 : decode cX9_isCell 0 = .ok (.iload_n 0, 1) := by decide +kernel
theorem dX9_isCell_1 : decode cX9_isCell 1 = .ok (.iconst 0, 1) := by decide +kernel
theorem dX9_isCell_2 : decode cX9_isCell 2 = .ok (.sipush 143, 3) := by decide +kernel
theorem dX9_isCell_5 : decode cX9_isCell 5 = .ok (.invokestatic 72, 3) := by decide +kernel
theorem dX9_isCell_8 : decode cX9_isCell 8 = .ok (.ireturn, 1) := by decide +kernel
theorem dX9_station_0 : decode cX9_station 0 = .ok (.iload_n 1, 1) := by decide +kernel
theorem dX9_station_1 : decode cX9_station 1 = .ok (.invokestatic 79, 3) := by decide +kernel
theorem dX9_station_4 : decode cX9_station 4 = .ok (.ifCond .ne 5, 3) := by decide +kernel
theorem dX9_station_7 : decode cX9_station 7 = .ok (.iconst (-1), 1) := by decide +kernel
theorem dX9_station_8 : decode cX9_station 8 = .ok (.ireturn, 1) := by decide +kernel
theorem dX9_station_9 : decode cX9_station 9 = .ok (.aload_n 0, 1) := by decide +kernel
theorem dX9_station_10 : decode cX9_station 10 = .ok (.getfield 83, 3) := by decide +kernel
theorem dX9_station_13 : decode cX9_station 13 = .ok (.bipush 10, 2) := by decide +kernel
theorem dX9_station_15 : decode cX9_station 15 = .ok (.if_icmp .ne 6, 3) := by decide +kernel
theorem dX9_station_18 : decode cX9_station 18 = .ok (.bipush (-2), 2) := by decide +kernel
theorem dX9_station_20 : decode cX9_station 20 = .ok (.ireturn, 1) := by decide +kernel
theorem dX9_station_21 : decode cX9_station 21 = .ok (.aload_n 0, 1) := by decide +kernel
theorem dX9_station_22 : decode cX9_station 22 = .ok (.getfield 76, 3) := by decide +kernel
theorem dX9_station_25 : decode cX9_station 25 = .ok (.ifCond .le 6, 3) := by decide +kernel
theorem dX9_station_28 : decode cX9_station 28 = .ok (.bipush (-4), 2) := by decide +kernel
theorem dX9_station_30 : decode cX9_station 30 = .ok (.ireturn, 1) := by decide +kernel
theorem dX9_station_31 : decode cX9_station 31 = .ok (.aload_n 0, 1) := by decide +kernel
theorem dX9_station_32 : decode cX9_station 32 = .ok (.getfield 20, 3) := by decide +kernel
theorem dX9_station_35 : decode cX9_station 35 = .ok (.aload_n 0, 1) := by decide +kernel
theorem dX9_station_36 : decode cX9_station 36 = .ok (.getfield 83, 3) := by decide +kernel
theorem dX9_station_39 : decode cX9_station 39 = .ok (.iload_n 1, 1) := by decide +kernel
theorem dX9_station_40 : decode cX9_station 40 = .ok (.iastore, 1) := by decide +kernel
theorem dX9_station_41 : decode cX9_station 41 = .ok (.aload_n 0, 1) := by decide +kernel
theorem dX9_station_42 : decode cX9_station 42 = .ok (.dup, 1) := by decide +kernel
theorem dX9_station_43 : decode cX9_station 43 = .ok (.getfield 83, 3) := by decide +kernel
theorem dX9_station_46 : decode cX9_station 46 = .ok (.iconst 1, 1) := by decide +kernel
theorem dX9_station_47 : decode cX9_station 47 = .ok (.iadd, 1) := by decide +kernel
theorem dX9_station_48 : decode cX9_station 48 = .ok (.putfield 83, 3) := by decide +kernel
theorem dX9_station_51 : decode cX9_station 51 = .ok (.aload_n 0, 1) := by decide +kernel
theorem dX9_station_52 : decode cX9_station 52 = .ok (.getfield 83, 3) := by decide +kernel
theorem dX9_station_55 : decode cX9_station 55 = .ok (.iconst 1, 1) := by decide +kernel
theorem dX9_station_56 : decode cX9_station 56 = .ok (.isub, 1) := by decide +kernel
theorem dX9_station_57 : decode cX9_station 57 = .ok (.ireturn, 1) := by decide +kernel
theorem dX9_town_0 : decode cX9_town 0 = .ok (.iload_n 1, 1) := by decide +kernel
theorem dX9_town_1 : decode cX9_town 1 = .ok (.invokestatic 79, 3) := by decide +kernel
theorem dX9_town_4 : decode cX9_town 4 = .ok (.ifCond .ne 5, 3) := by decide +kernel
theorem dX9_town_7 : decode cX9_town 7 = .ok (.iconst (-1), 1) := by decide +kernel
theorem dX9_town_8 : decode cX9_town 8 = .ok (.ireturn, 1) := by decide +kernel
theorem dX9_town_9 : decode cX9_town 9 = .ok (.aload_n 0, 1) := by decide +kernel
theorem dX9_town_10 : decode cX9_town 10 = .ok (.getfield 86, 3) := by decide +kernel
theorem dX9_town_13 : decode cX9_town 13 = .ok (.bipush 6, 2) := by decide +kernel
theorem dX9_town_15 : decode cX9_town 15 = .ok (.if_icmp .ne 6, 3) := by decide +kernel
theorem dX9_town_18 : decode cX9_town 18 = .ok (.bipush (-2), 2) := by decide +kernel
theorem dX9_town_20 : decode cX9_town 20 = .ok (.ireturn, 1) := by decide +kernel
theorem dX9_town_21 : decode cX9_town 21 = .ok (.aload_n 0, 1) := by decide +kernel
theorem dX9_town_22 : decode cX9_town 22 = .ok (.getfield 27, 3) := by decide +kernel
theorem dX9_town_25 : decode cX9_town 25 = .ok (.aload_n 0, 1) := by decide +kernel
theorem dX9_town_26 : decode cX9_town 26 = .ok (.getfield 86, 3) := by decide +kernel
theorem dX9_town_29 : decode cX9_town 29 = .ok (.iload_n 1, 1) := by decide +kernel
theorem dX9_town_30 : decode cX9_town 30 = .ok (.iastore, 1) := by decide +kernel
theorem dX9_town_31 : decode cX9_town 31 = .ok (.aload_n 0, 1) := by decide +kernel
theorem dX9_town_32 : decode cX9_town 32 = .ok (.dup, 1) := by decide +kernel
theorem dX9_town_33 : decode cX9_town 33 = .ok (.getfield 86, 3) := by decide +kernel
theorem dX9_town_36 : decode cX9_town 36 = .ok (.iconst 1, 1) := by decide +kernel
theorem dX9_town_37 : decode cX9_town 37 = .ok (.iadd, 1) := by decide +kernel
theorem dX9_town_38 : decode cX9_town 38 = .ok (.putfield 86, 3) := by decide +kernel
theorem dX9_town_41 : decode cX9_town 41 = .ok (.aload_n 0, 1) := by decide +kernel
theorem dX9_town_42 : decode cX9_town 42 = .ok (.getfield 86, 3) := by decide +kernel
theorem dX9_town_45 : decode cX9_town 45 = .ok (.iconst 1, 1) := by decide +kernel
theorem dX9_town_46 : decode cX9_town 46 = .ok (.isub, 1) := by decide +kernel
theorem dX9_town_47 : decode cX9_town 47 = .ok (.ireturn, 1) := by decide +kernel
theorem dX9_isStation_0 : decode cX9_isStation 0 = .ok (.iload_n 1, 1) := by decide +kernel
theorem dX9_isStation_1 : decode cX9_isStation 1 = .ok (.iconst 0, 1) := by decide +kernel
theorem dX9_isStation_2 : decode cX9_isStation 2 = .ok (.aload_n 0, 1) := by decide +kernel
theorem dX9_isStation_3 : decode cX9_isStation 3 = .ok (.getfield 83, 3) := by decide +kernel
theorem dX9_isStation_6 : decode cX9_isStation 6 = .ok (.iconst 1, 1) := by decide +kernel
theorem dX9_isStation_7 : decode cX9_isStation 7 = .ok (.isub, 1) := by decide +kernel
theorem dX9_isStation_8 : decode cX9_isStation 8 = .ok (.invokestatic 72, 3) := by decide +kernel
theorem dX9_isStation_11 : decode cX9_isStation 11 = .ok (.ireturn, 1) := by decide +kernel
theorem dX9_isTown_0 : decode cX9_isTown 0 = .ok (.iload_n 1, 1) := by decide +kernel
theorem dX9_isTown_1 : decode cX9_isTown 1 = .ok (.iconst 0, 1) := by decide +kernel
theorem dX9_isTown_2 : decode cX9_isTown 2 = .ok (.aload_n 0, 1) := by decide +kernel
theorem dX9_isTown_3 : decode cX9_isTown 3 = .ok (.getfield 86, 3) := by decide +kernel
theorem dX9_isTown_6 : decode cX9_isTown 6 = .ok (.iconst 1, 1) := by decide +kernel
theorem dX9_isTown_7 : decode cX9_isTown 7 = .ok (.isub, 1) := by decide +kernel
theorem dX9_isTown_8 : decode cX9_isTown 8 = .ok (.invokestatic 72, 3) := by decide +kernel
theorem dX9_isTown_11 : decode cX9_isTown 11 = .ok (.ireturn, 1) := by decide +kernel
theorem dX9_deaf_0 : decode cX9_deaf 0 = .ok (.aload_n 0, 1) := by decide +kernel
theorem dX9_deaf_1 : decode cX9_deaf 1 = .ok (.iload_n 1, 1) := by decide +kernel
theorem dX9_deaf_2 : decode cX9_deaf 2 = .ok (.invokevirtual 89, 3) := by decide +kernel
theorem dX9_deaf_5 : decode cX9_deaf 5 = .ok (.ifCond .ne 5, 3) := by decide +kernel
theorem dX9_deaf_8 : decode cX9_deaf 8 = .ok (.iconst (-1), 1) := by decide +kernel
theorem dX9_deaf_9 : decode cX9_deaf 9 = .ok (.ireturn, 1) := by decide +kernel
theorem dX9_deaf_10 : decode cX9_deaf 10 = .ok (.aload_n 0, 1) := by decide +kernel
theorem dX9_deaf_11 : decode cX9_deaf 11 = .ok (.getfield 23, 3) := by decide +kernel
theorem dX9_deaf_14 : decode cX9_deaf 14 = .ok (.iload_n 1, 1) := by decide +kernel
theorem dX9_deaf_15 : decode cX9_deaf 15 = .ok (.baload, 1) := by decide +kernel
theorem dX9_deaf_16 : decode cX9_deaf 16 = .ok (.ifCond .eq 7, 3) := by decide +kernel
theorem dX9_deaf_19 : decode cX9_deaf 19 = .ok (.iconst 1, 1) := by decide +kernel
theorem dX9_deaf_20 : decode cX9_deaf 20 = .ok (.goto 4, 3) := by decide +kernel
theorem dX9_deaf_23 : decode cX9_deaf 23 = .ok (.iconst 0, 1) := by decide +kernel
theorem dX9_deaf_24 : decode cX9_deaf 24 = .ok (.istore_n 3, 1) := by decide +kernel
theorem dX9_deaf_25 : decode cX9_deaf 25 = .ok (.aload_n 0, 1) := by decide +kernel
theorem dX9_deaf_26 : decode cX9_deaf 26 = .ok (.getfield 23, 3) := by decide +kernel
theorem dX9_deaf_29 : decode cX9_deaf 29 = .ok (.iload_n 1, 1) := by decide +kernel
theorem dX9_deaf_30 : decode cX9_deaf 30 = .ok (.iload_n 2, 1) := by decide +kernel
theorem dX9_deaf_31 : decode cX9_deaf 31 = .ok (.bastore, 1) := by decide +kernel
theorem dX9_deaf_32 : decode cX9_deaf 32 = .ok (.iload_n 3, 1) := by decide +kernel
theorem dX9_deaf_33 : decode cX9_deaf 33 = .ok (.ireturn, 1) := by decide +kernel
theorem dX9_travels_0 : decode cX9_travels 0 = .ok (.iload_n 1, 1) := by decide +kernel
theorem dX9_travels_1 : decode cX9_travels 1 = .ok (.bipush 12, 2) := by decide +kernel
theorem dX9_travels_3 : decode cX9_travels 3 = .ok (.irem, 1) := by decide +kernel
theorem dX9_travels_4 : decode cX9_travels 4 = .ok (.iload_n 2, 1) := by decide +kernel
theorem dX9_travels_5 : decode cX9_travels 5 = .ok (.bipush 12, 2) := by decide +kernel
theorem dX9_travels_7 : decode cX9_travels 7 = .ok (.irem, 1) := by decide +kernel
theorem dX9_travels_8 : decode cX9_travels 8 = .ok (.isub, 1) := by decide +kernel
theorem dX9_travels_9 : decode cX9_travels 9 = .ok (.istore_n 3, 1) := by decide +kernel
theorem dX9_travels_10 : decode cX9_travels 10 = .ok (.iload_n 1, 1) := by decide +kernel
theorem dX9_travels_11 : decode cX9_travels 11 = .ok (.bipush 12, 2) := by decide +kernel
theorem dX9_travels_13 : decode cX9_travels 13 = .ok (.idiv, 1) := by decide +kernel
theorem dX9_travels_14 : decode cX9_travels 14 = .ok (.iload_n 2, 1) := by decide +kernel
theorem dX9_travels_15 : decode cX9_travels 15 = .ok (.bipush 12, 2) := by decide +kernel
theorem dX9_travels_17 : decode cX9_travels 17 = .ok (.idiv, 1) := by decide +kernel
theorem dX9_travels_18 : decode cX9_travels 18 = .ok (.isub, 1) := by decide +kernel
theorem dX9_travels_19 : decode cX9_travels 19 = .ok (.istore 4, 2) := by decide +kernel
theorem dX9_travels_21 : decode cX9_travels 21 = .ok (.aload_n 0, 1) := by decide +kernel
theorem dX9_travels_22 : decode cX9_travels 22 = .ok (.getfield 13, 3) := by decide +kernel
theorem dX9_travels_25 : decode cX9_travels 25 = .ok (.iload_n 3, 1) := by decide +kernel
theorem dX9_travels_26 : decode cX9_travels 26 = .ok (.iload_n 3, 1) := by decide +kernel
theorem dX9_travels_27 : decode cX9_travels 27 = .ok (.imul, 1) := by decide +kernel
theorem dX9_travels_28 : decode cX9_travels 28 = .ok (.iload 4, 2) := by decide +kernel
theorem dX9_travels_30 : decode cX9_travels 30 = .ok (.iload 4, 2) := by decide +kernel
theorem dX9_travels_32 : decode cX9_travels 32 = .ok (.imul, 1) := by decide +kernel
theorem dX9_travels_33 : decode cX9_travels 33 = .ok (.iadd, 1) := by decide +kernel
theorem dX9_travels_34 : decode cX9_travels 34 = .ok (.imul, 1) := by decide +kernel
theorem dX9_travels_35 : decode cX9_travels 35 = .ok (.istore 5, 2) := by decide +kernel
theorem dX9_travels_37 : decode cX9_travels 37 = .ok (.iconst 0, 1) := by decide +kernel
theorem dX9_travels_38 : decode cX9_travels 38 = .ok (.istore 6, 2) := by decide +kernel
theorem dX9_travels_40 : decode cX9_travels 40 = .ok (.iload 6, 2) := by decide +kernel
theorem dX9_travels_42 : decode cX9_travels 42 = .ok (.iconst 1, 1) := by decide +kernel
theorem dX9_travels_43 : decode cX9_travels 43 = .ok (.iadd, 1) := by decide +kernel
theorem dX9_travels_44 : decode cX9_travels 44 = .ok (.iload 6, 2) := by decide +kernel
theorem dX9_travels_46 : decode cX9_travels 46 = .ok (.iconst 1, 1) := by decide +kernel
theorem dX9_travels_47 : decode cX9_travels 47 = .ok (.iadd, 1) := by decide +kernel
theorem dX9_travels_48 : decode cX9_travels 48 = .ok (.imul, 1) := by decide +kernel
theorem dX9_travels_49 : decode cX9_travels 49 = .ok (.iload 5, 2) := by decide +kernel
theorem dX9_travels_51 : decode cX9_travels 51 = .ok (.if_icmp .gt 9, 3) := by decide +kernel
theorem dX9_travels_54 : decode cX9_travels 54 = .ok (.iinc 6 1, 3) := by decide +kernel
theorem dX9_travels_57 : decode cX9_travels 57 = .ok (.goto (-17), 3) := by decide +kernel
theorem dX9_travels_60 : decode cX9_travels 60 = .ok (.iload 6, 2) := by decide +kernel
theorem dX9_travels_62 : decode cX9_travels 62 = .ok (.ireturn, 1) := by decide +kernel
theorem dX9_travel_0 : decode cX9_travel 0 = .ok (.iload_n 1, 1) := by decide +kernel
theorem dX9_travel_1 : decode cX9_travel 1 = .ok (.invokestatic 79, 3) := by decide +kernel
theorem dX9_travel_4 : decode cX9_travel 4 = .ok (.ifCond .eq 19, 3) := by decide +kernel
theorem dX9_travel_7 : decode cX9_travel 7 = .ok (.iload_n 2, 1) := by decide +kernel
theorem dX9_travel_8 : decode cX9_travel 8 = .ok (.invokestatic 79, 3) := by decide +kernel
theorem dX9_travel_11 : decode cX9_travel 11 = .ok (.ifCond .eq 12, 3) := by decide +kernel
theorem dX9_travel_14 : decode cX9_travel 14 = .ok (.aload_n 0, 1) := by decide +kernel
theorem dX9_travel_15 : decode cX9_travel 15 = .ok (.iload_n 1, 1) := by decide +kernel
theorem dX9_travel_16 : decode cX9_travel 16 = .ok (.iload_n 2, 1) := by decide +kernel
theorem dX9_travel_17 : decode cX9_travel 17 = .ok (.invokevirtual 92, 3) := by decide +kernel
theorem dX9_travel_20 : decode cX9_travel 20 = .ok (.goto 4, 3) := by decide +kernel
theorem dX9_travel_23 : decode cX9_travel 23 = .ok (.iconst (-1), 1) := by decide +kernel
theorem dX9_travel_24 : decode cX9_travel 24 = .ok (.ireturn, 1) := by decide +kernel
theorem dX9_later_0 : decode cX9_later 0 = .ok (.iload_n 1, 1) := by decide +kernel
theorem dX9_later_1 : decode cX9_later 1 = .ok (.ifCond .lt 14, 3) := by decide +kernel
theorem dX9_later_4 : decode cX9_later 4 = .ok (.iload_n 1, 1) := by decide +kernel
theorem dX9_later_5 : decode cX9_later 5 = .ok (.ldc 96, 2) := by decide +kernel
theorem dX9_later_7 : decode cX9_later 7 = .ok (.aload_n 0, 1) := by decide +kernel
theorem dX9_later_8 : decode cX9_later 8 = .ok (.getfield 97, 3) := by decide +kernel
theorem dX9_later_11 : decode cX9_later 11 = .ok (.isub, 1) := by decide +kernel
theorem dX9_later_12 : decode cX9_later 12 = .ok (.if_icmp .le 5, 3) := by decide +kernel
theorem dX9_later_15 : decode cX9_later 15 = .ok (.iconst (-1), 1) := by decide +kernel
theorem dX9_later_16 : decode cX9_later 16 = .ok (.ireturn, 1) := by decide +kernel
theorem dX9_later_17 : decode cX9_later 17 = .ok (.aload_n 0, 1) := by decide +kernel
theorem dX9_later_18 : decode cX9_later 18 = .ok (.dup, 1) := by decide +kernel
theorem dX9_later_19 : decode cX9_later 19 = .ok (.getfield 97, 3) := by decide +kernel
theorem dX9_later_22 : decode cX9_later 22 = .ok (.iload_n 1, 1) := by decide +kernel
theorem dX9_later_23 : decode cX9_later 23 = .ok (.iadd, 1) := by decide +kernel
theorem dX9_later_24 : decode cX9_later 24 = .ok (.putfield 97, 3) := by decide +kernel
theorem dX9_later_27 : decode cX9_later 27 = .ok (.aload_n 0, 1) := by decide +kernel
theorem dX9_later_28 : decode cX9_later 28 = .ok (.getfield 97, 3) := by decide +kernel
theorem dX9_later_31 : decode cX9_later 31 = .ok (.ireturn, 1) := by decide +kernel
theorem dX9_row_0 : decode cX9_row 0 = .ok (.aload_n 0, 1) := by decide +kernel
theorem dX9_row_1 : decode cX9_row 1 = .ok (.iload_n 1, 1) := by decide +kernel
theorem dX9_row_2 : decode cX9_row 2 = .ok (.invokevirtual 89, 3) := by decide +kernel
theorem dX9_row_5 : decode cX9_row 5 = .ok (.ifCond .eq 9, 3) := by decide +kernel
theorem dX9_row_8 : decode cX9_row 8 = .ok (.iload_n 2, 1) := by decide +kernel
theorem dX9_row_9 : decode cX9_row 9 = .ok (.bipush 30, 2) := by decide +kernel
theorem dX9_row_11 : decode cX9_row 11 = .ok (.if_icmp .le 5, 3) := by decide +kernel
theorem dX9_row_14 : decode cX9_row 14 = .ok (.iconst (-1), 1) := by decide +kernel
theorem dX9_row_15 : decode cX9_row 15 = .ok (.ireturn, 1) := by decide +kernel
theorem dX9_row_16 : decode cX9_row 16 = .ok (.iload_n 2, 1) := by decide +kernel
theorem dX9_row_17 : decode cX9_row 17 = .ok (.ifCond .ge 9, 3) := by decide +kernel
theorem dX9_row_20 : decode cX9_row 20 = .ok (.aload_n 0, 1) := by decide +kernel
theorem dX9_row_21 : decode cX9_row 21 = .ok (.iconst 5, 1) := by decide +kernel
theorem dX9_row_22 : decode cX9_row 22 = .ok (.invokevirtual 100, 3) := by decide +kernel
theorem dX9_row_25 : decode cX9_row 25 = .ok (.ireturn, 1) := by decide +kernel
theorem dX9_row_26 : decode cX9_row 26 = .ok (.aload_n 0, 1) := by decide +kernel
theorem dX9_row_27 : decode cX9_row 27 = .ok (.getfield 30, 3) := by decide +kernel
theorem dX9_row_30 : decode cX9_row 30 = .ok (.iload_n 1, 1) := by decide +kernel
theorem dX9_row_31 : decode cX9_row 31 = .ok (.iload_n 2, 1) := by decide +kernel
theorem dX9_row_32 : decode cX9_row 32 = .ok (.iastore, 1) := by decide +kernel
theorem dX9_row_33 : decode cX9_row 33 = .ok (.iconst 0, 1) := by decide +kernel
theorem dX9_row_34 : decode cX9_row 34 = .ok (.istore_n 3, 1) := by decide +kernel
theorem dX9_row_35 : decode cX9_row 35 = .ok (.iload_n 3, 1) := by decide +kernel
theorem dX9_row_36 : decode cX9_row 36 = .ok (.bipush 30, 2) := by decide +kernel
theorem dX9_row_38 : decode cX9_row 38 = .ok (.if_icmp .ge 21, 3) := by decide +kernel
theorem dX9_row_41 : decode cX9_row 41 = .ok (.aload_n 0, 1) := by decide +kernel
theorem dX9_row_42 : decode cX9_row 42 = .ok (.getfield 33, 3) := by decide +kernel
theorem dX9_row_45 : decode cX9_row 45 = .ok (.bipush 30, 2) := by decide +kernel
theorem dX9_row_47 : decode cX9_row 47 = .ok (.iload_n 1, 1) := by decide +kernel
theorem dX9_row_48 : decode cX9_row 48 = .ok (.imul, 1) := by decide +kernel
theorem dX9_row_49 : decode cX9_row 49 = .ok (.iload_n 3, 1) := by decide +kernel
theorem dX9_row_50 : decode cX9_row 50 = .ok (.iadd, 1) := by decide +kernel
theorem dX9_row_51 : decode cX9_row 51 = .ok (.iconst 0, 1) := by decide +kernel
theorem dX9_row_52 : decode cX9_row 52 = .ok (.iastore, 1) := by decide +kernel
theorem dX9_row_53 : decode cX9_row 53 = .ok (.iinc 3 1, 3) := by decide +kernel
theorem dX9_row_56 : decode cX9_row 56 = .ok (.goto (-21), 3) := by decide +kernel
theorem dX9_row_59 : decode cX9_row 59 = .ok (.iload_n 2, 1) := by decide +kernel
theorem dX9_row_60 : decode cX9_row 60 = .ok (.ireturn, 1) := by decide +kernel
theorem dX9_lay_0 : decode cX9_lay 0 = .ok (.aload_n 0, 1) := by decide +kernel
theorem dX9_lay_1 : decode cX9_lay 1 = .ok (.iload_n 1, 1) := by decide +kernel
theorem dX9_lay_2 : decode cX9_lay 2 = .ok (.invokevirtual 89, 3) := by decide +kernel
theorem dX9_lay_5 : decode cX9_lay 5 = .ok (.ifCond .eq 14, 3) := by decide +kernel
theorem dX9_lay_8 : decode cX9_lay 8 = .ok (.iload_n 3, 1) := by decide +kernel
theorem dX9_lay_9 : decode cX9_lay 9 = .ok (.ldc 104, 2) := by decide +kernel
theorem dX9_lay_11 : decode cX9_lay 11 = .ok (.ldc 96, 2) := by decide +kernel
theorem dX9_lay_13 : decode cX9_lay 13 = .ok (.invokestatic 72, 3) := by decide +kernel
theorem dX9_lay_16 : decode cX9_lay 16 = .ok (.ifCond .ne 5, 3) := by decide +kernel
theorem dX9_lay_19 : decode cX9_lay 19 = .ok (.iconst (-1), 1) := by decide +kernel
theorem dX9_lay_20 : decode cX9_lay 20 = .ok (.ireturn, 1) := by decide +kernel
theorem dX9_lay_21 : decode cX9_lay 21 = .ok (.aload_n 0, 1) := by decide +kernel
theorem dX9_lay_22 : decode cX9_lay 22 = .ok (.getfield 30, 3) := by decide +kernel
theorem dX9_lay_25 : decode cX9_lay 25 = .ok (.iload_n 1, 1) := by decide +kernel
theorem dX9_lay_26 : decode cX9_lay 26 = .ok (.iaload, 1) := by decide +kernel
theorem dX9_lay_27 : decode cX9_lay 27 = .ok (.ifCond .ge 9, 3) := by decide +kernel
theorem dX9_lay_30 : decode cX9_lay 30 = .ok (.aload_n 0, 1) := by decide +kernel
theorem dX9_lay_31 : decode cX9_lay 31 = .ok (.iconst 1, 1) := by decide +kernel
theorem dX9_lay_32 : decode cX9_lay 32 = .ok (.invokevirtual 100, 3) := by decide +kernel
theorem dX9_lay_35 : decode cX9_lay 35 = .ok (.ireturn, 1) := by decide +kernel
theorem dX9_lay_36 : decode cX9_lay 36 = .ok (.iload_n 2, 1) := by decide +kernel
theorem dX9_lay_37 : decode cX9_lay 37 = .ok (.iconst 0, 1) := by decide +kernel
theorem dX9_lay_38 : decode cX9_lay 38 = .ok (.aload_n 0, 1) := by decide +kernel
theorem dX9_lay_39 : decode cX9_lay 39 = .ok (.getfield 30, 3) := by decide +kernel
theorem dX9_lay_42 : decode cX9_lay 42 = .ok (.iload_n 1, 1) := by decide +kernel
theorem dX9_lay_43 : decode cX9_lay 43 = .ok (.iaload, 1) := by decide +kernel
theorem dX9_lay_44 : decode cX9_lay 44 = .ok (.iconst 1, 1) := by decide +kernel
theorem dX9_lay_45 : decode cX9_lay 45 = .ok (.isub, 1) := by decide +kernel
theorem dX9_lay_46 : decode cX9_lay 46 = .ok (.invokestatic 72, 3) := by decide +kernel
theorem dX9_lay_49 : decode cX9_lay 49 = .ok (.ifCond .ne 9, 3) := by decide +kernel
theorem dX9_lay_52 : decode cX9_lay 52 = .ok (.aload_n 0, 1) := by decide +kernel
theorem dX9_lay_53 : decode cX9_lay 53 = .ok (.iconst 2, 1) := by decide +kernel
theorem dX9_lay_54 : decode cX9_lay 54 = .ok (.invokevirtual 100, 3) := by decide +kernel
theorem dX9_lay_57 : decode cX9_lay 57 = .ok (.ireturn, 1) := by decide +kernel
theorem dX9_lay_58 : decode cX9_lay 58 = .ok (.aload_n 0, 1) := by decide +kernel
theorem dX9_lay_59 : decode cX9_lay 59 = .ok (.aload_n 0, 1) := by decide +kernel
theorem dX9_lay_60 : decode cX9_lay 60 = .ok (.getfield 33, 3) := by decide +kernel
theorem dX9_lay_63 : decode cX9_lay 63 = .ok (.bipush 30, 2) := by decide +kernel
theorem dX9_lay_65 : decode cX9_lay 65 = .ok (.iload_n 1, 1) := by decide +kernel
theorem dX9_lay_66 : decode cX9_lay 66 = .ok (.imul, 1) := by decide +kernel
theorem dX9_lay_67 : decode cX9_lay 67 = .ok (.iload_n 2, 1) := by decide +kernel
theorem dX9_lay_68 : decode cX9_lay 68 = .ok (.iadd, 1) := by decide +kernel
theorem dX9_lay_69 : decode cX9_lay 69 = .ok (.iaload, 1) := by decide +kernel
theorem dX9_lay_70 : decode cX9_lay 70 = .ok (.putfield 105, 3) := by decide +kernel
theorem dX9_lay_73 : decode cX9_lay 73 = .ok (.aload_n 0, 1) := by decide +kernel
theorem dX9_lay_74 : decode cX9_lay 74 = .ok (.getfield 33, 3) := by decide +kernel
theorem dX9_lay_77 : decode cX9_lay 77 = .ok (.bipush 30, 2) := by decide +kernel
theorem dX9_lay_79 : decode cX9_lay 79 = .ok (.iload_n 1, 1) := by decide +kernel
theorem dX9_lay_80 : decode cX9_lay 80 = .ok (.imul, 1) := by decide +kernel
theorem dX9_lay_81 : decode cX9_lay 81 = .ok (.iload_n 2, 1) := by decide +kernel
theorem dX9_lay_82 : decode cX9_lay 82 = .ok (.iadd, 1) := by decide +kernel
theorem dX9_lay_83 : decode cX9_lay 83 = .ok (.iload_n 3, 1) := by decide +kernel
theorem dX9_lay_84 : decode cX9_lay 84 = .ok (.iastore, 1) := by decide +kernel
theorem dX9_lay_85 : decode cX9_lay 85 = .ok (.iconst 1, 1) := by decide +kernel
theorem dX9_lay_86 : decode cX9_lay 86 = .ok (.ireturn, 1) := by decide +kernel
theorem dX9_tear_0 : decode cX9_tear 0 = .ok (.aload_n 0, 1) := by decide +kernel
theorem dX9_tear_1 : decode cX9_tear 1 = .ok (.iload_n 1, 1) := by decide +kernel
theorem dX9_tear_2 : decode cX9_tear 2 = .ok (.invokevirtual 89, 3) := by decide +kernel
theorem dX9_tear_5 : decode cX9_tear 5 = .ok (.ifCond .ne 5, 3) := by decide +kernel
theorem dX9_tear_8 : decode cX9_tear 8 = .ok (.iconst (-1), 1) := by decide +kernel
theorem dX9_tear_9 : decode cX9_tear 9 = .ok (.ireturn, 1) := by decide +kernel
theorem dX9_tear_10 : decode cX9_tear 10 = .ok (.aload_n 0, 1) := by decide +kernel
theorem dX9_tear_11 : decode cX9_tear 11 = .ok (.getfield 30, 3) := by decide +kernel
theorem dX9_tear_14 : decode cX9_tear 14 = .ok (.iload_n 1, 1) := by decide +kernel
theorem dX9_tear_15 : decode cX9_tear 15 = .ok (.iaload, 1) := by decide +kernel
theorem dX9_tear_16 : decode cX9_tear 16 = .ok (.ifCond .ge 9, 3) := by decide +kernel
theorem dX9_tear_19 : decode cX9_tear 19 = .ok (.aload_n 0, 1) := by decide +kernel
theorem dX9_tear_20 : decode cX9_tear 20 = .ok (.iconst 1, 1) := by decide +kernel
theorem dX9_tear_21 : decode cX9_tear 21 = .ok (.invokevirtual 100, 3) := by decide +kernel
theorem dX9_tear_24 : decode cX9_tear 24 = .ok (.ireturn, 1) := by decide +kernel
theorem dX9_tear_25 : decode cX9_tear 25 = .ok (.aload_n 0, 1) := by decide +kernel
theorem dX9_tear_26 : decode cX9_tear 26 = .ok (.getfield 30, 3) := by decide +kernel
theorem dX9_tear_29 : decode cX9_tear 29 = .ok (.iload_n 1, 1) := by decide +kernel
theorem dX9_tear_30 : decode cX9_tear 30 = .ok (.bipush (-9), 2) := by decide +kernel
theorem dX9_tear_32 : decode cX9_tear 32 = .ok (.iastore, 1) := by decide +kernel
theorem dX9_tear_33 : decode cX9_tear 33 = .ok (.iconst 1, 1) := by decide +kernel
theorem dX9_tear_34 : decode cX9_tear 34 = .ok (.ireturn, 1) := by decide +kernel
theorem dX9_copy_0 : decode cX9_copy 0 = .ok (.aload_n 0, 1) := by decide +kernel
theorem dX9_copy_1 : decode cX9_copy 1 = .ok (.iload_n 1, 1) := by decide +kernel
theorem dX9_copy_2 : decode cX9_copy 2 = .ok (.invokevirtual 89, 3) := by decide +kernel
theorem dX9_copy_5 : decode cX9_copy 5 = .ok (.ifCond .eq 11, 3) := by decide +kernel
theorem dX9_copy_8 : decode cX9_copy 8 = .ok (.aload_n 0, 1) := by decide +kernel
theorem dX9_copy_9 : decode cX9_copy 9 = .ok (.iload_n 3, 1) := by decide +kernel
theorem dX9_copy_10 : decode cX9_copy 10 = .ok (.invokevirtual 89, 3) := by decide +kernel
theorem dX9_copy_13 : decode cX9_copy 13 = .ok (.ifCond .ne 5, 3) := by decide +kernel
theorem dX9_copy_16 : decode cX9_copy 16 = .ok (.iconst (-1), 1) := by decide +kernel
theorem dX9_copy_17 : decode cX9_copy 17 = .ok (.ireturn, 1) := by decide +kernel
theorem dX9_copy_18 : decode cX9_copy 18 = .ok (.iload 5, 2) := by decide +kernel
theorem dX9_copy_20 : decode cX9_copy 20 = .ok (.ifCond .ge 9, 3) := by decide +kernel
theorem dX9_copy_23 : decode cX9_copy 23 = .ok (.aload_n 0, 1) := by decide +kernel
theorem dX9_copy_24 : decode cX9_copy 24 = .ok (.iconst 5, 1) := by decide +kernel
theorem dX9_copy_25 : decode cX9_copy 25 = .ok (.invokevirtual 100, 3) := by decide +kernel
theorem dX9_copy_28 : decode cX9_copy 28 = .ok (.ireturn, 1) := by decide +kernel
theorem dX9_copy_29 : decode cX9_copy 29 = .ok (.aload_n 0, 1) := by decide +kernel
theorem dX9_copy_30 : decode cX9_copy 30 = .ok (.getfield 30, 3) := by decide +kernel
theorem dX9_copy_33 : decode cX9_copy 33 = .ok (.iload_n 1, 1) := by decide +kernel
theorem dX9_copy_34 : decode cX9_copy 34 = .ok (.iaload, 1) := by decide +kernel
theorem dX9_copy_35 : decode cX9_copy 35 = .ok (.ifCond .lt 12, 3) := by decide +kernel
theorem dX9_copy_38 : decode cX9_copy 38 = .ok (.aload_n 0, 1) := by decide +kernel
theorem dX9_copy_39 : decode cX9_copy 39 = .ok (.getfield 30, 3) := by decide +kernel
theorem dX9_copy_42 : decode cX9_copy 42 = .ok (.iload_n 3, 1) := by decide +kernel
theorem dX9_copy_43 : decode cX9_copy 43 = .ok (.iaload, 1) := by decide +kernel
theorem dX9_copy_44 : decode cX9_copy 44 = .ok (.ifCond .ge 9, 3) := by decide +kernel
theorem dX9_copy_47 : decode cX9_copy 47 = .ok (.aload_n 0, 1) := by decide +kernel
theorem dX9_copy_48 : decode cX9_copy 48 = .ok (.iconst 1, 1) := by decide +kernel
theorem dX9_copy_49 : decode cX9_copy 49 = .ok (.invokevirtual 100, 3) := by decide +kernel
theorem dX9_copy_52 : decode cX9_copy 52 = .ok (.ireturn, 1) := by decide +kernel
theorem dX9_copy_53 : decode cX9_copy 53 = .ok (.iload_n 2, 1) := by decide +kernel
theorem dX9_copy_54 : decode cX9_copy 54 = .ok (.ifCond .lt 43, 3) := by decide +kernel
theorem dX9_copy_57 : decode cX9_copy 57 = .ok (.iload 4, 2) := by decide +kernel
theorem dX9_copy_59 : decode cX9_copy 59 = .ok (.ifCond .lt 38, 3) := by decide +kernel
theorem dX9_copy_62 : decode cX9_copy 62 = .ok (.iload_n 2, 1) := by decide +kernel
theorem dX9_copy_63 : decode cX9_copy 63 = .ok (.i2l, 1) := by decide +kernel
theorem dX9_copy_64 : decode cX9_copy 64 = .ok (.iload 5, 2) := by decide +kernel
theorem dX9_copy_66 : decode cX9_copy 66 = .ok (.i2l, 1) := by decide +kernel
theorem dX9_copy_67 : decode cX9_copy 67 = .ok (.ladd, 1) := by decide +kernel
theorem dX9_copy_68 : decode cX9_copy 68 = .ok (.aload_n 0, 1) := by decide +kernel
theorem dX9_copy_69 : decode cX9_copy 69 = .ok (.getfield 30, 3) := by decide +kernel
theorem dX9_copy_72 : decode cX9_copy 72 = .ok (.iload_n 1, 1) := by decide +kernel
theorem dX9_copy_73 : decode cX9_copy 73 = .ok (.iaload, 1) := by decide +kernel
theorem dX9_copy_74 : decode cX9_copy 74 = .ok (.i2l, 1) := by decide +kernel
theorem dX9_copy_75 : decode cX9_copy 75 = .ok (.lcmp, 1) := by decide +kernel
theorem dX9_copy_76 : decode cX9_copy 76 = .ok (.ifCond .gt 21, 3) := by decide +kernel
theorem dX9_copy_79 : decode cX9_copy 79 = .ok (.iload 4, 2) := by decide +kernel
theorem dX9_copy_81 : decode cX9_copy 81 = .ok (.i2l, 1) := by decide +kernel
theorem dX9_copy_82 : decode cX9_copy 82 = .ok (.iload 5, 2) := by decide +kernel
theorem dX9_copy_84 : decode cX9_copy 84 = .ok (.i2l, 1) := by decide +kernel
theorem dX9_copy_85 : decode cX9_copy 85 = .ok (.ladd, 1) := by decide +kernel
theorem dX9_copy_86 : decode cX9_copy 86 = .ok (.aload_n 0, 1) := by decide +kernel
theorem dX9_copy_87 : decode cX9_copy 87 = .ok (.getfield 30, 3) := by decide +kernel
theorem dX9_copy_90 : decode cX9_copy 90 = .ok (.iload_n 3, 1) := by decide +kernel
theorem dX9_copy_91 : decode cX9_copy 91 = .ok (.iaload, 1) := by decide +kernel
theorem dX9_copy_92 : decode cX9_copy 92 = .ok (.i2l, 1) := by decide +kernel
theorem dX9_copy_93 : decode cX9_copy 93 = .ok (.lcmp, 1) := by decide +kernel
theorem dX9_copy_94 : decode cX9_copy 94 = .ok (.ifCond .le 9, 3) := by decide +kernel
theorem dX9_copy_97 : decode cX9_copy 97 = .ok (.aload_n 0, 1) := by decide +kernel
theorem dX9_copy_98 : decode cX9_copy 98 = .ok (.iconst 2, 1) := by decide +kernel
theorem dX9_copy_99 : decode cX9_copy 99 = .ok (.invokevirtual 100, 3) := by decide +kernel
theorem dX9_copy_102 : decode cX9_copy 102 = .ok (.ireturn, 1) := by decide +kernel
theorem dX9_copy_103 : decode cX9_copy 103 = .ok (.iconst 0, 1) := by decide +kernel
theorem dX9_copy_104 : decode cX9_copy 104 = .ok (.istore 6, 2) := by decide +kernel
theorem dX9_copy_106 : decode cX9_copy 106 = .ok (.iload 6, 2) := by decide +kernel
theorem dX9_copy_108 : decode cX9_copy 108 = .ok (.iload 5, 2) := by decide +kernel
theorem dX9_copy_110 : decode cX9_copy 110 = .ok (.if_icmp .ge 30, 3) := by decide +kernel
theorem dX9_copy_113 : decode cX9_copy 113 = .ok (.aload_n 0, 1) := by decide +kernel
theorem dX9_copy_114 : decode cX9_copy 114 = .ok (.getfield 39, 3) := by decide +kernel
theorem dX9_copy_117 : decode cX9_copy 117 = .ok (.iload 6, 2) := by decide +kernel
theorem dX9_copy_119 : decode cX9_copy 119 = .ok (.aload_n 0, 1) := by decide +kernel
theorem dX9_copy_120 : decode cX9_copy 120 = .ok (.getfield 33, 3) := by decide +kernel
theorem dX9_copy_123 : decode cX9_copy 123 = .ok (.bipush 30, 2) := by decide +kernel
theorem dX9_copy_125 : decode cX9_copy 125 = .ok (.iload_n 1, 1) := by decide +kernel
theorem dX9_copy_126 : decode cX9_copy 126 = .ok (.imul, 1) := by decide +kernel
theorem dX9_copy_127 : decode cX9_copy 127 = .ok (.iload_n 2, 1) := by decide +kernel
theorem dX9_copy_128 : decode cX9_copy 128 = .ok (.iadd, 1) := by decide +kernel
theorem dX9_copy_129 : decode cX9_copy 129 = .ok (.iload 6, 2) := by decide +kernel
theorem dX9_copy_131 : decode cX9_copy 131 = .ok (.iadd, 1) := by decide +kernel
theorem dX9_copy_132 : decode cX9_copy 132 = .ok (.iaload, 1) := by decide +kernel
theorem dX9_copy_133 : decode cX9_copy 133 = .ok (.iastore, 1) := by decide +kernel
theorem dX9_copy_134 : decode cX9_copy 134 = .ok (.iinc 6 1, 3) := by decide +kernel
theorem dX9_copy_137 : decode cX9_copy 137 = .ok (.goto (-31), 3) := by decide +kernel
theorem dX9_copy_140 : decode cX9_copy 140 = .ok (.iconst 0, 1) := by decide +kernel
theorem dX9_copy_141 : decode cX9_copy 141 = .ok (.istore 6, 2) := by decide +kernel
theorem dX9_copy_143 : decode cX9_copy 143 = .ok (.iload 6, 2) := by decide +kernel
theorem dX9_copy_145 : decode cX9_copy 145 = .ok (.iload 5, 2) := by decide +kernel
theorem dX9_copy_147 : decode cX9_copy 147 = .ok (.if_icmp .ge 31, 3) := by decide +kernel
theorem dX9_copy_150 : decode cX9_copy 150 = .ok (.aload_n 0, 1) := by decide +kernel
theorem dX9_copy_151 : decode cX9_copy 151 = .ok (.getfield 33, 3) := by decide +kernel
theorem dX9_copy_154 : decode cX9_copy 154 = .ok (.bipush 30, 2) := by decide +kernel
theorem dX9_copy_156 : decode cX9_copy 156 = .ok (.iload_n 3, 1) := by decide +kernel
theorem dX9_copy_157 : decode cX9_copy 157 = .ok (.imul, 1) := by decide +kernel
theorem dX9_copy_158 : decode cX9_copy 158 = .ok (.iload 4, 2) := by decide +kernel
theorem dX9_copy_160 : decode cX9_copy 160 = .ok (.iadd, 1) := by decide +kernel
theorem dX9_copy_161 : decode cX9_copy 161 = .ok (.iload 6, 2) := by decide +kernel
theorem dX9_copy_163 : decode cX9_copy 163 = .ok (.iadd, 1) := by decide +kernel
theorem dX9_copy_164 : decode cX9_copy 164 = .ok (.aload_n 0, 1) := by decide +kernel
theorem dX9_copy_165 : decode cX9_copy 165 = .ok (.getfield 39, 3) := by decide +kernel
theorem dX9_copy_168 : decode cX9_copy 168 = .ok (.iload 6, 2) := by decide +kernel
theorem dX9_copy_170 : decode cX9_copy 170 = .ok (.iaload, 1) := by decide +kernel
theorem dX9_copy_171 : decode cX9_copy 171 = .ok (.iastore, 1) := by decide +kernel
theorem dX9_copy_172 : decode cX9_copy 172 = .ok (.iinc 6 1, 3) := by decide +kernel
theorem dX9_copy_175 : decode cX9_copy 175 = .ok (.goto (-32), 3) := by decide +kernel
theorem dX9_copy_178 : decode cX9_copy 178 = .ok (.iconst 1, 1) := by decide +kernel
theorem dX9_copy_179 : decode cX9_copy 179 = .ok (.ireturn, 1) := by decide +kernel
theorem dX9_sumOf_0 : decode cX9_sumOf 0 = .ok (.lconst 0, 1) := by decide +kernel
theorem dX9_sumOf_1 : decode cX9_sumOf 1 = .ok (.lstore 4, 2) := by decide +kernel
theorem dX9_sumOf_3 : decode cX9_sumOf 3 = .ok (.iload_n 2, 1) := by decide +kernel
theorem dX9_sumOf_4 : decode cX9_sumOf 4 = .ok (.istore 6, 2) := by decide +kernel
theorem dX9_sumOf_6 : decode cX9_sumOf 6 = .ok (.iload 6, 2) := by decide +kernel
theorem dX9_sumOf_8 : decode cX9_sumOf 8 = .ok (.iload_n 2, 1) := by decide +kernel
theorem dX9_sumOf_9 : decode cX9_sumOf 9 = .ok (.iload_n 3, 1) := by decide +kernel
theorem dX9_sumOf_10 : decode cX9_sumOf 10 = .ok (.iadd, 1) := by decide +kernel
theorem dX9_sumOf_11 : decode cX9_sumOf 11 = .ok (.if_icmp .ge 43, 3) := by decide +kernel
theorem dX9_sumOf_14 : decode cX9_sumOf 14 = .ok (.aload_n 0, 1) := by decide +kernel
theorem dX9_sumOf_15 : decode cX9_sumOf 15 = .ok (.getfield 33, 3) := by decide +kernel
theorem dX9_sumOf_18 : decode cX9_sumOf 18 = .ok (.bipush 30, 2) := by decide +kernel
theorem dX9_sumOf_20 : decode cX9_sumOf 20 = .ok (.iload_n 1, 1) := by decide +kernel
theorem dX9_sumOf_21 : decode cX9_sumOf 21 = .ok (.imul, 1) := by decide +kernel
theorem dX9_sumOf_22 : decode cX9_sumOf 22 = .ok (.iload 6, 2) := by decide +kernel
theorem dX9_sumOf_24 : decode cX9_sumOf 24 = .ok (.iadd, 1) := by decide +kernel
theorem dX9_sumOf_25 : decode cX9_sumOf 25 = .ok (.iaload, 1) := by decide +kernel
theorem dX9_sumOf_26 : decode cX9_sumOf 26 = .ok (.istore 7, 2) := by decide +kernel
theorem dX9_sumOf_28 : decode cX9_sumOf 28 = .ok (.lload 4, 2) := by decide +kernel
theorem dX9_sumOf_30 : decode cX9_sumOf 30 = .ok (.iload 7, 2) := by decide +kernel
theorem dX9_sumOf_32 : decode cX9_sumOf 32 = .ok (.ifCond .ge 10, 3) := by decide +kernel
theorem dX9_sumOf_35 : decode cX9_sumOf 35 = .ok (.iload 7, 2) := by decide +kernel
theorem dX9_sumOf_37 : decode cX9_sumOf 37 = .ok (.ineg, 1) := by decide +kernel
theorem dX9_sumOf_38 : decode cX9_sumOf 38 = .ok (.i2l, 1) := by decide +kernel
theorem dX9_sumOf_39 : decode cX9_sumOf 39 = .ok (.goto 6, 3) := by decide +kernel
theorem dX9_sumOf_42 : decode cX9_sumOf 42 = .ok (.iload 7, 2) := by decide +kernel
theorem dX9_sumOf_44 : decode cX9_sumOf 44 = .ok (.i2l, 1) := by decide +kernel
theorem dX9_sumOf_45 : decode cX9_sumOf 45 = .ok (.ladd, 1) := by decide +kernel
theorem dX9_sumOf_46 : decode cX9_sumOf 46 = .ok (.lstore 4, 2) := by decide +kernel
theorem dX9_sumOf_48 : decode cX9_sumOf 48 = .ok (.iinc 6 1, 3) := by decide +kernel
theorem dX9_sumOf_51 : decode cX9_sumOf 51 = .ok (.goto (-45), 3) := by decide +kernel
theorem dX9_sumOf_54 : decode cX9_sumOf 54 = .ok (.lload 4, 2) := by decide +kernel
theorem dX9_sumOf_56 : decode cX9_sumOf 56 = .ok (.lreturn, 1) := by decide +kernel
theorem dX9_mean_0 : decode cX9_mean 0 = .ok (.aload_n 0, 1) := by decide +kernel
theorem dX9_mean_1 : decode cX9_mean 1 = .ok (.iload_n 1, 1) := by decide +kernel
theorem dX9_mean_2 : decode cX9_mean 2 = .ok (.invokevirtual 89, 3) := by decide +kernel
theorem dX9_mean_5 : decode cX9_mean 5 = .ok (.ifCond .ne 5, 3) := by decide +kernel
theorem dX9_mean_8 : decode cX9_mean 8 = .ok (.iconst (-1), 1) := by decide +kernel
theorem dX9_mean_9 : decode cX9_mean 9 = .ok (.ireturn, 1) := by decide +kernel
theorem dX9_mean_10 : decode cX9_mean 10 = .ok (.aload_n 0, 1) := by decide +kernel
theorem dX9_mean_11 : decode cX9_mean 11 = .ok (.getfield 30, 3) := by decide +kernel
theorem dX9_mean_14 : decode cX9_mean 14 = .ok (.iload_n 1, 1) := by decide +kernel
theorem dX9_mean_15 : decode cX9_mean 15 = .ok (.iaload, 1) := by decide +kernel
theorem dX9_mean_16 : decode cX9_mean 16 = .ok (.ifCond .ge 9, 3) := by decide +kernel
theorem dX9_mean_19 : decode cX9_mean 19 = .ok (.aload_n 0, 1) := by decide +kernel
theorem dX9_mean_20 : decode cX9_mean 20 = .ok (.iconst 1, 1) := by decide +kernel
theorem dX9_mean_21 : decode cX9_mean 21 = .ok (.invokevirtual 100, 3) := by decide +kernel
theorem dX9_mean_24 : decode cX9_mean 24 = .ok (.ireturn, 1) := by decide +kernel
theorem dX9_mean_25 : decode cX9_mean 25 = .ok (.aload_n 0, 1) := by decide +kernel
theorem dX9_mean_26 : decode cX9_mean 26 = .ok (.getfield 30, 3) := by decide +kernel
theorem dX9_mean_29 : decode cX9_mean 29 = .ok (.iload_n 1, 1) := by decide +kernel
theorem dX9_mean_30 : decode cX9_mean 30 = .ok (.iaload, 1) := by decide +kernel
theorem dX9_mean_31 : decode cX9_mean 31 = .ok (.ifCond .ne 11, 3) := by decide +kernel
theorem dX9_mean_34 : decode cX9_mean 34 = .ok (.aload_n 0, 1) := by decide +kernel
theorem dX9_mean_35 : decode cX9_mean 35 = .ok (.iconst 4, 1) := by decide +kernel
theorem dX9_mean_36 : decode cX9_mean 36 = .ok (.invokevirtual 100, 3) := by decide +kernel
theorem dX9_mean_39 : decode cX9_mean 39 = .ok (.goto 24, 3) := by decide +kernel
theorem dX9_mean_42 : decode cX9_mean 42 = .ok (.aload_n 0, 1) := by decide +kernel
theorem dX9_mean_43 : decode cX9_mean 43 = .ok (.iload_n 1, 1) := by decide +kernel
theorem dX9_mean_44 : decode cX9_mean 44 = .ok (.iconst 0, 1) := by decide +kernel
theorem dX9_mean_45 : decode cX9_mean 45 = .ok (.aload_n 0, 1) := by decide +kernel
theorem dX9_mean_46 : decode cX9_mean 46 = .ok (.getfield 30, 3) := by decide +kernel
theorem dX9_mean_49 : decode cX9_mean 49 = .ok (.iload_n 1, 1) := by decide +kernel
theorem dX9_mean_50 : decode cX9_mean 50 = .ok (.iaload, 1) := by decide +kernel
theorem dX9_mean_51 : decode cX9_mean 51 = .ok (.invokevirtual 108, 3) := by decide +kernel
theorem dX9_mean_54 : decode cX9_mean 54 = .ok (.aload_n 0, 1) := by decide +kernel
theorem dX9_mean_55 : decode cX9_mean 55 = .ok (.getfield 30, 3) := by decide +kernel
theorem dX9_mean_58 : decode cX9_mean 58 = .ok (.iload_n 1, 1) := by decide +kernel
theorem dX9_mean_59 : decode cX9_mean 59 = .ok (.iaload, 1) := by decide +kernel
theorem dX9_mean_60 : decode cX9_mean 60 = .ok (.i2l, 1) := by decide +kernel
theorem dX9_mean_61 : decode cX9_mean 61 = .ok (.ldiv, 1) := by decide +kernel
theorem dX9_mean_62 : decode cX9_mean 62 = .ok (.l2i, 1) := by decide +kernel
theorem dX9_mean_63 : decode cX9_mean 63 = .ok (.ireturn, 1) := by decide +kernel
theorem dX9_first_0 : decode cX9_first 0 = .ok (.aload_n 0, 1) := by decide +kernel
theorem dX9_first_1 : decode cX9_first 1 = .ok (.iload_n 1, 1) := by decide +kernel
theorem dX9_first_2 : decode cX9_first 2 = .ok (.invokevirtual 89, 3) := by decide +kernel
theorem dX9_first_5 : decode cX9_first 5 = .ok (.ifCond .eq 47, 3) := by decide +kernel
theorem dX9_first_8 : decode cX9_first 8 = .ok (.iload_n 2, 1) := by decide +kernel
theorem dX9_first_9 : decode cX9_first 9 = .ok (.iconst 1, 1) := by decide +kernel
theorem dX9_first_10 : decode cX9_first 10 = .ok (.bipush 10, 2) := by decide +kernel
theorem dX9_first_12 : decode cX9_first 12 = .ok (.invokestatic 72, 3) := by decide +kernel
theorem dX9_first_15 : decode cX9_first 15 = .ok (.ifCond .eq 37, 3) := by decide +kernel
theorem dX9_first_18 : decode cX9_first 18 = .ok (.iload_n 3, 1) := by decide +kernel
theorem dX9_first_19 : decode cX9_first 19 = .ok (.iconst 1, 1) := by decide +kernel
theorem dX9_first_20 : decode cX9_first 20 = .ok (.bipush 10, 2) := by decide +kernel
theorem dX9_first_22 : decode cX9_first 22 = .ok (.invokestatic 72, 3) := by decide +kernel
theorem dX9_first_25 : decode cX9_first 25 = .ok (.ifCond .eq 27, 3) := by decide +kernel
theorem dX9_first_28 : decode cX9_first 28 = .ok (.iload 4, 2) := by decide +kernel
theorem dX9_first_30 : decode cX9_first 30 = .ok (.iconst 1, 1) := by decide +kernel
theorem dX9_first_31 : decode cX9_first 31 = .ok (.sipush 1000, 3) := by decide +kernel
theorem dX9_first_34 : decode cX9_first 34 = .ok (.invokestatic 72, 3) := by decide +kernel
theorem dX9_first_37 : decode cX9_first 37 = .ok (.ifCond .eq 15, 3) := by decide +kernel
theorem dX9_first_40 : decode cX9_first 40 = .ok (.iload 5, 2) := by decide +kernel
theorem dX9_first_42 : decode cX9_first 42 = .ok (.iconst 1, 1) := by decide +kernel
theorem dX9_first_43 : decode cX9_first 43 = .ok (.sipush 1000, 3) := by decide +kernel
theorem dX9_first_46 : decode cX9_first 46 = .ok (.invokestatic 72, 3) := by decide +kernel
theorem dX9_first_49 : decode cX9_first 49 = .ok (.ifCond .ne 5, 3) := by decide +kernel
theorem dX9_first_52 : decode cX9_first 52 = .ok (.iconst (-1), 1) := by decide +kernel
theorem dX9_first_53 : decode cX9_first 53 = .ok (.ireturn, 1) := by decide +kernel
theorem dX9_first_54 : decode cX9_first 54 = .ok (.aload_n 0, 1) := by decide +kernel
theorem dX9_first_55 : decode cX9_first 55 = .ok (.getfield 30, 3) := by decide +kernel
theorem dX9_first_58 : decode cX9_first 58 = .ok (.iload_n 1, 1) := by decide +kernel
theorem dX9_first_59 : decode cX9_first 59 = .ok (.iaload, 1) := by decide +kernel
theorem dX9_first_60 : decode cX9_first 60 = .ok (.ifCond .ge 9, 3) := by decide +kernel
theorem dX9_first_63 : decode cX9_first 63 = .ok (.aload_n 0, 1) := by decide +kernel
theorem dX9_first_64 : decode cX9_first 64 = .ok (.iconst 1, 1) := by decide +kernel
theorem dX9_first_65 : decode cX9_first 65 = .ok (.invokevirtual 100, 3) := by decide +kernel
theorem dX9_first_68 : decode cX9_first 68 = .ok (.ireturn, 1) := by decide +kernel
theorem dX9_first_69 : decode cX9_first 69 = .ok (.iload_n 3, 1) := by decide +kernel
theorem dX9_first_70 : decode cX9_first 70 = .ok (.istore 6, 2) := by decide +kernel
theorem dX9_first_72 : decode cX9_first 72 = .ok (.iload 6, 2) := by decide +kernel
theorem dX9_first_74 : decode cX9_first 74 = .ok (.iload_n 2, 1) := by decide +kernel
theorem dX9_first_75 : decode cX9_first 75 = .ok (.iadd, 1) := by decide +kernel
theorem dX9_first_76 : decode cX9_first 76 = .ok (.aload_n 0, 1) := by decide +kernel
theorem dX9_first_77 : decode cX9_first 77 = .ok (.getfield 30, 3) := by decide +kernel
theorem dX9_first_80 : decode cX9_first 80 = .ok (.iload_n 1, 1) := by decide +kernel
theorem dX9_first_81 : decode cX9_first 81 = .ok (.iaload, 1) := by decide +kernel
theorem dX9_first_82 : decode cX9_first 82 = .ok (.if_icmp .gt 48, 3) := by decide +kernel
theorem dX9_first_85 : decode cX9_first 85 = .ok (.aload_n 0, 1) := by decide +kernel
theorem dX9_first_86 : decode cX9_first 86 = .ok (.iload_n 1, 1) := by decide +kernel
theorem dX9_first_87 : decode cX9_first 87 = .ok (.iload 6, 2) := by decide +kernel
theorem dX9_first_89 : decode cX9_first 89 = .ok (.iload_n 2, 1) := by decide +kernel
theorem dX9_first_90 : decode cX9_first 90 = .ok (.invokevirtual 108, 3) := by decide +kernel
theorem dX9_first_93 : decode cX9_first 93 = .ok (.iload_n 3, 1) := by decide +kernel
theorem dX9_first_94 : decode cX9_first 94 = .ok (.i2l, 1) := by decide +kernel
theorem dX9_first_95 : decode cX9_first 95 = .ok (.lmul, 1) := by decide +kernel
theorem dX9_first_96 : decode cX9_first 96 = .ok (.iload 5, 2) := by decide +kernel
theorem dX9_first_98 : decode cX9_first 98 = .ok (.i2l, 1) := by decide +kernel
theorem dX9_first_99 : decode cX9_first 99 = .ok (.lmul, 1) := by decide +kernel
theorem dX9_first_100 : decode cX9_first 100 = .ok (.aload_n 0, 1) := by decide +kernel
theorem dX9_first_101 : decode cX9_first 101 = .ok (.iload_n 1, 1) := by decide +kernel
theorem dX9_first_102 : decode cX9_first 102 = .ok (.iload 6, 2) := by decide +kernel
theorem dX9_first_104 : decode cX9_first 104 = .ok (.iload_n 3, 1) := by decide +kernel
theorem dX9_first_105 : decode cX9_first 105 = .ok (.isub, 1) := by decide +kernel
theorem dX9_first_106 : decode cX9_first 106 = .ok (.iload_n 3, 1) := by decide +kernel
theorem dX9_first_107 : decode cX9_first 107 = .ok (.invokevirtual 108, 3) := by decide +kernel
theorem dX9_first_110 : decode cX9_first 110 = .ok (.iload_n 2, 1) := by decide +kernel
theorem dX9_first_111 : decode cX9_first 111 = .ok (.i2l, 1) := by decide +kernel
theorem dX9_first_112 : decode cX9_first 112 = .ok (.lmul, 1) := by decide +kernel
theorem dX9_first_113 : decode cX9_first 113 = .ok (.iload 4, 2) := by decide +kernel
theorem dX9_first_115 : decode cX9_first 115 = .ok (.i2l, 1) := by decide +kernel
theorem dX9_first_116 : decode cX9_first 116 = .ok (.lmul, 1) := by decide +kernel
theorem dX9_first_117 : decode cX9_first 117 = .ok (.lcmp, 1) := by decide +kernel
theorem dX9_first_118 : decode cX9_first 118 = .ok (.ifCond .le 6, 3) := by decide +kernel
theorem dX9_first_121 : decode cX9_first 121 = .ok (.iload 6, 2) := by decide +kernel
theorem dX9_first_123 : decode cX9_first 123 = .ok (.ireturn, 1) := by decide +kernel
theorem dX9_first_124 : decode cX9_first 124 = .ok (.iinc 6 1, 3) := by decide +kernel
theorem dX9_first_127 : decode cX9_first 127 = .ok (.goto (-55), 3) := by decide +kernel
theorem dX9_first_130 : decode cX9_first 130 = .ok (.bipush (-9), 2) := by decide +kernel
theorem dX9_first_132 : decode cX9_first 132 = .ok (.ireturn, 1) := by decide +kernel
theorem dX9_hears_0 : decode cX9_hears 0 = .ok (.iconst 0, 1) := by decide +kernel
theorem dX9_hears_1 : decode cX9_hears 1 = .ok (.istore_n 3, 1) := by decide +kernel
theorem dX9_hears_2 : decode cX9_hears 2 = .ok (.iconst 0, 1) := by decide +kernel
theorem dX9_hears_3 : decode cX9_hears 3 = .ok (.istore 4, 2) := by decide +kernel
theorem dX9_hears_5 : decode cX9_hears 5 = .ok (.iload 4, 2) := by decide +kernel
theorem dX9_hears_7 : decode cX9_hears 7 = .ok (.aload_n 0, 1) := by decide +kernel
theorem dX9_hears_8 : decode cX9_hears 8 = .ok (.getfield 76, 3) := by decide +kernel
theorem dX9_hears_11 : decode cX9_hears 11 = .ok (.if_icmp .ge 41, 3) := by decide +kernel
theorem dX9_hears_14 : decode cX9_hears 14 = .ok (.iload_n 3, 1) := by decide +kernel
theorem dX9_hears_15 : decode cX9_hears 15 = .ok (.ifCond .ne 25, 3) := by decide +kernel
theorem dX9_hears_18 : decode cX9_hears 18 = .ok (.aload_n 0, 1) := by decide +kernel
theorem dX9_hears_19 : decode cX9_hears 19 = .ok (.getfield 51, 3) := by decide +kernel
theorem dX9_hears_22 : decode cX9_hears 22 = .ok (.iload 4, 2) := by decide +kernel
theorem dX9_hears_24 : decode cX9_hears 24 = .ok (.iaload, 1) := by decide +kernel
theorem dX9_hears_25 : decode cX9_hears 25 = .ok (.iload_n 1, 1) := by decide +kernel
theorem dX9_hears_26 : decode cX9_hears 26 = .ok (.if_icmp .ne 18, 3) := by decide +kernel
theorem dX9_hears_29 : decode cX9_hears 29 = .ok (.aload_n 0, 1) := by decide +kernel
theorem dX9_hears_30 : decode cX9_hears 30 = .ok (.getfield 42, 3) := by decide +kernel
theorem dX9_hears_33 : decode cX9_hears 33 = .ok (.iload 4, 2) := by decide +kernel
theorem dX9_hears_35 : decode cX9_hears 35 = .ok (.iaload, 1) := by decide +kernel
theorem dX9_hears_36 : decode cX9_hears 36 = .ok (.iload_n 2, 1) := by decide +kernel
theorem dX9_hears_37 : decode cX9_hears 37 = .ok (.if_icmp .ne 7, 3) := by decide +kernel
theorem dX9_hears_40 : decode cX9_hears 40 = .ok (.iconst 1, 1) := by decide +kernel
theorem dX9_hears_41 : decode cX9_hears 41 = .ok (.goto 4, 3) := by decide +kernel
theorem dX9_hears_44 : decode cX9_hears 44 = .ok (.iconst 0, 1) := by decide +kernel
theorem dX9_hears_45 : decode cX9_hears 45 = .ok (.istore_n 3, 1) := by decide +kernel
theorem dX9_hears_46 : decode cX9_hears 46 = .ok (.iinc 4 1, 3) := by decide +kernel
theorem dX9_hears_49 : decode cX9_hears 49 = .ok (.goto (-44), 3) := by decide +kernel
theorem dX9_hears_52 : decode cX9_hears 52 = .ok (.iload_n 3, 1) := by decide +kernel
theorem dX9_hears_53 : decode cX9_hears 53 = .ok (.ireturn, 1) := by decide +kernel
theorem dX9_setHeap_0 : decode cX9_setHeap 0 = .ok (.iconst 0, 1) := by decide +kernel
theorem dX9_setHeap_1 : decode cX9_setHeap 1 = .ok (.istore_n 2, 1) := by decide +kernel
theorem dX9_setHeap_2 : decode cX9_setHeap 2 = .ok (.iconst 0, 1) := by decide +kernel
theorem dX9_setHeap_3 : decode cX9_setHeap 3 = .ok (.istore_n 3, 1) := by decide +kernel
theorem dX9_setHeap_4 : decode cX9_setHeap 4 = .ok (.iload_n 3, 1) := by decide +kernel
theorem dX9_setHeap_5 : decode cX9_setHeap 5 = .ok (.sipush 144, 3) := by decide +kernel
theorem dX9_setHeap_8 : decode cX9_setHeap 8 = .ok (.if_icmp .ge 285, 3) := by decide +kernel
theorem dX9_setHeap_11 : decode cX9_setHeap 11 = .ok (.aload_n 0, 1) := by decide +kernel
theorem dX9_setHeap_12 : decode cX9_setHeap 12 = .ok (.getfield 57, 3) := by decide +kernel
theorem dX9_setHeap_15 : decode cX9_setHeap 15 = .ok (.iload_n 3, 1) := by decide +kernel
theorem dX9_setHeap_16 : decode cX9_setHeap 16 = .ok (.ldc 112, 2) := by decide +kernel
theorem dX9_setHeap_18 : decode cX9_setHeap 18 = .ok (.iastore, 1) := by decide +kernel
theorem dX9_setHeap_19 : decode cX9_setHeap 19 = .ok (.aload_n 0, 1) := by decide +kernel
theorem dX9_setHeap_20 : decode cX9_setHeap 20 = .ok (.getfield 60, 3) := by decide +kernel
theorem dX9_setHeap_23 : decode cX9_setHeap 23 = .ok (.iload_n 3, 1) := by decide +kernel
theorem dX9_setHeap_24 : decode cX9_setHeap 24 = .ok (.ldc 113, 2) := by decide +kernel
theorem dX9_setHeap_26 : decode cX9_setHeap 26 = .ok (.iastore, 1) := by decide +kernel
theorem dX9_setHeap_27 : decode cX9_setHeap 27 = .ok (.iconst 0, 1) := by decide +kernel
theorem dX9_setHeap_28 : decode cX9_setHeap 28 = .ok (.istore 4, 2) := by decide +kernel
theorem dX9_setHeap_30 : decode cX9_setHeap 30 = .ok (.iload 4, 2) := by decide +kernel
theorem dX9_setHeap_32 : decode cX9_setHeap 32 = .ok (.aload_n 0, 1) := by decide +kernel
theorem dX9_setHeap_33 : decode cX9_setHeap 33 = .ok (.getfield 76, 3) := by decide +kernel
theorem dX9_setHeap_36 : decode cX9_setHeap 36 = .ok (.if_icmp .ge 123, 3) := by decide +kernel
theorem dX9_setHeap_39 : decode cX9_setHeap 39 = .ok (.aload_n 0, 1) := by decide +kernel
theorem dX9_setHeap_40 : decode cX9_setHeap 40 = .ok (.getfield 51, 3) := by decide +kernel
theorem dX9_setHeap_43 : decode cX9_setHeap 43 = .ok (.iload 4, 2) := by decide +kernel
theorem dX9_setHeap_45 : decode cX9_setHeap 45 = .ok (.iaload, 1) := by decide +kernel
theorem dX9_setHeap_46 : decode cX9_setHeap 46 = .ok (.iload_n 1, 1) := by decide +kernel
theorem dX9_setHeap_47 : decode cX9_setHeap 47 = .ok (.if_icmp .ne 106, 3) := by decide +kernel
theorem dX9_setHeap_50 : decode cX9_setHeap 50 = .ok (.aload_n 0, 1) := by decide +kernel
theorem dX9_setHeap_51 : decode cX9_setHeap 51 = .ok (.getfield 45, 3) := by decide +kernel
theorem dX9_setHeap_54 : decode cX9_setHeap 54 = .ok (.iload 4, 2) := by decide +kernel
theorem dX9_setHeap_56 : decode cX9_setHeap 56 = .ok (.iaload, 1) := by decide +kernel
theorem dX9_setHeap_57 : decode cX9_setHeap 57 = .ok (.aload_n 0, 1) := by decide +kernel
theorem dX9_setHeap_58 : decode cX9_setHeap 58 = .ok (.iload_n 3, 1) := by decide +kernel
theorem dX9_setHeap_59 : decode cX9_setHeap 59 = .ok (.aload_n 0, 1) := by decide +kernel
theorem dX9_setHeap_60 : decode cX9_setHeap 60 = .ok (.getfield 20, 3) := by decide +kernel
theorem dX9_setHeap_63 : decode cX9_setHeap 63 = .ok (.aload_n 0, 1) := by decide +kernel
theorem dX9_setHeap_64 : decode cX9_setHeap 64 = .ok (.getfield 42, 3) := by decide +kernel
theorem dX9_setHeap_67 : decode cX9_setHeap 67 = .ok (.iload 4, 2) := by decide +kernel
theorem dX9_setHeap_69 : decode cX9_setHeap 69 = .ok (.iaload, 1) := by decide +kernel
theorem dX9_setHeap_70 : decode cX9_setHeap 70 = .ok (.iaload, 1) := by decide +kernel
theorem dX9_setHeap_71 : decode cX9_setHeap 71 = .ok (.invokevirtual 92, 3) := by decide +kernel
theorem dX9_setHeap_74 : decode cX9_setHeap 74 = .ok (.isub, 1) := by decide +kernel
theorem dX9_setHeap_75 : decode cX9_setHeap 75 = .ok (.istore 5, 2) := by decide +kernel
theorem dX9_setHeap_77 : decode cX9_setHeap 77 = .ok (.aload_n 0, 1) := by decide +kernel
theorem dX9_setHeap_78 : decode cX9_setHeap 78 = .ok (.getfield 57, 3) := by decide +kernel
theorem dX9_setHeap_81 : decode cX9_setHeap 81 = .ok (.iload_n 3, 1) := by decide +kernel
theorem dX9_setHeap_82 : decode cX9_setHeap 82 = .ok (.iload 5, 2) := by decide +kernel
theorem dX9_setHeap_84 : decode cX9_setHeap 84 = .ok (.aload_n 0, 1) := by decide +kernel
theorem dX9_setHeap_85 : decode cX9_setHeap 85 = .ok (.getfield 17, 3) := by decide +kernel
theorem dX9_setHeap_88 : decode cX9_setHeap 88 = .ok (.isub, 1) := by decide +kernel
theorem dX9_setHeap_89 : decode cX9_setHeap 89 = .ok (.aload_n 0, 1) := by decide +kernel
theorem dX9_setHeap_90 : decode cX9_setHeap 90 = .ok (.getfield 57, 3) := by decide +kernel
theorem dX9_setHeap_93 : decode cX9_setHeap 93 = .ok (.iload_n 3, 1) := by decide +kernel
theorem dX9_setHeap_94 : decode cX9_setHeap 94 = .ok (.iaload, 1) := by decide +kernel
theorem dX9_setHeap_95 : decode cX9_setHeap 95 = .ok (.if_icmp .le 13, 3) := by decide +kernel
theorem dX9_setHeap_98 : decode cX9_setHeap 98 = .ok (.iload 5, 2) := by decide +kernel
theorem dX9_setHeap_100 : decode cX9_setHeap 100 = .ok (.aload_n 0, 1) := by decide +kernel
theorem dX9_setHeap_101 : decode cX9_setHeap 101 = .ok (.getfield 17, 3) := by decide +kernel
theorem dX9_setHeap_104 : decode cX9_setHeap 104 = .ok (.isub, 1) := by decide +kernel
theorem dX9_setHeap_105 : decode cX9_setHeap 105 = .ok (.goto 9, 3) := by decide +kernel
theorem dX9_setHeap_108 : decode cX9_setHeap 108 = .ok (.aload_n 0, 1) := by decide +kernel
theorem dX9_setHeap_109 : decode cX9_setHeap 109 = .ok (.getfield 57, 3) := by decide +kernel
theorem dX9_setHeap_112 : decode cX9_setHeap 112 = .ok (.iload_n 3, 1) := by decide +kernel
theorem dX9_setHeap_113 : decode cX9_setHeap 113 = .ok (.iaload, 1) := by decide +kernel
theorem dX9_setHeap_114 : decode cX9_setHeap 114 = .ok (.iastore, 1) := by decide +kernel
theorem dX9_setHeap_115 : decode cX9_setHeap 115 = .ok (.aload_n 0, 1) := by decide +kernel
theorem dX9_setHeap_116 : decode cX9_setHeap 116 = .ok (.getfield 60, 3) := by decide +kernel
theorem dX9_setHeap_119 : decode cX9_setHeap 119 = .ok (.iload_n 3, 1) := by decide +kernel
theorem dX9_setHeap_120 : decode cX9_setHeap 120 = .ok (.iload 5, 2) := by decide +kernel
theorem dX9_setHeap_122 : decode cX9_setHeap 122 = .ok (.aload_n 0, 1) := by decide +kernel
theorem dX9_setHeap_123 : decode cX9_setHeap 123 = .ok (.getfield 17, 3) := by decide +kernel
theorem dX9_setHeap_126 : decode cX9_setHeap 126 = .ok (.iadd, 1) := by decide +kernel
theorem dX9_setHeap_127 : decode cX9_setHeap 127 = .ok (.aload_n 0, 1) := by decide +kernel
theorem dX9_setHeap_128 : decode cX9_setHeap 128 = .ok (.getfield 60, 3) := by decide +kernel
theorem dX9_setHeap_131 : decode cX9_setHeap 131 = .ok (.iload_n 3, 1) := by decide +kernel
theorem dX9_setHeap_132 : decode cX9_setHeap 132 = .ok (.iaload, 1) := by decide +kernel
theorem dX9_setHeap_133 : decode cX9_setHeap 133 = .ok (.if_icmp .ge 13, 3) := by decide +kernel
theorem dX9_setHeap_136 : decode cX9_setHeap 136 = .ok (.iload 5, 2) := by decide +kernel
theorem dX9_setHeap_138 : decode cX9_setHeap 138 = .ok (.aload_n 0, 1) := by decide +kernel
theorem dX9_setHeap_139 : decode cX9_setHeap 139 = .ok (.getfield 17, 3) := by decide +kernel
theorem dX9_setHeap_142 : decode cX9_setHeap 142 = .ok (.iadd, 1) := by decide +kernel
theorem dX9_setHeap_143 : decode cX9_setHeap 143 = .ok (.goto 9, 3) := by decide +kernel
theorem dX9_setHeap_146 : decode cX9_setHeap 146 = .ok (.aload_n 0, 1) := by decide +kernel
theorem dX9_setHeap_147 : decode cX9_setHeap 147 = .ok (.getfield 60, 3) := by decide +kernel
theorem dX9_setHeap_150 : decode cX9_setHeap 150 = .ok (.iload_n 3, 1) := by decide +kernel
theorem dX9_setHeap_151 : decode cX9_setHeap 151 = .ok (.iaload, 1) := by decide +kernel
theorem dX9_setHeap_152 : decode cX9_setHeap 152 = .ok (.iastore, 1) := by decide +kernel
theorem dX9_setHeap_153 : decode cX9_setHeap 153 = .ok (.iinc 4 1, 3) := by decide +kernel
theorem dX9_setHeap_156 : decode cX9_setHeap 156 = .ok (.goto (-126), 3) := by decide +kernel
theorem dX9_setHeap_159 : decode cX9_setHeap 159 = .ok (.iconst 0, 1) := by decide +kernel
theorem dX9_setHeap_160 : decode cX9_setHeap 160 = .ok (.istore 4, 2) := by decide +kernel
theorem dX9_setHeap_162 : decode cX9_setHeap 162 = .ok (.iload 4, 2) := by decide +kernel
theorem dX9_setHeap_164 : decode cX9_setHeap 164 = .ok (.aload_n 0, 1) := by decide +kernel
theorem dX9_setHeap_165 : decode cX9_setHeap 165 = .ok (.getfield 83, 3) := by decide +kernel
theorem dX9_setHeap_168 : decode cX9_setHeap 168 = .ok (.if_icmp .ge 96, 3) := by decide +kernel
theorem dX9_setHeap_171 : decode cX9_setHeap 171 = .ok (.aload_n 0, 1) := by decide +kernel
theorem dX9_setHeap_172 : decode cX9_setHeap 172 = .ok (.getfield 57, 3) := by decide +kernel
theorem dX9_setHeap_175 : decode cX9_setHeap 175 = .ok (.iload_n 3, 1) := by decide +kernel
theorem dX9_setHeap_176 : decode cX9_setHeap 176 = .ok (.iaload, 1) := by decide +kernel
theorem dX9_setHeap_177 : decode cX9_setHeap 177 = .ok (.aload_n 0, 1) := by decide +kernel
theorem dX9_setHeap_178 : decode cX9_setHeap 178 = .ok (.getfield 60, 3) := by decide +kernel
theorem dX9_setHeap_181 : decode cX9_setHeap 181 = .ok (.iload_n 3, 1) := by decide +kernel
theorem dX9_setHeap_182 : decode cX9_setHeap 182 = .ok (.iaload, 1) := by decide +kernel
theorem dX9_setHeap_183 : decode cX9_setHeap 183 = .ok (.if_icmp .gt 81, 3) := by decide +kernel
theorem dX9_setHeap_186 : decode cX9_setHeap 186 = .ok (.aload_n 0, 1) := by decide +kernel
theorem dX9_setHeap_187 : decode cX9_setHeap 187 = .ok (.getfield 97, 3) := by decide +kernel
theorem dX9_setHeap_190 : decode cX9_setHeap 190 = .ok (.aload_n 0, 1) := by decide +kernel
theorem dX9_setHeap_191 : decode cX9_setHeap 191 = .ok (.iload_n 3, 1) := by decide +kernel
theorem dX9_setHeap_192 : decode cX9_setHeap 192 = .ok (.aload_n 0, 1) := by decide +kernel
theorem dX9_setHeap_193 : decode cX9_setHeap 193 = .ok (.getfield 20, 3) := by decide +kernel
theorem dX9_setHeap_196 : decode cX9_setHeap 196 = .ok (.iload 4, 2) := by decide +kernel
theorem dX9_setHeap_198 : decode cX9_setHeap 198 = .ok (.iaload, 1) := by decide +kernel
theorem dX9_setHeap_199 : decode cX9_setHeap 199 = .ok (.invokevirtual 92, 3) := by decide +kernel
theorem dX9_setHeap_202 : decode cX9_setHeap 202 = .ok (.isub, 1) := by decide +kernel
theorem dX9_setHeap_203 : decode cX9_setHeap 203 = .ok (.aload_n 0, 1) := by decide +kernel
theorem dX9_setHeap_204 : decode cX9_setHeap 204 = .ok (.getfield 17, 3) := by decide +kernel
theorem dX9_setHeap_207 : decode cX9_setHeap 207 = .ok (.isub, 1) := by decide +kernel
theorem dX9_setHeap_208 : decode cX9_setHeap 208 = .ok (.istore 5, 2) := by decide +kernel
theorem dX9_setHeap_210 : decode cX9_setHeap 210 = .ok (.aload_n 0, 1) := by decide +kernel
theorem dX9_setHeap_211 : decode cX9_setHeap 211 = .ok (.getfield 57, 3) := by decide +kernel
theorem dX9_setHeap_214 : decode cX9_setHeap 214 = .ok (.iload_n 3, 1) := by decide +kernel
theorem dX9_setHeap_215 : decode cX9_setHeap 215 = .ok (.aload_n 0, 1) := by decide +kernel
theorem dX9_setHeap_216 : decode cX9_setHeap 216 = .ok (.getfield 23, 3) := by decide +kernel
theorem dX9_setHeap_219 : decode cX9_setHeap 219 = .ok (.iload 4, 2) := by decide +kernel
theorem dX9_setHeap_221 : decode cX9_setHeap 221 = .ok (.baload, 1) := by decide +kernel
theorem dX9_setHeap_222 : decode cX9_setHeap 222 = .ok (.ifCond .ne 29, 3) := by decide +kernel
theorem dX9_setHeap_225 : decode cX9_setHeap 225 = .ok (.iload 5, 2) := by decide +kernel
theorem dX9_setHeap_227 : decode cX9_setHeap 227 = .ok (.aload_n 0, 1) := by decide +kernel
theorem dX9_setHeap_228 : decode cX9_setHeap 228 = .ok (.getfield 57, 3) := by decide +kernel
theorem dX9_setHeap_231 : decode cX9_setHeap 231 = .ok (.iload_n 3, 1) := by decide +kernel
theorem dX9_setHeap_232 : decode cX9_setHeap 232 = .ok (.iaload, 1) := by decide +kernel
theorem dX9_setHeap_233 : decode cX9_setHeap 233 = .ok (.if_icmp .le 18, 3) := by decide +kernel
theorem dX9_setHeap_236 : decode cX9_setHeap 236 = .ok (.aload_n 0, 1) := by decide +kernel
theorem dX9_setHeap_237 : decode cX9_setHeap 237 = .ok (.iload_n 1, 1) := by decide +kernel
theorem dX9_setHeap_238 : decode cX9_setHeap 238 = .ok (.iload 4, 2) := by decide +kernel
theorem dX9_setHeap_240 : decode cX9_setHeap 240 = .ok (.invokevirtual 114, 3) := by decide +kernel
theorem dX9_setHeap_243 : decode cX9_setHeap 243 = .ok (.ifCond .ne 8, 3) := by decide +kernel
theorem dX9_setHeap_246 : decode cX9_setHeap 246 = .ok (.iload 5, 2) := by decide +kernel
theorem dX9_setHeap_248 : decode cX9_setHeap 248 = .ok (.goto 9, 3) := by decide +kernel
theorem dX9_setHeap_251 : decode cX9_setHeap 251 = .ok (.aload_n 0, 1) := by decide +kernel
theorem dX9_setHeap_252 : decode cX9_setHeap 252 = .ok (.getfield 57, 3) := by decide +kernel
theorem dX9_setHeap_255 : decode cX9_setHeap 255 = .ok (.iload_n 3, 1) := by decide +kernel
theorem dX9_setHeap_256 : decode cX9_setHeap 256 = .ok (.iaload, 1) := by decide +kernel
theorem dX9_setHeap_257 : decode cX9_setHeap 257 = .ok (.iastore, 1) := by decide +kernel
theorem dX9_setHeap_258 : decode cX9_setHeap 258 = .ok (.iinc 4 1, 3) := by decide +kernel
theorem dX9_setHeap_261 : decode cX9_setHeap 261 = .ok (.goto (-99), 3) := by decide +kernel
theorem dX9_setHeap_264 : decode cX9_setHeap 264 = .ok (.iload_n 2, 1) := by decide +kernel
theorem dX9_setHeap_265 : decode cX9_setHeap 265 = .ok (.aload_n 0, 1) := by decide +kernel
theorem dX9_setHeap_266 : decode cX9_setHeap 266 = .ok (.getfield 57, 3) := by decide +kernel
theorem dX9_setHeap_269 : decode cX9_setHeap 269 = .ok (.iload_n 3, 1) := by decide +kernel
theorem dX9_setHeap_270 : decode cX9_setHeap 270 = .ok (.iaload, 1) := by decide +kernel
theorem dX9_setHeap_271 : decode cX9_setHeap 271 = .ok (.aload_n 0, 1) := by decide +kernel
theorem dX9_setHeap_272 : decode cX9_setHeap 272 = .ok (.getfield 60, 3) := by decide +kernel
theorem dX9_setHeap_275 : decode cX9_setHeap 275 = .ok (.iload_n 3, 1) := by decide +kernel
theorem dX9_setHeap_276 : decode cX9_setHeap 276 = .ok (.iaload, 1) := by decide +kernel
theorem dX9_setHeap_277 : decode cX9_setHeap 277 = .ok (.if_icmp .gt 7, 3) := by decide +kernel
theorem dX9_setHeap_280 : decode cX9_setHeap 280 = .ok (.iconst 1, 1) := by decide +kernel
theorem dX9_setHeap_281 : decode cX9_setHeap 281 = .ok (.goto 4, 3) := by decide +kernel
theorem dX9_setHeap_284 : decode cX9_setHeap 284 = .ok (.iconst 0, 1) := by decide +kernel
theorem dX9_setHeap_285 : decode cX9_setHeap 285 = .ok (.iadd, 1) := by decide +kernel
theorem dX9_setHeap_286 : decode cX9_setHeap 286 = .ok (.istore_n 2, 1) := by decide +kernel
theorem dX9_setHeap_287 : decode cX9_setHeap 287 = .ok (.iinc 3 1, 3) := by decide +kernel
theorem dX9_setHeap_290 : decode cX9_setHeap 290 = .ok (.goto (-286), 3) := by decide +kernel
theorem dX9_setHeap_293 : decode cX9_setHeap 293 = .ok (.iload_n 2, 1) := by decide +kernel
theorem dX9_setHeap_294 : decode cX9_setHeap 294 = .ok (.ireturn, 1) := by decide +kernel
theorem dX9_has_0 : decode cX9_has 0 = .ok (.aload_n 0, 1) := by decide +kernel
theorem dX9_has_1 : decode cX9_has 1 = .ok (.getfield 57, 3) := by decide +kernel
theorem dX9_has_4 : decode cX9_has 4 = .ok (.iload_n 1, 1) := by decide +kernel
theorem dX9_has_5 : decode cX9_has 5 = .ok (.iaload, 1) := by decide +kernel
theorem dX9_has_6 : decode cX9_has 6 = .ok (.aload_n 0, 1) := by decide +kernel
theorem dX9_has_7 : decode cX9_has 7 = .ok (.getfield 60, 3) := by decide +kernel
theorem dX9_has_10 : decode cX9_has 10 = .ok (.iload_n 1, 1) := by decide +kernel
theorem dX9_has_11 : decode cX9_has 11 = .ok (.iaload, 1) := by decide +kernel
theorem dX9_has_12 : decode cX9_has 12 = .ok (.if_icmp .gt 7, 3) := by decide +kernel
theorem dX9_has_15 : decode cX9_has 15 = .ok (.iconst 1, 1) := by decide +kernel
theorem dX9_has_16 : decode cX9_has 16 = .ok (.goto 4, 3) := by decide +kernel
theorem dX9_has_19 : decode cX9_has 19 = .ok (.iconst 0, 1) := by decide +kernel
theorem dX9_has_20 : decode cX9_has 20 = .ok (.ireturn, 1) := by decide +kernel
theorem dX9_pick_0 : decode cX9_pick 0 = .ok (.aload_n 0, 1) := by decide +kernel
theorem dX9_pick_1 : decode cX9_pick 1 = .ok (.iload_n 1, 1) := by decide +kernel
theorem dX9_pick_2 : decode cX9_pick 2 = .ok (.invokevirtual 89, 3) := by decide +kernel
theorem dX9_pick_5 : decode cX9_pick 5 = .ok (.ifCond .eq 25, 3) := by decide +kernel
theorem dX9_pick_8 : decode cX9_pick 8 = .ok (.iload_n 2, 1) := by decide +kernel
theorem dX9_pick_9 : decode cX9_pick 9 = .ok (.iconst 0, 1) := by decide +kernel
theorem dX9_pick_10 : decode cX9_pick 10 = .ok (.aload_n 0, 1) := by decide +kernel
theorem dX9_pick_11 : decode cX9_pick 11 = .ok (.getfield 97, 3) := by decide +kernel
theorem dX9_pick_14 : decode cX9_pick 14 = .ok (.invokestatic 72, 3) := by decide +kernel
theorem dX9_pick_17 : decode cX9_pick 17 = .ok (.ifCond .eq 13, 3) := by decide +kernel
theorem dX9_pick_20 : decode cX9_pick 20 = .ok (.iload_n 3, 1) := by decide +kernel
theorem dX9_pick_21 : decode cX9_pick 21 = .ok (.iconst 1, 1) := by decide +kernel
theorem dX9_pick_22 : decode cX9_pick 22 = .ok (.ldc 118, 2) := by decide +kernel
theorem dX9_pick_24 : decode cX9_pick 24 = .ok (.invokestatic 72, 3) := by decide +kernel
theorem dX9_pick_27 : decode cX9_pick 27 = .ok (.ifCond .ne 5, 3) := by decide +kernel
theorem dX9_pick_30 : decode cX9_pick 30 = .ok (.iconst (-1), 1) := by decide +kernel
theorem dX9_pick_31 : decode cX9_pick 31 = .ok (.ireturn, 1) := by decide +kernel
theorem dX9_pick_32 : decode cX9_pick 32 = .ok (.aload_n 0, 1) := by decide +kernel
theorem dX9_pick_33 : decode cX9_pick 33 = .ok (.getfield 76, 3) := by decide +kernel
theorem dX9_pick_36 : decode cX9_pick 36 = .ok (.bipush 60, 2) := by decide +kernel
theorem dX9_pick_38 : decode cX9_pick 38 = .ok (.if_icmp .ne 6, 3) := by decide +kernel
theorem dX9_pick_41 : decode cX9_pick 41 = .ok (.bipush (-2), 2) := by decide +kernel
theorem dX9_pick_43 : decode cX9_pick 43 = .ok (.ireturn, 1) := by decide +kernel
theorem dX9_pick_44 : decode cX9_pick 44 = .ok (.bipush (-9), 2) := by decide +kernel
theorem dX9_pick_46 : decode cX9_pick 46 = .ok (.istore 4, 2) := by decide +kernel
theorem dX9_pick_48 : decode cX9_pick 48 = .ok (.iconst 0, 1) := by decide +kernel
theorem dX9_pick_49 : decode cX9_pick 49 = .ok (.istore 5, 2) := by decide +kernel
theorem dX9_pick_51 : decode cX9_pick 51 = .ok (.iload 5, 2) := by decide +kernel
theorem dX9_pick_53 : decode cX9_pick 53 = .ok (.aload_n 0, 1) := by decide +kernel
theorem dX9_pick_54 : decode cX9_pick 54 = .ok (.getfield 119, 3) := by decide +kernel
theorem dX9_pick_57 : decode cX9_pick 57 = .ok (.if_icmp .ge 114, 3) := by decide +kernel
theorem dX9_pick_60 : decode cX9_pick 60 = .ok (.iload 4, 2) := by decide +kernel
theorem dX9_pick_62 : decode cX9_pick 62 = .ok (.ifCond .ge 109, 3) := by decide +kernel
theorem dX9_pick_65 : decode cX9_pick 65 = .ok (.aload_n 0, 1) := by decide +kernel
theorem dX9_pick_66 : decode cX9_pick 66 = .ok (.iload 5, 2) := by decide +kernel
theorem dX9_pick_68 : decode cX9_pick 68 = .ok (.iload_n 1, 1) := by decide +kernel
theorem dX9_pick_69 : decode cX9_pick 69 = .ok (.invokevirtual 114, 3) := by decide +kernel
theorem dX9_pick_72 : decode cX9_pick 72 = .ok (.ifCond .ne 16, 3) := by decide +kernel
theorem dX9_pick_75 : decode cX9_pick 75 = .ok (.aload_n 0, 1) := by decide +kernel
theorem dX9_pick_76 : decode cX9_pick 76 = .ok (.iload 5, 2) := by decide +kernel
theorem dX9_pick_78 : decode cX9_pick 78 = .ok (.invokevirtual 122, 3) := by decide +kernel
theorem dX9_pick_81 : decode cX9_pick 81 = .ok (.ifCond .le 7, 3) := by decide +kernel
theorem dX9_pick_84 : decode cX9_pick 84 = .ok (.iconst 1, 1) := by decide +kernel
theorem dX9_pick_85 : decode cX9_pick 85 = .ok (.goto 4, 3) := by decide +kernel
theorem dX9_pick_88 : decode cX9_pick 88 = .ok (.iconst 0, 1) := by decide +kernel
theorem dX9_pick_89 : decode cX9_pick 89 = .ok (.istore 6, 2) := by decide +kernel
theorem dX9_pick_91 : decode cX9_pick 91 = .ok (.aload_n 0, 1) := by decide +kernel
theorem dX9_pick_92 : decode cX9_pick 92 = .ok (.getfield 42, 3) := by decide +kernel
theorem dX9_pick_95 : decode cX9_pick 95 = .ok (.aload_n 0, 1) := by decide +kernel
theorem dX9_pick_96 : decode cX9_pick 96 = .ok (.getfield 76, 3) := by decide +kernel
theorem dX9_pick_99 : decode cX9_pick 99 = .ok (.iload_n 1, 1) := by decide +kernel
theorem dX9_pick_100 : decode cX9_pick 100 = .ok (.iastore, 1) := by decide +kernel
theorem dX9_pick_101 : decode cX9_pick 101 = .ok (.aload_n 0, 1) := by decide +kernel
theorem dX9_pick_102 : decode cX9_pick 102 = .ok (.getfield 45, 3) := by decide +kernel
theorem dX9_pick_105 : decode cX9_pick 105 = .ok (.aload_n 0, 1) := by decide +kernel
theorem dX9_pick_106 : decode cX9_pick 106 = .ok (.getfield 76, 3) := by decide +kernel
theorem dX9_pick_109 : decode cX9_pick 109 = .ok (.iload_n 2, 1) := by decide +kernel
theorem dX9_pick_110 : decode cX9_pick 110 = .ok (.iastore, 1) := by decide +kernel
theorem dX9_pick_111 : decode cX9_pick 111 = .ok (.aload_n 0, 1) := by decide +kernel
theorem dX9_pick_112 : decode cX9_pick 112 = .ok (.getfield 51, 3) := by decide +kernel
theorem dX9_pick_115 : decode cX9_pick 115 = .ok (.aload_n 0, 1) := by decide +kernel
theorem dX9_pick_116 : decode cX9_pick 116 = .ok (.getfield 76, 3) := by decide +kernel
theorem dX9_pick_119 : decode cX9_pick 119 = .ok (.iload 5, 2) := by decide +kernel
theorem dX9_pick_121 : decode cX9_pick 121 = .ok (.iastore, 1) := by decide +kernel
theorem dX9_pick_122 : decode cX9_pick 122 = .ok (.aload_n 0, 1) := by decide +kernel
theorem dX9_pick_123 : decode cX9_pick 123 = .ok (.dup, 1) := by decide +kernel
theorem dX9_pick_124 : decode cX9_pick 124 = .ok (.getfield 76, 3) := by decide +kernel
theorem dX9_pick_127 : decode cX9_pick 127 = .ok (.iconst 1, 1) := by decide +kernel
theorem dX9_pick_128 : decode cX9_pick 128 = .ok (.iadd, 1) := by decide +kernel
theorem dX9_pick_129 : decode cX9_pick 129 = .ok (.putfield 76, 3) := by decide +kernel
theorem dX9_pick_132 : decode cX9_pick 132 = .ok (.iload 6, 2) := by decide +kernel
theorem dX9_pick_134 : decode cX9_pick 134 = .ok (.ifCond .eq 17, 3) := by decide +kernel
theorem dX9_pick_137 : decode cX9_pick 137 = .ok (.aload_n 0, 1) := by decide +kernel
theorem dX9_pick_138 : decode cX9_pick 138 = .ok (.iload 5, 2) := by decide +kernel
theorem dX9_pick_140 : decode cX9_pick 140 = .ok (.invokevirtual 122, 3) := by decide +kernel
theorem dX9_pick_143 : decode cX9_pick 143 = .ok (.ifCond .le 8, 3) := by decide +kernel
theorem dX9_pick_146 : decode cX9_pick 146 = .ok (.iload 5, 2) := by decide +kernel
theorem dX9_pick_148 : decode cX9_pick 148 = .ok (.goto 5, 3) := by decide +kernel
theorem dX9_pick_151 : decode cX9_pick 151 = .ok (.bipush (-9), 2) := by decide +kernel
theorem dX9_pick_153 : decode cX9_pick 153 = .ok (.istore 4, 2) := by decide +kernel
theorem dX9_pick_155 : decode cX9_pick 155 = .ok (.aload_n 0, 1) := by decide +kernel
theorem dX9_pick_156 : decode cX9_pick 156 = .ok (.dup, 1) := by decide +kernel
theorem dX9_pick_157 : decode cX9_pick 157 = .ok (.getfield 76, 3) := by decide +kernel
theorem dX9_pick_160 : decode cX9_pick 160 = .ok (.iconst 1, 1) := by decide +kernel
theorem dX9_pick_161 : decode cX9_pick 161 = .ok (.isub, 1) := by decide +kernel
theorem dX9_pick_162 : decode cX9_pick 162 = .ok (.putfield 76, 3) := by decide +kernel
theorem dX9_pick_165 : decode cX9_pick 165 = .ok (.iinc 5 1, 3) := by decide +kernel
theorem dX9_pick_168 : decode cX9_pick 168 = .ok (.goto (-117), 3) := by decide +kernel
theorem dX9_pick_171 : decode cX9_pick 171 = .ok (.iload 4, 2) := by decide +kernel
theorem dX9_pick_173 : decode cX9_pick 173 = .ok (.istore 5, 2) := by decide +kernel
theorem dX9_pick_175 : decode cX9_pick 175 = .ok (.iload 4, 2) := by decide +kernel
theorem dX9_pick_177 : decode cX9_pick 177 = .ok (.ifCond .ge 45, 3) := by decide +kernel
theorem dX9_pick_180 : decode cX9_pick 180 = .ok (.aload_n 0, 1) := by decide +kernel
theorem dX9_pick_181 : decode cX9_pick 181 = .ok (.getfield 119, 3) := by decide +kernel
theorem dX9_pick_184 : decode cX9_pick 184 = .ok (.iconst 5, 1) := by decide +kernel
theorem dX9_pick_185 : decode cX9_pick 185 = .ok (.if_icmp .ge 37, 3) := by decide +kernel
theorem dX9_pick_188 : decode cX9_pick 188 = .ok (.aload_n 0, 1) := by decide +kernel
theorem dX9_pick_189 : decode cX9_pick 189 = .ok (.getfield 119, 3) := by decide +kernel
theorem dX9_pick_192 : decode cX9_pick 192 = .ok (.istore 4, 2) := by decide +kernel
theorem dX9_pick_194 : decode cX9_pick 194 = .ok (.aload_n 0, 1) := by decide +kernel
theorem dX9_pick_195 : decode cX9_pick 195 = .ok (.getfield 54, 3) := by decide +kernel
theorem dX9_pick_198 : decode cX9_pick 198 = .ok (.iload 4, 2) := by decide +kernel
theorem dX9_pick_200 : decode cX9_pick 200 = .ok (.aload_n 0, 1) := by decide +kernel
theorem dX9_pick_201 : decode cX9_pick 201 = .ok (.getfield 76, 3) := by decide +kernel
theorem dX9_pick_204 : decode cX9_pick 204 = .ok (.iastore, 1) := by decide +kernel
theorem dX9_pick_205 : decode cX9_pick 205 = .ok (.aload_n 0, 1) := by decide +kernel
theorem dX9_pick_206 : decode cX9_pick 206 = .ok (.dup, 1) := by decide +kernel
theorem dX9_pick_207 : decode cX9_pick 207 = .ok (.getfield 119, 3) := by decide +kernel
theorem dX9_pick_210 : decode cX9_pick 210 = .ok (.iconst 1, 1) := by decide +kernel
theorem dX9_pick_211 : decode cX9_pick 211 = .ok (.iadd, 1) := by decide +kernel
theorem dX9_pick_212 : decode cX9_pick 212 = .ok (.putfield 119, 3) := by decide +kernel
theorem dX9_pick_215 : decode cX9_pick 215 = .ok (.bipush 10, 2) := by decide +kernel
theorem dX9_pick_217 : decode cX9_pick 217 = .ok (.iload 4, 2) := by decide +kernel
theorem dX9_pick_219 : decode cX9_pick 219 = .ok (.iadd, 1) := by decide +kernel
theorem dX9_pick_220 : decode cX9_pick 220 = .ok (.istore 5, 2) := by decide +kernel
theorem dX9_pick_222 : decode cX9_pick 222 = .ok (.aload_n 0, 1) := by decide +kernel
theorem dX9_pick_223 : decode cX9_pick 223 = .ok (.getfield 42, 3) := by decide +kernel
theorem dX9_pick_226 : decode cX9_pick 226 = .ok (.aload_n 0, 1) := by decide +kernel
theorem dX9_pick_227 : decode cX9_pick 227 = .ok (.getfield 76, 3) := by decide +kernel
theorem dX9_pick_230 : decode cX9_pick 230 = .ok (.iload_n 1, 1) := by decide +kernel
theorem dX9_pick_231 : decode cX9_pick 231 = .ok (.iastore, 1) := by decide +kernel
theorem dX9_pick_232 : decode cX9_pick 232 = .ok (.aload_n 0, 1) := by decide +kernel
theorem dX9_pick_233 : decode cX9_pick 233 = .ok (.getfield 45, 3) := by decide +kernel
theorem dX9_pick_236 : decode cX9_pick 236 = .ok (.aload_n 0, 1) := by decide +kernel
theorem dX9_pick_237 : decode cX9_pick 237 = .ok (.getfield 76, 3) := by decide +kernel
theorem dX9_pick_240 : decode cX9_pick 240 = .ok (.iload_n 2, 1) := by decide +kernel
theorem dX9_pick_241 : decode cX9_pick 241 = .ok (.iastore, 1) := by decide +kernel
theorem dX9_pick_242 : decode cX9_pick 242 = .ok (.aload_n 0, 1) := by decide +kernel
theorem dX9_pick_243 : decode cX9_pick 243 = .ok (.getfield 48, 3) := by decide +kernel
theorem dX9_pick_246 : decode cX9_pick 246 = .ok (.aload_n 0, 1) := by decide +kernel
theorem dX9_pick_247 : decode cX9_pick 247 = .ok (.getfield 76, 3) := by decide +kernel
theorem dX9_pick_250 : decode cX9_pick 250 = .ok (.iload_n 3, 1) := by decide +kernel
theorem dX9_pick_251 : decode cX9_pick 251 = .ok (.iastore, 1) := by decide +kernel
theorem dX9_pick_252 : decode cX9_pick 252 = .ok (.aload_n 0, 1) := by decide +kernel
theorem dX9_pick_253 : decode cX9_pick 253 = .ok (.getfield 51, 3) := by decide +kernel
theorem dX9_pick_256 : decode cX9_pick 256 = .ok (.aload_n 0, 1) := by decide +kernel
theorem dX9_pick_257 : decode cX9_pick 257 = .ok (.getfield 76, 3) := by decide +kernel
theorem dX9_pick_260 : decode cX9_pick 260 = .ok (.iload 4, 2) := by decide +kernel
theorem dX9_pick_262 : decode cX9_pick 262 = .ok (.iastore, 1) := by decide +kernel
theorem dX9_pick_263 : decode cX9_pick 263 = .ok (.aload_n 0, 1) := by decide +kernel
theorem dX9_pick_264 : decode cX9_pick 264 = .ok (.dup, 1) := by decide +kernel
theorem dX9_pick_265 : decode cX9_pick 265 = .ok (.getfield 76, 3) := by decide +kernel
theorem dX9_pick_268 : decode cX9_pick 268 = .ok (.iconst 1, 1) := by decide +kernel
theorem dX9_pick_269 : decode cX9_pick 269 = .ok (.iadd, 1) := by decide +kernel
theorem dX9_pick_270 : decode cX9_pick 270 = .ok (.putfield 76, 3) := by decide +kernel
theorem dX9_pick_273 : decode cX9_pick 273 = .ok (.iload 5, 2) := by decide +kernel
theorem dX9_pick_275 : decode cX9_pick 275 = .ok (.ireturn, 1) := by decide +kernel
theorem dX9_isPick_0 : decode cX9_isPick 0 = .ok (.iload_n 1, 1) := by decide +kernel
theorem dX9_isPick_1 : decode cX9_isPick 1 = .ok (.iconst 0, 1) := by decide +kernel
theorem dX9_isPick_2 : decode cX9_isPick 2 = .ok (.aload_n 0, 1) := by decide +kernel
theorem dX9_isPick_3 : decode cX9_isPick 3 = .ok (.getfield 76, 3) := by decide +kernel
theorem dX9_isPick_6 : decode cX9_isPick 6 = .ok (.iconst 1, 1) := by decide +kernel
theorem dX9_isPick_7 : decode cX9_isPick 7 = .ok (.isub, 1) := by decide +kernel
theorem dX9_isPick_8 : decode cX9_isPick 8 = .ok (.invokestatic 72, 3) := by decide +kernel
theorem dX9_isPick_11 : decode cX9_isPick 11 = .ok (.ireturn, 1) := by decide +kernel
theorem dX9_kindOf_0 : decode cX9_kindOf 0 = .ok (.aload_n 0, 1) := by decide +kernel
theorem dX9_kindOf_1 : decode cX9_kindOf 1 = .ok (.getfield 51, 3) := by decide +kernel
theorem dX9_kindOf_4 : decode cX9_kindOf 4 = .ok (.iload_n 1, 1) := by decide +kernel
theorem dX9_kindOf_5 : decode cX9_kindOf 5 = .ok (.iaload, 1) := by decide +kernel
theorem dX9_kindOf_6 : decode cX9_kindOf 6 = .ok (.ifCond .ge 7, 3) := by decide +kernel
theorem dX9_kindOf_9 : decode cX9_kindOf 9 = .ok (.iconst 3, 1) := by decide +kernel
theorem dX9_kindOf_10 : decode cX9_kindOf 10 = .ok (.goto 23, 3) := by decide +kernel
theorem dX9_kindOf_13 : decode cX9_kindOf 13 = .ok (.aload_n 0, 1) := by decide +kernel
theorem dX9_kindOf_14 : decode cX9_kindOf 14 = .ok (.getfield 54, 3) := by decide +kernel
theorem dX9_kindOf_17 : decode cX9_kindOf 17 = .ok (.aload_n 0, 1) := by decide +kernel
theorem dX9_kindOf_18 : decode cX9_kindOf 18 = .ok (.getfield 51, 3) := by decide +kernel
theorem dX9_kindOf_21 : decode cX9_kindOf 21 = .ok (.iload_n 1, 1) := by decide +kernel
theorem dX9_kindOf_22 : decode cX9_kindOf 22 = .ok (.iaload, 1) := by decide +kernel
theorem dX9_kindOf_23 : decode cX9_kindOf 23 = .ok (.iaload, 1) := by decide +kernel
theorem dX9_kindOf_24 : decode cX9_kindOf 24 = .ok (.iload_n 1, 1) := by decide +kernel
theorem dX9_kindOf_25 : decode cX9_kindOf 25 = .ok (.if_icmp .ne 7, 3) := by decide +kernel
theorem dX9_kindOf_28 : decode cX9_kindOf 28 = .ok (.iconst 2, 1) := by decide +kernel
theorem dX9_kindOf_29 : decode cX9_kindOf 29 = .ok (.goto 4, 3) := by decide +kernel
theorem dX9_kindOf_32 : decode cX9_kindOf 32 = .ok (.iconst 1, 1) := by decide +kernel
theorem dX9_kindOf_33 : decode cX9_kindOf 33 = .ok (.ireturn, 1) := by decide +kernel
theorem dX9_tells_0 : decode cX9_tells 0 = .ok (.iload_n 2, 1) := by decide +kernel
theorem dX9_tells_1 : decode cX9_tells 1 = .ok (.tableswitch 58 0 3 #[31, 38, 45, 52], 31) := by decide +kernel
theorem dX9_tells_32 : decode cX9_tells 32 = .ok (.aload_n 0, 1) := by decide +kernel
theorem dX9_tells_33 : decode cX9_tells 33 = .ok (.getfield 42, 3) := by decide +kernel
theorem dX9_tells_36 : decode cX9_tells 36 = .ok (.iload_n 1, 1) := by decide +kernel
theorem dX9_tells_37 : decode cX9_tells 37 = .ok (.iaload, 1) := by decide +kernel
theorem dX9_tells_38 : decode cX9_tells 38 = .ok (.ireturn, 1) := by decide +kernel
theorem dX9_tells_39 : decode cX9_tells 39 = .ok (.aload_n 0, 1) := by decide +kernel
theorem dX9_tells_40 : decode cX9_tells 40 = .ok (.getfield 45, 3) := by decide +kernel
theorem dX9_tells_43 : decode cX9_tells 43 = .ok (.iload_n 1, 1) := by decide +kernel
theorem dX9_tells_44 : decode cX9_tells 44 = .ok (.iaload, 1) := by decide +kernel
theorem dX9_tells_45 : decode cX9_tells 45 = .ok (.ireturn, 1) := by decide +kernel
theorem dX9_tells_46 : decode cX9_tells 46 = .ok (.aload_n 0, 1) := by decide +kernel
theorem dX9_tells_47 : decode cX9_tells 47 = .ok (.getfield 48, 3) := by decide +kernel
theorem dX9_tells_50 : decode cX9_tells 50 = .ok (.iload_n 1, 1) := by decide +kernel
theorem dX9_tells_51 : decode cX9_tells 51 = .ok (.iaload, 1) := by decide +kernel
theorem dX9_tells_52 : decode cX9_tells 52 = .ok (.ireturn, 1) := by decide +kernel
theorem dX9_tells_53 : decode cX9_tells 53 = .ok (.aload_n 0, 1) := by decide +kernel
theorem dX9_tells_54 : decode cX9_tells 54 = .ok (.iload_n 1, 1) := by decide +kernel
theorem dX9_tells_55 : decode cX9_tells 55 = .ok (.invokevirtual 125, 3) := by decide +kernel
theorem dX9_tells_58 : decode cX9_tells 58 = .ok (.ireturn, 1) := by decide +kernel
theorem dX9_tells_59 : decode cX9_tells 59 = .ok (.aload_n 0, 1) := by decide +kernel
theorem dX9_tells_60 : decode cX9_tells 60 = .ok (.getfield 51, 3) := by decide +kernel
theorem dX9_tells_63 : decode cX9_tells 63 = .ok (.iload_n 1, 1) := by decide +kernel
theorem dX9_tells_64 : decode cX9_tells 64 = .ok (.iaload, 1) := by decide +kernel
theorem dX9_tells_65 : decode cX9_tells 65 = .ok (.ireturn, 1) := by decide +kernel
theorem dX9_told_0 : decode cX9_told 0 = .ok (.aload_n 0, 1) := by decide +kernel
theorem dX9_told_1 : decode cX9_told 1 = .ok (.iload_n 1, 1) := by decide +kernel
theorem dX9_told_2 : decode cX9_told 2 = .ok (.invokevirtual 128, 3) := by decide +kernel
theorem dX9_told_5 : decode cX9_told 5 = .ok (.ifCond .eq 21, 3) := by decide +kernel
theorem dX9_told_8 : decode cX9_told 8 = .ok (.iload_n 2, 1) := by decide +kernel
theorem dX9_told_9 : decode cX9_told 9 = .ok (.iconst 0, 1) := by decide +kernel
theorem dX9_told_10 : decode cX9_told 10 = .ok (.iconst 4, 1) := by decide +kernel
theorem dX9_told_11 : decode cX9_told 11 = .ok (.invokestatic 72, 3) := by decide +kernel
theorem dX9_told_14 : decode cX9_told 14 = .ok (.ifCond .eq 12, 3) := by decide +kernel
theorem dX9_told_17 : decode cX9_told 17 = .ok (.aload_n 0, 1) := by decide +kernel
theorem dX9_told_18 : decode cX9_told 18 = .ok (.iload_n 1, 1) := by decide +kernel
theorem dX9_told_19 : decode cX9_told 19 = .ok (.iload_n 2, 1) := by decide +kernel
theorem dX9_told_20 : decode cX9_told 20 = .ok (.invokevirtual 131, 3) := by decide +kernel
theorem dX9_told_23 : decode cX9_told 23 = .ok (.goto 4, 3) := by decide +kernel
theorem dX9_told_26 : decode cX9_told 26 = .ok (.iconst (-1), 1) := by decide +kernel
theorem dX9_told_27 : decode cX9_told 27 = .ok (.ireturn, 1) := by decide +kernel
theorem dX9_mark_0 : decode cX9_mark 0 = .ok (.aload_n 0, 1) := by decide +kernel
theorem dX9_mark_1 : decode cX9_mark 1 = .ok (.iload_n 1, 1) := by decide +kernel
theorem dX9_mark_2 : decode cX9_mark 2 = .ok (.invokevirtual 128, 3) := by decide +kernel
theorem dX9_mark_5 : decode cX9_mark 5 = .ok (.ifCond .eq 12, 3) := by decide +kernel
theorem dX9_mark_8 : decode cX9_mark 8 = .ok (.iload_n 2, 1) := by decide +kernel
theorem dX9_mark_9 : decode cX9_mark 9 = .ok (.iconst 0, 1) := by decide +kernel
theorem dX9_mark_10 : decode cX9_mark 10 = .ok (.iconst 3, 1) := by decide +kernel
theorem dX9_mark_11 : decode cX9_mark 11 = .ok (.invokestatic 72, 3) := by decide +kernel
theorem dX9_mark_14 : decode cX9_mark 14 = .ok (.ifCond .ne 5, 3) := by decide +kernel
theorem dX9_mark_17 : decode cX9_mark 17 = .ok (.iconst (-1), 1) := by decide +kernel
theorem dX9_mark_18 : decode cX9_mark 18 = .ok (.ireturn, 1) := by decide +kernel
theorem dX9_mark_19 : decode cX9_mark 19 = .ok (.aload_n 0, 1) := by decide +kernel
theorem dX9_mark_20 : decode cX9_mark 20 = .ok (.iload_n 1, 1) := by decide +kernel
theorem dX9_mark_21 : decode cX9_mark 21 = .ok (.invokevirtual 125, 3) := by decide +kernel
theorem dX9_mark_24 : decode cX9_mark 24 = .ok (.istore_n 3, 1) := by decide +kernel
theorem dX9_mark_25 : decode cX9_mark 25 = .ok (.iload_n 2, 1) := by decide +kernel
theorem dX9_mark_26 : decode cX9_mark 26 = .ok (.ifCond .eq 24, 3) := by decide +kernel
theorem dX9_mark_29 : decode cX9_mark 29 = .ok (.iload_n 2, 1) := by decide +kernel
theorem dX9_mark_30 : decode cX9_mark 30 = .ok (.iload_n 3, 1) := by decide +kernel
theorem dX9_mark_31 : decode cX9_mark 31 = .ok (.if_icmp .eq 19, 3) := by decide +kernel
theorem dX9_mark_34 : decode cX9_mark 34 = .ok (.iload_n 2, 1) := by decide +kernel
theorem dX9_mark_35 : decode cX9_mark 35 = .ok (.iconst 1, 1) := by decide +kernel
theorem dX9_mark_36 : decode cX9_mark 36 = .ok (.if_icmp .ne 8, 3) := by decide +kernel
theorem dX9_mark_39 : decode cX9_mark 39 = .ok (.iload_n 3, 1) := by decide +kernel
theorem dX9_mark_40 : decode cX9_mark 40 = .ok (.iconst 2, 1) := by decide +kernel
theorem dX9_mark_41 : decode cX9_mark 41 = .ok (.if_icmp .eq 9, 3) := by decide +kernel
theorem dX9_mark_44 : decode cX9_mark 44 = .ok (.aload_n 0, 1) := by decide +kernel
theorem dX9_mark_45 : decode cX9_mark 45 = .ok (.iconst 3, 1) := by decide +kernel
theorem dX9_mark_46 : decode cX9_mark 46 = .ok (.invokevirtual 100, 3) := by decide +kernel
theorem dX9_mark_49 : decode cX9_mark 49 = .ok (.ireturn, 1) := by decide +kernel
theorem dX9_mark_50 : decode cX9_mark 50 = .ok (.iload_n 2, 1) := by decide +kernel
theorem dX9_mark_51 : decode cX9_mark 51 = .ok (.iconst 1, 1) := by decide +kernel
theorem dX9_mark_52 : decode cX9_mark 52 = .ok (.if_icmp .eq 8, 3) := by decide +kernel
theorem dX9_mark_55 : decode cX9_mark 55 = .ok (.iload_n 2, 1) := by decide +kernel
theorem dX9_mark_56 : decode cX9_mark 56 = .ok (.iconst 2, 1) := by decide +kernel
theorem dX9_mark_57 : decode cX9_mark 57 = .ok (.if_icmp .ne 12, 3) := by decide +kernel
theorem dX9_mark_60 : decode cX9_mark 60 = .ok (.aload_n 0, 1) := by decide +kernel
theorem dX9_mark_61 : decode cX9_mark 61 = .ok (.getfield 51, 3) := by decide +kernel
theorem dX9_mark_64 : decode cX9_mark 64 = .ok (.iload_n 1, 1) := by decide +kernel
theorem dX9_mark_65 : decode cX9_mark 65 = .ok (.iaload, 1) := by decide +kernel
theorem dX9_mark_66 : decode cX9_mark 66 = .ok (.goto 9, 3) := by decide +kernel
theorem dX9_mark_69 : decode cX9_mark 69 = .ok (.aload_n 0, 1) := by decide +kernel
theorem dX9_mark_70 : decode cX9_mark 70 = .ok (.getfield 45, 3) := by decide +kernel
theorem dX9_mark_73 : decode cX9_mark 73 = .ok (.iload_n 1, 1) := by decide +kernel
theorem dX9_mark_74 : decode cX9_mark 74 = .ok (.iaload, 1) := by decide +kernel
theorem dX9_mark_75 : decode cX9_mark 75 = .ok (.ireturn, 1) := by decide +kernel
theorem dX9_isQuake_0 : decode cX9_isQuake 0 = .ok (.iload_n 1, 1) := by decide +kernel
theorem dX9_isQuake_1 : decode cX9_isQuake 1 = .ok (.iconst 0, 1) := by decide +kernel
theorem dX9_isQuake_2 : decode cX9_isQuake 2 = .ok (.aload_n 0, 1) := by decide +kernel
theorem dX9_isQuake_3 : decode cX9_isQuake 3 = .ok (.getfield 119, 3) := by decide +kernel
theorem dX9_isQuake_6 : decode cX9_isQuake 6 = .ok (.iconst 1, 1) := by decide +kernel
theorem dX9_isQuake_7 : decode cX9_isQuake 7 = .ok (.isub, 1) := by decide +kernel
theorem dX9_isQuake_8 : decode cX9_isQuake 8 = .ok (.invokestatic 72, 3) := by decide +kernel
theorem dX9_isQuake_11 : decode cX9_isQuake 11 = .ok (.ireturn, 1) := by decide +kernel
theorem dX9_bits_0 : decode cX9_bits 0 = .ok (.iconst 0, 1) := by decide +kernel
theorem dX9_bits_1 : decode cX9_bits 1 = .ok (.istore_n 1, 1) := by decide +kernel
theorem dX9_bits_2 : decode cX9_bits 2 = .ok (.iload_n 0, 1) := by decide +kernel
theorem dX9_bits_3 : decode cX9_bits 3 = .ok (.iload_n 1, 1) := by decide +kernel
theorem dX9_bits_4 : decode cX9_bits 4 = .ok (.ishr, 1) := by decide +kernel
theorem dX9_bits_5 : decode cX9_bits 5 = .ok (.ifCond .eq 9, 3) := by decide +kernel
theorem dX9_bits_8 : decode cX9_bits 8 = .ok (.iinc 1 1, 3) := by decide +kernel
theorem dX9_bits_11 : decode cX9_bits 11 = .ok (.goto (-9), 3) := by decide +kernel
theorem dX9_bits_14 : decode cX9_bits 14 = .ok (.iload_n 1, 1) := by decide +kernel
theorem dX9_bits_15 : decode cX9_bits 15 = .ok (.ireturn, 1) := by decide +kernel
theorem dX9_sizeAt_0 : decode cX9_sizeAt 0 = .ok (.aload_n 0, 1) := by decide +kernel
theorem dX9_sizeAt_1 : decode cX9_sizeAt 1 = .ok (.getfield 54, 3) := by decide +kernel
theorem dX9_sizeAt_4 : decode cX9_sizeAt 4 = .ok (.iload_n 1, 1) := by decide +kernel
theorem dX9_sizeAt_5 : decode cX9_sizeAt 5 = .ok (.iaload, 1) := by decide +kernel
theorem dX9_sizeAt_6 : decode cX9_sizeAt 6 = .ok (.istore_n 3, 1) := by decide +kernel
theorem dX9_sizeAt_7 : decode cX9_sizeAt 7 = .ok (.aload_n 0, 1) := by decide +kernel
theorem dX9_sizeAt_8 : decode cX9_sizeAt 8 = .ok (.getfield 48, 3) := by decide +kernel
theorem dX9_sizeAt_11 : decode cX9_sizeAt 11 = .ok (.iload_n 3, 1) := by decide +kernel
theorem dX9_sizeAt_12 : decode cX9_sizeAt 12 = .ok (.iaload, 1) := by decide +kernel
theorem dX9_sizeAt_13 : decode cX9_sizeAt 13 = .ok (.aload_n 0, 1) := by decide +kernel
theorem dX9_sizeAt_14 : decode cX9_sizeAt 14 = .ok (.iload_n 2, 1) := by decide +kernel
theorem dX9_sizeAt_15 : decode cX9_sizeAt 15 = .ok (.aload_n 0, 1) := by decide +kernel
theorem dX9_sizeAt_16 : decode cX9_sizeAt 16 = .ok (.getfield 20, 3) := by decide +kernel
theorem dX9_sizeAt_19 : decode cX9_sizeAt 19 = .ok (.aload_n 0, 1) := by decide +kernel
theorem dX9_sizeAt_20 : decode cX9_sizeAt 20 = .ok (.getfield 42, 3) := by decide +kernel
theorem dX9_sizeAt_23 : decode cX9_sizeAt 23 = .ok (.iload_n 3, 1) := by decide +kernel
theorem dX9_sizeAt_24 : decode cX9_sizeAt 24 = .ok (.iaload, 1) := by decide +kernel
theorem dX9_sizeAt_25 : decode cX9_sizeAt 25 = .ok (.iaload, 1) := by decide +kernel
theorem dX9_sizeAt_26 : decode cX9_sizeAt 26 = .ok (.invokevirtual 92, 3) := by decide +kernel
theorem dX9_sizeAt_29 : decode cX9_sizeAt 29 = .ok (.iconst 1, 1) := by decide +kernel
theorem dX9_sizeAt_30 : decode cX9_sizeAt 30 = .ok (.iadd, 1) := by decide +kernel
theorem dX9_sizeAt_31 : decode cX9_sizeAt 31 = .ok (.imul, 1) := by decide +kernel
theorem dX9_sizeAt_32 : decode cX9_sizeAt 32 = .ok (.invokestatic 134, 3) := by decide +kernel
theorem dX9_sizeAt_35 : decode cX9_sizeAt 35 = .ok (.ireturn, 1) := by decide +kernel
theorem dX9_sizeOf_0 : decode cX9_sizeOf 0 = .ok (.bipush (-9), 2) := by decide +kernel
theorem dX9_sizeOf_2 : decode cX9_sizeOf 2 = .ok (.istore_n 3, 1) := by decide +kernel
theorem dX9_sizeOf_3 : decode cX9_sizeOf 3 = .ok (.iconst 0, 1) := by decide +kernel
theorem dX9_sizeOf_4 : decode cX9_sizeOf 4 = .ok (.istore 4, 2) := by decide +kernel
theorem dX9_sizeOf_6 : decode cX9_sizeOf 6 = .ok (.iload 4, 2) := by decide +kernel
theorem dX9_sizeOf_8 : decode cX9_sizeOf 8 = .ok (.sipush 144, 3) := by decide +kernel
theorem dX9_sizeOf_11 : decode cX9_sizeOf 11 = .ok (.if_icmp .ge 57, 3) := by decide +kernel
theorem dX9_sizeOf_14 : decode cX9_sizeOf 14 = .ok (.aload_n 0, 1) := by decide +kernel
theorem dX9_sizeOf_15 : decode cX9_sizeOf 15 = .ok (.iload 4, 2) := by decide +kernel
theorem dX9_sizeOf_17 : decode cX9_sizeOf 17 = .ok (.invokevirtual 137, 3) := by decide +kernel
theorem dX9_sizeOf_20 : decode cX9_sizeOf 20 = .ok (.ifCond .eq 42, 3) := by decide +kernel
theorem dX9_sizeOf_23 : decode cX9_sizeOf 23 = .ok (.aload_n 0, 1) := by decide +kernel
theorem dX9_sizeOf_24 : decode cX9_sizeOf 24 = .ok (.iload_n 1, 1) := by decide +kernel
theorem dX9_sizeOf_25 : decode cX9_sizeOf 25 = .ok (.iload 4, 2) := by decide +kernel
theorem dX9_sizeOf_27 : decode cX9_sizeOf 27 = .ok (.invokevirtual 140, 3) := by decide +kernel
theorem dX9_sizeOf_30 : decode cX9_sizeOf 30 = .ok (.istore 5, 2) := by decide +kernel
theorem dX9_sizeOf_32 : decode cX9_sizeOf 32 = .ok (.iload_n 3, 1) := by decide +kernel
theorem dX9_sizeOf_33 : decode cX9_sizeOf 33 = .ok (.ifCond .lt 22, 3) := by decide +kernel
theorem dX9_sizeOf_36 : decode cX9_sizeOf 36 = .ok (.iload_n 2, 1) := by decide +kernel
theorem dX9_sizeOf_37 : decode cX9_sizeOf 37 = .ok (.ifCond .eq 12, 3) := by decide +kernel
theorem dX9_sizeOf_40 : decode cX9_sizeOf 40 = .ok (.iload 5, 2) := by decide +kernel
theorem dX9_sizeOf_42 : decode cX9_sizeOf 42 = .ok (.iload_n 3, 1) := by decide +kernel
theorem dX9_sizeOf_43 : decode cX9_sizeOf 43 = .ok (.if_icmp .le 17, 3) := by decide +kernel
theorem dX9_sizeOf_46 : decode cX9_sizeOf 46 = .ok (.goto 9, 3) := by decide +kernel
theorem dX9_sizeOf_49 : decode cX9_sizeOf 49 = .ok (.iload 5, 2) := by decide +kernel
theorem dX9_sizeOf_51 : decode cX9_sizeOf 51 = .ok (.iload_n 3, 1) := by decide +kernel
theorem dX9_sizeOf_52 : decode cX9_sizeOf 52 = .ok (.if_icmp .ge 8, 3) := by decide +kernel
theorem dX9_sizeOf_55 : decode cX9_sizeOf 55 = .ok (.iload 5, 2) := by decide +kernel
theorem dX9_sizeOf_57 : decode cX9_sizeOf 57 = .ok (.goto 4, 3) := by decide +kernel
theorem dX9_sizeOf_60 : decode cX9_sizeOf 60 = .ok (.iload_n 3, 1) := by decide +kernel
theorem dX9_sizeOf_61 : decode cX9_sizeOf 61 = .ok (.istore_n 3, 1) := by decide +kernel
theorem dX9_sizeOf_62 : decode cX9_sizeOf 62 = .ok (.iinc 4 1, 3) := by decide +kernel
theorem dX9_sizeOf_65 : decode cX9_sizeOf 65 = .ok (.goto (-59), 3) := by decide +kernel
theorem dX9_sizeOf_68 : decode cX9_sizeOf 68 = .ok (.iload_n 3, 1) := by decide +kernel
theorem dX9_sizeOf_69 : decode cX9_sizeOf 69 = .ok (.ireturn, 1) := by decide +kernel
theorem dX9_tellsQuake_0 : decode cX9_tellsQuake 0 = .ok (.aload_n 0, 1) := by decide +kernel
theorem dX9_tellsQuake_1 : decode cX9_tellsQuake 1 = .ok (.iload_n 1, 1) := by decide +kernel
theorem dX9_tellsQuake_2 : decode cX9_tellsQuake 2 = .ok (.invokevirtual 122, 3) := by decide +kernel
theorem dX9_tellsQuake_5 : decode cX9_tellsQuake 5 = .ok (.istore_n 3, 1) := by decide +kernel
theorem dX9_tellsQuake_6 : decode cX9_tellsQuake 6 = .ok (.iconst 0, 1) := by decide +kernel
theorem dX9_tellsQuake_7 : decode cX9_tellsQuake 7 = .ok (.istore 4, 2) := by decide +kernel
theorem dX9_tellsQuake_9 : decode cX9_tellsQuake 9 = .ok (.iload_n 2, 1) := by decide +kernel
theorem dX9_tellsQuake_10 : decode cX9_tellsQuake 10 = .ok (.tableswitch 88 0 3 #[30, 72, 74, 81], 30) := by decide +kernel
theorem dX9_tellsQuake_40 : decode cX9_tellsQuake 40 = .ok (.iconst 0, 1) := by decide +kernel
theorem dX9_tellsQuake_41 : decode cX9_tellsQuake 41 = .ok (.istore 5, 2) := by decide +kernel
theorem dX9_tellsQuake_43 : decode cX9_tellsQuake 43 = .ok (.iload 5, 2) := by decide +kernel
theorem dX9_tellsQuake_45 : decode cX9_tellsQuake 45 = .ok (.aload_n 0, 1) := by decide +kernel
theorem dX9_tellsQuake_46 : decode cX9_tellsQuake 46 = .ok (.getfield 76, 3) := by decide +kernel
theorem dX9_tellsQuake_49 : decode cX9_tellsQuake 49 = .ok (.if_icmp .ge 30, 3) := by decide +kernel
theorem dX9_tellsQuake_52 : decode cX9_tellsQuake 52 = .ok (.iload 4, 2) := by decide +kernel
theorem dX9_tellsQuake_54 : decode cX9_tellsQuake 54 = .ok (.aload_n 0, 1) := by decide +kernel
theorem dX9_tellsQuake_55 : decode cX9_tellsQuake 55 = .ok (.getfield 51, 3) := by decide +kernel
theorem dX9_tellsQuake_58 : decode cX9_tellsQuake 58 = .ok (.iload 5, 2) := by decide +kernel
theorem dX9_tellsQuake_60 : decode cX9_tellsQuake 60 = .ok (.iaload, 1) := by decide +kernel
theorem dX9_tellsQuake_61 : decode cX9_tellsQuake 61 = .ok (.iload_n 1, 1) := by decide +kernel
theorem dX9_tellsQuake_62 : decode cX9_tellsQuake 62 = .ok (.if_icmp .ne 7, 3) := by decide +kernel
theorem dX9_tellsQuake_65 : decode cX9_tellsQuake 65 = .ok (.iconst 1, 1) := by decide +kernel
theorem dX9_tellsQuake_66 : decode cX9_tellsQuake 66 = .ok (.goto 4, 3) := by decide +kernel
theorem dX9_tellsQuake_69 : decode cX9_tellsQuake 69 = .ok (.iconst 0, 1) := by decide +kernel
theorem dX9_tellsQuake_70 : decode cX9_tellsQuake 70 = .ok (.iadd, 1) := by decide +kernel
theorem dX9_tellsQuake_71 : decode cX9_tellsQuake 71 = .ok (.istore 4, 2) := by decide +kernel
theorem dX9_tellsQuake_73 : decode cX9_tellsQuake 73 = .ok (.iinc 5 1, 3) := by decide +kernel
theorem dX9_tellsQuake_76 : decode cX9_tellsQuake 76 = .ok (.goto (-33), 3) := by decide +kernel
theorem dX9_tellsQuake_79 : decode cX9_tellsQuake 79 = .ok (.iload 4, 2) := by decide +kernel
theorem dX9_tellsQuake_81 : decode cX9_tellsQuake 81 = .ok (.ireturn, 1) := by decide +kernel
theorem dX9_tellsQuake_82 : decode cX9_tellsQuake 82 = .ok (.iload_n 3, 1) := by decide +kernel
theorem dX9_tellsQuake_83 : decode cX9_tellsQuake 83 = .ok (.ireturn, 1) := by decide +kernel
theorem dX9_tellsQuake_84 : decode cX9_tellsQuake 84 = .ok (.aload_n 0, 1) := by decide +kernel
theorem dX9_tellsQuake_85 : decode cX9_tellsQuake 85 = .ok (.iload_n 1, 1) := by decide +kernel
theorem dX9_tellsQuake_86 : decode cX9_tellsQuake 86 = .ok (.iconst 0, 1) := by decide +kernel
theorem dX9_tellsQuake_87 : decode cX9_tellsQuake 87 = .ok (.invokevirtual 143, 3) := by decide +kernel
theorem dX9_tellsQuake_90 : decode cX9_tellsQuake 90 = .ok (.ireturn, 1) := by decide +kernel
theorem dX9_tellsQuake_91 : decode cX9_tellsQuake 91 = .ok (.aload_n 0, 1) := by decide +kernel
theorem dX9_tellsQuake_92 : decode cX9_tellsQuake 92 = .ok (.iload_n 1, 1) := by decide +kernel
theorem dX9_tellsQuake_93 : decode cX9_tellsQuake 93 = .ok (.iconst 1, 1) := by decide +kernel
theorem dX9_tellsQuake_94 : decode cX9_tellsQuake 94 = .ok (.invokevirtual 143, 3) := by decide +kernel
theorem dX9_tellsQuake_97 : decode cX9_tellsQuake 97 = .ok (.ireturn, 1) := by decide +kernel
theorem dX9_tellsQuake_98 : decode cX9_tellsQuake 98 = .ok (.iload_n 3, 1) := by decide +kernel
theorem dX9_tellsQuake_99 : decode cX9_tellsQuake 99 = .ok (.ifCond .ne 7, 3) := by decide +kernel
theorem dX9_tellsQuake_102 : decode cX9_tellsQuake 102 = .ok (.iconst 1, 1) := by decide +kernel
theorem dX9_tellsQuake_103 : decode cX9_tellsQuake 103 = .ok (.goto 4, 3) := by decide +kernel
theorem dX9_tellsQuake_106 : decode cX9_tellsQuake 106 = .ok (.iconst 0, 1) := by decide +kernel
theorem dX9_tellsQuake_107 : decode cX9_tellsQuake 107 = .ok (.ireturn, 1) := by decide +kernel
theorem dX9_quake_0 : decode cX9_quake 0 = .ok (.aload_n 0, 1) := by decide +kernel
theorem dX9_quake_1 : decode cX9_quake 1 = .ok (.iload_n 1, 1) := by decide +kernel
theorem dX9_quake_2 : decode cX9_quake 2 = .ok (.invokevirtual 147, 3) := by decide +kernel
theorem dX9_quake_5 : decode cX9_quake 5 = .ok (.ifCond .eq 21, 3) := by decide +kernel
theorem dX9_quake_8 : decode cX9_quake 8 = .ok (.iload_n 2, 1) := by decide +kernel
theorem dX9_quake_9 : decode cX9_quake 9 = .ok (.iconst 0, 1) := by decide +kernel
theorem dX9_quake_10 : decode cX9_quake 10 = .ok (.iconst 4, 1) := by decide +kernel
theorem dX9_quake_11 : decode cX9_quake 11 = .ok (.invokestatic 72, 3) := by decide +kernel
theorem dX9_quake_14 : decode cX9_quake 14 = .ok (.ifCond .eq 12, 3) := by decide +kernel
theorem dX9_quake_17 : decode cX9_quake 17 = .ok (.aload_n 0, 1) := by decide +kernel
theorem dX9_quake_18 : decode cX9_quake 18 = .ok (.iload_n 1, 1) := by decide +kernel
theorem dX9_quake_19 : decode cX9_quake 19 = .ok (.iload_n 2, 1) := by decide +kernel
theorem dX9_quake_20 : decode cX9_quake 20 = .ok (.invokevirtual 150, 3) := by decide +kernel
theorem dX9_quake_23 : decode cX9_quake 23 = .ok (.goto 4, 3) := by decide +kernel
theorem dX9_quake_26 : decode cX9_quake 26 = .ok (.iconst (-1), 1) := by decide +kernel
theorem dX9_quake_27 : decode cX9_quake 27 = .ok (.ireturn, 1) := by decide +kernel
theorem dX9_cell_0 : decode cX9_cell 0 = .ok (.aload_n 0, 1) := by decide +kernel
theorem dX9_cell_1 : decode cX9_cell 1 = .ok (.iload_n 1, 1) := by decide +kernel
theorem dX9_cell_2 : decode cX9_cell 2 = .ok (.invokevirtual 147, 3) := by decide +kernel
theorem dX9_cell_5 : decode cX9_cell 5 = .ok (.ifCond .ne 5, 3) := by decide +kernel
theorem dX9_cell_8 : decode cX9_cell 8 = .ok (.iconst (-1), 1) := by decide +kernel
theorem dX9_cell_9 : decode cX9_cell 9 = .ok (.ireturn, 1) := by decide +kernel
theorem dX9_cell_10 : decode cX9_cell 10 = .ok (.aload_n 0, 1) := by decide +kernel
theorem dX9_cell_11 : decode cX9_cell 11 = .ok (.iload_n 1, 1) := by decide +kernel
theorem dX9_cell_12 : decode cX9_cell 12 = .ok (.invokevirtual 122, 3) := by decide +kernel
theorem dX9_cell_15 : decode cX9_cell 15 = .ok (.istore_n 3, 1) := by decide +kernel
theorem dX9_cell_16 : decode cX9_cell 16 = .ok (.iconst 0, 1) := by decide +kernel
theorem dX9_cell_17 : decode cX9_cell 17 = .ok (.istore 4, 2) := by decide +kernel
theorem dX9_cell_19 : decode cX9_cell 19 = .ok (.iconst 0, 1) := by decide +kernel
theorem dX9_cell_20 : decode cX9_cell 20 = .ok (.istore 5, 2) := by decide +kernel
theorem dX9_cell_22 : decode cX9_cell 22 = .ok (.iload 5, 2) := by decide +kernel
theorem dX9_cell_24 : decode cX9_cell 24 = .ok (.sipush 144, 3) := by decide +kernel
theorem dX9_cell_27 : decode cX9_cell 27 = .ok (.if_icmp .ge 35, 3) := by decide +kernel
theorem dX9_cell_30 : decode cX9_cell 30 = .ok (.iload_n 2, 1) := by decide +kernel
theorem dX9_cell_31 : decode cX9_cell 31 = .ok (.iload_n 3, 1) := by decide +kernel
theorem dX9_cell_32 : decode cX9_cell 32 = .ok (.if_icmp .ge 30, 3) := by decide +kernel
theorem dX9_cell_35 : decode cX9_cell 35 = .ok (.aload_n 0, 1) := by decide +kernel
theorem dX9_cell_36 : decode cX9_cell 36 = .ok (.iload 5, 2) := by decide +kernel
theorem dX9_cell_38 : decode cX9_cell 38 = .ok (.invokevirtual 137, 3) := by decide +kernel
theorem dX9_cell_41 : decode cX9_cell 41 = .ok (.ifCond .eq 15, 3) := by decide +kernel
theorem dX9_cell_44 : decode cX9_cell 44 = .ok (.iload 4, 2) := by decide +kernel
theorem dX9_cell_46 : decode cX9_cell 46 = .ok (.iload_n 2, 1) := by decide +kernel
theorem dX9_cell_47 : decode cX9_cell 47 = .ok (.if_icmp .ne 6, 3) := by decide +kernel
theorem dX9_cell_50 : decode cX9_cell 50 = .ok (.iload 5, 2) := by decide +kernel
theorem dX9_cell_52 : decode cX9_cell 52 = .ok (.ireturn, 1) := by decide +kernel
theorem dX9_cell_53 : decode cX9_cell 53 = .ok (.iinc 4 1, 3) := by decide +kernel
theorem dX9_cell_56 : decode cX9_cell 56 = .ok (.iinc 5 1, 3) := by decide +kernel
theorem dX9_cell_59 : decode cX9_cell 59 = .ok (.goto (-37), 3) := by decide +kernel
theorem dX9_cell_62 : decode cX9_cell 62 = .ok (.bipush (-9), 2) := by decide +kernel
theorem dX9_cell_64 : decode cX9_cell 64 = .ok (.ireturn, 1) := by decide +kernel
theorem dX9_time_0 : decode cX9_time 0 = .ok (.aload_n 0, 1) := by decide +kernel
theorem dX9_time_1 : decode cX9_time 1 = .ok (.iload_n 1, 1) := by decide +kernel
theorem dX9_time_2 : decode cX9_time 2 = .ok (.invokevirtual 147, 3) := by decide +kernel
theorem dX9_time_5 : decode cX9_time 5 = .ok (.ifCond .eq 10, 3) := by decide +kernel
theorem dX9_time_8 : decode cX9_time 8 = .ok (.iload_n 2, 1) := by decide +kernel
theorem dX9_time_9 : decode cX9_time 9 = .ok (.invokestatic 79, 3) := by decide +kernel
theorem dX9_time_12 : decode cX9_time 12 = .ok (.ifCond .ne 5, 3) := by decide +kernel
theorem dX9_time_15 : decode cX9_time 15 = .ok (.iconst (-1), 1) := by decide +kernel
theorem dX9_time_16 : decode cX9_time 16 = .ok (.ireturn, 1) := by decide +kernel
theorem dX9_time_17 : decode cX9_time 17 = .ok (.aload_n 0, 1) := by decide +kernel
theorem dX9_time_18 : decode cX9_time 18 = .ok (.iload_n 1, 1) := by decide +kernel
theorem dX9_time_19 : decode cX9_time 19 = .ok (.invokevirtual 122, 3) := by decide +kernel
theorem dX9_time_22 : decode cX9_time 22 = .ok (.istore 4, 2) := by decide +kernel
theorem dX9_time_24 : decode cX9_time 24 = .ok (.aload_n 0, 1) := by decide +kernel
theorem dX9_time_25 : decode cX9_time 25 = .ok (.iload_n 2, 1) := by decide +kernel
theorem dX9_time_26 : decode cX9_time 26 = .ok (.invokevirtual 137, 3) := by decide +kernel
theorem dX9_time_29 : decode cX9_time 29 = .ok (.ifCond .ne 6, 3) := by decide +kernel
theorem dX9_time_32 : decode cX9_time 32 = .ok (.bipush (-9), 2) := by decide +kernel
theorem dX9_time_34 : decode cX9_time 34 = .ok (.ireturn, 1) := by decide +kernel
theorem dX9_time_35 : decode cX9_time 35 = .ok (.aload_n 0, 1) := by decide +kernel
theorem dX9_time_36 : decode cX9_time 36 = .ok (.iload_n 3, 1) := by decide +kernel
theorem dX9_time_37 : decode cX9_time 37 = .ok (.ifCond .eq 12, 3) := by decide +kernel
theorem dX9_time_40 : decode cX9_time 40 = .ok (.aload_n 0, 1) := by decide +kernel
theorem dX9_time_41 : decode cX9_time 41 = .ok (.getfield 60, 3) := by decide +kernel
theorem dX9_time_44 : decode cX9_time 44 = .ok (.iload_n 2, 1) := by decide +kernel
theorem dX9_time_45 : decode cX9_time 45 = .ok (.iaload, 1) := by decide +kernel
theorem dX9_time_46 : decode cX9_time 46 = .ok (.goto 9, 3) := by decide +kernel
theorem dX9_time_49 : decode cX9_time 49 = .ok (.aload_n 0, 1) := by decide +kernel
theorem dX9_time_50 : decode cX9_time 50 = .ok (.getfield 57, 3) := by decide +kernel
theorem dX9_time_53 : decode cX9_time 53 = .ok (.iload_n 2, 1) := by decide +kernel
theorem dX9_time_54 : decode cX9_time 54 = .ok (.iaload, 1) := by decide +kernel
theorem dX9_time_55 : decode cX9_time 55 = .ok (.putfield 105, 3) := by decide +kernel
theorem dX9_time_58 : decode cX9_time 58 = .ok (.iconst 1, 1) := by decide +kernel
theorem dX9_time_59 : decode cX9_time 59 = .ok (.ireturn, 1) := by decide +kernel
theorem dX9_holds_0 : decode cX9_holds 0 = .ok (.aload_n 0, 1) := by decide +kernel
theorem dX9_holds_1 : decode cX9_holds 1 = .ok (.iload_n 1, 1) := by decide +kernel
theorem dX9_holds_2 : decode cX9_holds 2 = .ok (.invokevirtual 147, 3) := by decide +kernel
theorem dX9_holds_5 : decode cX9_holds 5 = .ok (.ifCond .eq 10, 3) := by decide +kernel
theorem dX9_holds_8 : decode cX9_holds 8 = .ok (.iload_n 2, 1) := by decide +kernel
theorem dX9_holds_9 : decode cX9_holds 9 = .ok (.invokestatic 79, 3) := by decide +kernel
theorem dX9_holds_12 : decode cX9_holds 12 = .ok (.ifCond .ne 5, 3) := by decide +kernel
theorem dX9_holds_15 : decode cX9_holds 15 = .ok (.iconst (-1), 1) := by decide +kernel
theorem dX9_holds_16 : decode cX9_holds 16 = .ok (.ireturn, 1) := by decide +kernel
theorem dX9_holds_17 : decode cX9_holds 17 = .ok (.aload_n 0, 1) := by decide +kernel
theorem dX9_holds_18 : decode cX9_holds 18 = .ok (.iload_n 1, 1) := by decide +kernel
theorem dX9_holds_19 : decode cX9_holds 19 = .ok (.invokevirtual 122, 3) := by decide +kernel
theorem dX9_holds_22 : decode cX9_holds 22 = .ok (.istore 4, 2) := by decide +kernel
theorem dX9_holds_24 : decode cX9_holds 24 = .ok (.iload 4, 2) := by decide +kernel
theorem dX9_holds_26 : decode cX9_holds 26 = .ok (.ifCond .le 26, 3) := by decide +kernel
theorem dX9_holds_29 : decode cX9_holds 29 = .ok (.iload_n 3, 1) := by decide +kernel
theorem dX9_holds_30 : decode cX9_holds 30 = .ok (.aload_n 0, 1) := by decide +kernel
theorem dX9_holds_31 : decode cX9_holds 31 = .ok (.getfield 57, 3) := by decide +kernel
theorem dX9_holds_34 : decode cX9_holds 34 = .ok (.iload_n 2, 1) := by decide +kernel
theorem dX9_holds_35 : decode cX9_holds 35 = .ok (.iaload, 1) := by decide +kernel
theorem dX9_holds_36 : decode cX9_holds 36 = .ok (.aload_n 0, 1) := by decide +kernel
theorem dX9_holds_37 : decode cX9_holds 37 = .ok (.getfield 60, 3) := by decide +kernel
theorem dX9_holds_40 : decode cX9_holds 40 = .ok (.iload_n 2, 1) := by decide +kernel
theorem dX9_holds_41 : decode cX9_holds 41 = .ok (.iaload, 1) := by decide +kernel
theorem dX9_holds_42 : decode cX9_holds 42 = .ok (.invokestatic 72, 3) := by decide +kernel
theorem dX9_holds_45 : decode cX9_holds 45 = .ok (.ifCond .eq 7, 3) := by decide +kernel
theorem dX9_holds_48 : decode cX9_holds 48 = .ok (.iconst 1, 1) := by decide +kernel
theorem dX9_holds_49 : decode cX9_holds 49 = .ok (.goto 4, 3) := by decide +kernel
theorem dX9_holds_52 : decode cX9_holds 52 = .ok (.iconst 0, 1) := by decide +kernel
theorem dX9_holds_53 : decode cX9_holds 53 = .ok (.ireturn, 1) := by decide +kernel
theorem dX9_feels_0 : decode cX9_feels 0 = .ok (.aload_n 0, 1) := by decide +kernel
theorem dX9_feels_1 : decode cX9_feels 1 = .ok (.iload_n 2, 1) := by decide +kernel
theorem dX9_feels_2 : decode cX9_feels 2 = .ok (.iconst 0, 1) := by decide +kernel
theorem dX9_feels_3 : decode cX9_feels 3 = .ok (.invokevirtual 143, 3) := by decide +kernel
theorem dX9_feels_6 : decode cX9_feels 6 = .ok (.istore_n 3, 1) := by decide +kernel
theorem dX9_feels_7 : decode cX9_feels 7 = .ok (.iconst 0, 1) := by decide +kernel
theorem dX9_feels_8 : decode cX9_feels 8 = .ok (.istore 4, 2) := by decide +kernel
theorem dX9_feels_10 : decode cX9_feels 10 = .ok (.iconst 0, 1) := by decide +kernel
theorem dX9_feels_11 : decode cX9_feels 11 = .ok (.istore 5, 2) := by decide +kernel
theorem dX9_feels_13 : decode cX9_feels 13 = .ok (.iload 5, 2) := by decide +kernel
theorem dX9_feels_15 : decode cX9_feels 15 = .ok (.sipush 144, 3) := by decide +kernel
theorem dX9_feels_18 : decode cX9_feels 18 = .ok (.if_icmp .ge 57, 3) := by decide +kernel
theorem dX9_feels_21 : decode cX9_feels 21 = .ok (.aload_n 0, 1) := by decide +kernel
theorem dX9_feels_22 : decode cX9_feels 22 = .ok (.iload 5, 2) := by decide +kernel
theorem dX9_feels_24 : decode cX9_feels 24 = .ok (.invokevirtual 137, 3) := by decide +kernel
theorem dX9_feels_27 : decode cX9_feels 27 = .ok (.ifCond .eq 23, 3) := by decide +kernel
theorem dX9_feels_30 : decode cX9_feels 30 = .ok (.aload_n 0, 1) := by decide +kernel
theorem dX9_feels_31 : decode cX9_feels 31 = .ok (.iload 5, 2) := by decide +kernel
theorem dX9_feels_33 : decode cX9_feels 33 = .ok (.aload_n 0, 1) := by decide +kernel
theorem dX9_feels_34 : decode cX9_feels 34 = .ok (.getfield 27, 3) := by decide +kernel
theorem dX9_feels_37 : decode cX9_feels 37 = .ok (.iload_n 1, 1) := by decide +kernel
theorem dX9_feels_38 : decode cX9_feels 38 = .ok (.iaload, 1) := by decide +kernel
theorem dX9_feels_39 : decode cX9_feels 39 = .ok (.invokevirtual 92, 3) := by decide +kernel
theorem dX9_feels_42 : decode cX9_feels 42 = .ok (.iconst 1, 1) := by decide +kernel
theorem dX9_feels_43 : decode cX9_feels 43 = .ok (.iadd, 1) := by decide +kernel
theorem dX9_feels_44 : decode cX9_feels 44 = .ok (.invokestatic 134, 3) := by decide +kernel
theorem dX9_feels_47 : decode cX9_feels 47 = .ok (.goto 4, 3) := by decide +kernel
theorem dX9_feels_50 : decode cX9_feels 50 = .ok (.iconst 0, 1) := by decide +kernel
theorem dX9_feels_51 : decode cX9_feels 51 = .ok (.istore 6, 2) := by decide +kernel
theorem dX9_feels_53 : decode cX9_feels 53 = .ok (.iload 6, 2) := by decide +kernel
theorem dX9_feels_55 : decode cX9_feels 55 = .ok (.iload 4, 2) := by decide +kernel
theorem dX9_feels_57 : decode cX9_feels 57 = .ok (.if_icmp .le 8, 3) := by decide +kernel
theorem dX9_feels_60 : decode cX9_feels 60 = .ok (.iload 6, 2) := by decide +kernel
theorem dX9_feels_62 : decode cX9_feels 62 = .ok (.goto 5, 3) := by decide +kernel
theorem dX9_feels_65 : decode cX9_feels 65 = .ok (.iload 4, 2) := by decide +kernel
theorem dX9_feels_67 : decode cX9_feels 67 = .ok (.istore 4, 2) := by decide +kernel
theorem dX9_feels_69 : decode cX9_feels 69 = .ok (.iinc 5 1, 3) := by decide +kernel
theorem dX9_feels_72 : decode cX9_feels 72 = .ok (.goto (-59), 3) := by decide +kernel
theorem dX9_feels_75 : decode cX9_feels 75 = .ok (.iload_n 3, 1) := by decide +kernel
theorem dX9_feels_76 : decode cX9_feels 76 = .ok (.ifCond .ge 8, 3) := by decide +kernel
theorem dX9_feels_79 : decode cX9_feels 79 = .ok (.bipush (-9), 2) := by decide +kernel
theorem dX9_feels_81 : decode cX9_feels 81 = .ok (.goto 17, 3) := by decide +kernel
theorem dX9_feels_84 : decode cX9_feels 84 = .ok (.iload_n 3, 1) := by decide +kernel
theorem dX9_feels_85 : decode cX9_feels 85 = .ok (.iload 4, 2) := by decide +kernel
theorem dX9_feels_87 : decode cX9_feels 87 = .ok (.if_icmp .le 10, 3) := by decide +kernel
theorem dX9_feels_90 : decode cX9_feels 90 = .ok (.iload_n 3, 1) := by decide +kernel
theorem dX9_feels_91 : decode cX9_feels 91 = .ok (.iload 4, 2) := by decide +kernel
theorem dX9_feels_93 : decode cX9_feels 93 = .ok (.isub, 1) := by decide +kernel
theorem dX9_feels_94 : decode cX9_feels 94 = .ok (.goto 4, 3) := by decide +kernel
theorem dX9_feels_97 : decode cX9_feels 97 = .ok (.iconst 0, 1) := by decide +kernel
theorem dX9_feels_98 : decode cX9_feels 98 = .ok (.ireturn, 1) := by decide +kernel
theorem dX9_areTownAndQuake_0 : decode cX9_areTownAndQuake 0 = .ok (.aload_n 0, 1) := by decide +kernel
theorem dX9_areTownAndQuake_1 : decode cX9_areTownAndQuake 1 = .ok (.iload_n 1, 1) := by decide +kernel
theorem dX9_areTownAndQuake_2 : decode cX9_areTownAndQuake 2 = .ok (.invokevirtual 153, 3) := by decide +kernel
theorem dX9_areTownAndQuake_5 : decode cX9_areTownAndQuake 5 = .ok (.ifCond .eq 15, 3) := by decide +kernel
theorem dX9_areTownAndQuake_8 : decode cX9_areTownAndQuake 8 = .ok (.aload_n 0, 1) := by decide +kernel
theorem dX9_areTownAndQuake_9 : decode cX9_areTownAndQuake 9 = .ok (.iload_n 2, 1) := by decide +kernel
theorem dX9_areTownAndQuake_10 : decode cX9_areTownAndQuake 10 = .ok (.invokevirtual 147, 3) := by decide +kernel
theorem dX9_areTownAndQuake_13 : decode cX9_areTownAndQuake 13 = .ok (.ifCond .eq 7, 3) := by decide +kernel
theorem dX9_areTownAndQuake_16 : decode cX9_areTownAndQuake 16 = .ok (.iconst 1, 1) := by decide +kernel
theorem dX9_areTownAndQuake_17 : decode cX9_areTownAndQuake 17 = .ok (.goto 4, 3) := by decide +kernel
theorem dX9_areTownAndQuake_20 : decode cX9_areTownAndQuake 20 = .ok (.iconst 0, 1) := by decide +kernel
theorem dX9_areTownAndQuake_21 : decode cX9_areTownAndQuake 21 = .ok (.ireturn, 1) := by decide +kernel
theorem dX9_felt_0 : decode cX9_felt 0 = .ok (.aload_n 0, 1) := by decide +kernel
theorem dX9_felt_1 : decode cX9_felt 1 = .ok (.iload_n 1, 1) := by decide +kernel
theorem dX9_felt_2 : decode cX9_felt 2 = .ok (.iload_n 2, 1) := by decide +kernel
theorem dX9_felt_3 : decode cX9_felt 3 = .ok (.invokevirtual 156, 3) := by decide +kernel
theorem dX9_felt_6 : decode cX9_felt 6 = .ok (.ifCond .ne 5, 3) := by decide +kernel
theorem dX9_felt_9 : decode cX9_felt 9 = .ok (.iconst (-1), 1) := by decide +kernel
theorem dX9_felt_10 : decode cX9_felt 10 = .ok (.ireturn, 1) := by decide +kernel
theorem dX9_felt_11 : decode cX9_felt 11 = .ok (.aload_n 0, 1) := by decide +kernel
theorem dX9_felt_12 : decode cX9_felt 12 = .ok (.iload_n 2, 1) := by decide +kernel
theorem dX9_felt_13 : decode cX9_felt 13 = .ok (.invokevirtual 122, 3) := by decide +kernel
theorem dX9_felt_16 : decode cX9_felt 16 = .ok (.istore_n 3, 1) := by decide +kernel
theorem dX9_felt_17 : decode cX9_felt 17 = .ok (.aload_n 0, 1) := by decide +kernel
theorem dX9_felt_18 : decode cX9_felt 18 = .ok (.iload_n 1, 1) := by decide +kernel
theorem dX9_felt_19 : decode cX9_felt 19 = .ok (.iload_n 2, 1) := by decide +kernel
theorem dX9_felt_20 : decode cX9_felt 20 = .ok (.invokevirtual 159, 3) := by decide +kernel
theorem dX9_felt_23 : decode cX9_felt 23 = .ok (.ireturn, 1) := by decide +kernel
theorem dX9_level_0 : decode cX9_level 0 = .ok (.iload_n 1, 1) := by decide +kernel
theorem dX9_level_1 : decode cX9_level 1 = .ok (.iconst 1, 1) := by decide +kernel
theorem dX9_level_2 : decode cX9_level 2 = .ok (.iconst 4, 1) := by decide +kernel
theorem dX9_level_3 : decode cX9_level 3 = .ok (.invokestatic 72, 3) := by decide +kernel
theorem dX9_level_6 : decode cX9_level 6 = .ok (.ifCond .eq 27, 3) := by decide +kernel
theorem dX9_level_9 : decode cX9_level 9 = .ok (.iload_n 2, 1) := by decide +kernel
theorem dX9_level_10 : decode cX9_level 10 = .ok (.aload_n 0, 1) := by decide +kernel
theorem dX9_level_11 : decode cX9_level 11 = .ok (.getfield 36, 3) := by decide +kernel
theorem dX9_level_14 : decode cX9_level 14 = .ok (.iload_n 1, 1) := by decide +kernel
theorem dX9_level_15 : decode cX9_level 15 = .ok (.iconst 1, 1) := by decide +kernel
theorem dX9_level_16 : decode cX9_level 16 = .ok (.isub, 1) := by decide +kernel
theorem dX9_level_17 : decode cX9_level 17 = .ok (.iaload, 1) := by decide +kernel
theorem dX9_level_18 : decode cX9_level 18 = .ok (.if_icmp .le 15, 3) := by decide +kernel
theorem dX9_level_21 : decode cX9_level 21 = .ok (.iload_n 2, 1) := by decide +kernel
theorem dX9_level_22 : decode cX9_level 22 = .ok (.aload_n 0, 1) := by decide +kernel
theorem dX9_level_23 : decode cX9_level 23 = .ok (.getfield 36, 3) := by decide +kernel
theorem dX9_level_26 : decode cX9_level 26 = .ok (.iload_n 1, 1) := by decide +kernel
theorem dX9_level_27 : decode cX9_level 27 = .ok (.iconst 1, 1) := by decide +kernel
theorem dX9_level_28 : decode cX9_level 28 = .ok (.iadd, 1) := by decide +kernel
theorem dX9_level_29 : decode cX9_level 29 = .ok (.iaload, 1) := by decide +kernel
theorem dX9_level_30 : decode cX9_level 30 = .ok (.if_icmp .lt 5, 3) := by decide +kernel
theorem dX9_level_33 : decode cX9_level 33 = .ok (.iconst (-1), 1) := by decide +kernel
theorem dX9_level_34 : decode cX9_level 34 = .ok (.ireturn, 1) := by decide +kernel
theorem dX9_level_35 : decode cX9_level 35 = .ok (.aload_n 0, 1) := by decide +kernel
theorem dX9_level_36 : decode cX9_level 36 = .ok (.getfield 36, 3) := by decide +kernel
theorem dX9_level_39 : decode cX9_level 39 = .ok (.iload_n 1, 1) := by decide +kernel
theorem dX9_level_40 : decode cX9_level 40 = .ok (.iaload, 1) := by decide +kernel
theorem dX9_level_41 : decode cX9_level 41 = .ok (.istore_n 3, 1) := by decide +kernel
theorem dX9_level_42 : decode cX9_level 42 = .ok (.aload_n 0, 1) := by decide +kernel
theorem dX9_level_43 : decode cX9_level 43 = .ok (.getfield 36, 3) := by decide +kernel
theorem dX9_level_46 : decode cX9_level 46 = .ok (.iload_n 1, 1) := by decide +kernel
theorem dX9_level_47 : decode cX9_level 47 = .ok (.iload_n 2, 1) := by decide +kernel
theorem dX9_level_48 : decode cX9_level 48 = .ok (.iastore, 1) := by decide +kernel
theorem dX9_level_49 : decode cX9_level 49 = .ok (.iload_n 3, 1) := by decide +kernel
theorem dX9_level_50 : decode cX9_level 50 = .ok (.ireturn, 1) := by decide +kernel
theorem dX9_say_0 : decode cX9_say 0 = .ok (.aload_n 0, 1) := by decide +kernel
theorem dX9_say_1 : decode cX9_say 1 = .ok (.getfield 162, 3) := by decide +kernel
theorem dX9_say_4 : decode cX9_say 4 = .ok (.sipush 400, 3) := by decide +kernel
theorem dX9_say_7 : decode cX9_say 7 = .ok (.if_icmp .ge 60, 3) := by decide +kernel
theorem dX9_say_10 : decode cX9_say 10 = .ok (.aload_n 0, 1) := by decide +kernel
theorem dX9_say_11 : decode cX9_say 11 = .ok (.getfield 63, 3) := by decide +kernel
theorem dX9_say_14 : decode cX9_say 14 = .ok (.iconst 4, 1) := by decide +kernel
theorem dX9_say_15 : decode cX9_say 15 = .ok (.aload_n 0, 1) := by decide +kernel
theorem dX9_say_16 : decode cX9_say 16 = .ok (.getfield 162, 3) := by decide +kernel
theorem dX9_say_19 : decode cX9_say 19 = .ok (.imul, 1) := by decide +kernel
theorem dX9_say_20 : decode cX9_say 20 = .ok (.iload_n 1, 1) := by decide +kernel
theorem dX9_say_21 : decode cX9_say 21 = .ok (.iastore, 1) := by decide +kernel
theorem dX9_say_22 : decode cX9_say 22 = .ok (.aload_n 0, 1) := by decide +kernel
theorem dX9_say_23 : decode cX9_say 23 = .ok (.getfield 63, 3) := by decide +kernel
theorem dX9_say_26 : decode cX9_say 26 = .ok (.iconst 4, 1) := by decide +kernel
theorem dX9_say_27 : decode cX9_say 27 = .ok (.aload_n 0, 1) := by decide +kernel
theorem dX9_say_28 : decode cX9_say 28 = .ok (.getfield 162, 3) := by decide +kernel
theorem dX9_say_31 : decode cX9_say 31 = .ok (.imul, 1) := by decide +kernel
theorem dX9_say_32 : decode cX9_say 32 = .ok (.iconst 1, 1) := by decide +kernel
theorem dX9_say_33 : decode cX9_say 33 = .ok (.iadd, 1) := by decide +kernel
theorem dX9_say_34 : decode cX9_say 34 = .ok (.iload_n 2, 1) := by decide +kernel
theorem dX9_say_35 : decode cX9_say 35 = .ok (.iastore, 1) := by decide +kernel
theorem dX9_say_36 : decode cX9_say 36 = .ok (.aload_n 0, 1) := by decide +kernel
theorem dX9_say_37 : decode cX9_say 37 = .ok (.getfield 63, 3) := by decide +kernel
theorem dX9_say_40 : decode cX9_say 40 = .ok (.iconst 4, 1) := by decide +kernel
theorem dX9_say_41 : decode cX9_say 41 = .ok (.aload_n 0, 1) := by decide +kernel
theorem dX9_say_42 : decode cX9_say 42 = .ok (.getfield 162, 3) := by decide +kernel
theorem dX9_say_45 : decode cX9_say 45 = .ok (.imul, 1) := by decide +kernel
theorem dX9_say_46 : decode cX9_say 46 = .ok (.iconst 2, 1) := by decide +kernel
theorem dX9_say_47 : decode cX9_say 47 = .ok (.iadd, 1) := by decide +kernel
theorem dX9_say_48 : decode cX9_say 48 = .ok (.iload_n 3, 1) := by decide +kernel
theorem dX9_say_49 : decode cX9_say 49 = .ok (.iastore, 1) := by decide +kernel
theorem dX9_say_50 : decode cX9_say 50 = .ok (.aload_n 0, 1) := by decide +kernel
theorem dX9_say_51 : decode cX9_say 51 = .ok (.getfield 63, 3) := by decide +kernel
theorem dX9_say_54 : decode cX9_say 54 = .ok (.iconst 4, 1) := by decide +kernel
theorem dX9_say_55 : decode cX9_say 55 = .ok (.aload_n 0, 1) := by decide +kernel
theorem dX9_say_56 : decode cX9_say 56 = .ok (.getfield 162, 3) := by decide +kernel
theorem dX9_say_59 : decode cX9_say 59 = .ok (.imul, 1) := by decide +kernel
theorem dX9_say_60 : decode cX9_say 60 = .ok (.iconst 3, 1) := by decide +kernel
theorem dX9_say_61 : decode cX9_say 61 = .ok (.iadd, 1) := by decide +kernel
theorem dX9_say_62 : decode cX9_say 62 = .ok (.aload_n 0, 1) := by decide +kernel
theorem dX9_say_63 : decode cX9_say 63 = .ok (.getfield 97, 3) := by decide +kernel
theorem dX9_say_66 : decode cX9_say 66 = .ok (.iastore, 1) := by decide +kernel
theorem dX9_say_67 : decode cX9_say 67 = .ok (.aload_n 0, 1) := by decide +kernel
theorem dX9_say_68 : decode cX9_say 68 = .ok (.dup, 1) := by decide +kernel
theorem dX9_say_69 : decode cX9_say 69 = .ok (.getfield 162, 3) := by decide +kernel
theorem dX9_say_72 : decode cX9_say 72 = .ok (.iconst 1, 1) := by decide +kernel
theorem dX9_say_73 : decode cX9_say 73 = .ok (.iadd, 1) := by decide +kernel
theorem dX9_say_74 : decode cX9_say 74 = .ok (.putfield 162, 3) := by decide +kernel
theorem dX9_say_77 : decode cX9_say 77 = .ok (.return_, 1) := by decide +kernel
theorem dX9_warn_0 : decode cX9_warn 0 = .ok (.iconst 0, 1) := by decide +kernel
theorem dX9_warn_1 : decode cX9_warn 1 = .ok (.istore_n 1, 1) := by decide +kernel
theorem dX9_warn_2 : decode cX9_warn 2 = .ok (.iconst 0, 1) := by decide +kernel
theorem dX9_warn_3 : decode cX9_warn 3 = .ok (.istore_n 2, 1) := by decide +kernel
theorem dX9_warn_4 : decode cX9_warn 4 = .ok (.iload_n 2, 1) := by decide +kernel
theorem dX9_warn_5 : decode cX9_warn 5 = .ok (.aload_n 0, 1) := by decide +kernel
theorem dX9_warn_6 : decode cX9_warn 6 = .ok (.getfield 119, 3) := by decide +kernel
theorem dX9_warn_9 : decode cX9_warn 9 = .ok (.if_icmp .ge 185, 3) := by decide +kernel
theorem dX9_warn_12 : decode cX9_warn 12 = .ok (.aload_n 0, 1) := by decide +kernel
theorem dX9_warn_13 : decode cX9_warn 13 = .ok (.iload_n 2, 1) := by decide +kernel
theorem dX9_warn_14 : decode cX9_warn 14 = .ok (.invokevirtual 122, 3) := by decide +kernel
theorem dX9_warn_17 : decode cX9_warn 17 = .ok (.ifCond .ne 7, 3) := by decide +kernel
theorem dX9_warn_20 : decode cX9_warn 20 = .ok (.iconst 1, 1) := by decide +kernel
theorem dX9_warn_21 : decode cX9_warn 21 = .ok (.goto 4, 3) := by decide +kernel
theorem dX9_warn_24 : decode cX9_warn 24 = .ok (.iconst 0, 1) := by decide +kernel
theorem dX9_warn_25 : decode cX9_warn 25 = .ok (.istore_n 3, 1) := by decide +kernel
theorem dX9_warn_26 : decode cX9_warn 26 = .ok (.iconst 0, 1) := by decide +kernel
theorem dX9_warn_27 : decode cX9_warn 27 = .ok (.istore 4, 2) := by decide +kernel
theorem dX9_warn_29 : decode cX9_warn 29 = .ok (.iload 4, 2) := by decide +kernel
theorem dX9_warn_31 : decode cX9_warn 31 = .ok (.aload_n 0, 1) := by decide +kernel
theorem dX9_warn_32 : decode cX9_warn 32 = .ok (.getfield 86, 3) := by decide +kernel
theorem dX9_warn_35 : decode cX9_warn 35 = .ok (.if_icmp .ge 153, 3) := by decide +kernel
theorem dX9_warn_38 : decode cX9_warn 38 = .ok (.iload_n 3, 1) := by decide +kernel
theorem dX9_warn_39 : decode cX9_warn 39 = .ok (.ifCond .eq 7, 3) := by decide +kernel
theorem dX9_warn_42 : decode cX9_warn 42 = .ok (.iconst 0, 1) := by decide +kernel
theorem dX9_warn_43 : decode cX9_warn 43 = .ok (.goto 10, 3) := by decide +kernel
theorem dX9_warn_46 : decode cX9_warn 46 = .ok (.aload_n 0, 1) := by decide +kernel
theorem dX9_warn_47 : decode cX9_warn 47 = .ok (.iload 4, 2) := by decide +kernel
theorem dX9_warn_49 : decode cX9_warn 49 = .ok (.iload_n 2, 1) := by decide +kernel
theorem dX9_warn_50 : decode cX9_warn 50 = .ok (.invokevirtual 159, 3) := by decide +kernel
theorem dX9_warn_53 : decode cX9_warn 53 = .ok (.istore 5, 2) := by decide +kernel
theorem dX9_warn_55 : decode cX9_warn 55 = .ok (.iconst 1, 1) := by decide +kernel
theorem dX9_warn_56 : decode cX9_warn 56 = .ok (.istore 6, 2) := by decide +kernel
theorem dX9_warn_58 : decode cX9_warn 58 = .ok (.iload 6, 2) := by decide +kernel
theorem dX9_warn_60 : decode cX9_warn 60 = .ok (.iconst 5, 1) := by decide +kernel
theorem dX9_warn_61 : decode cX9_warn 61 = .ok (.if_icmp .ge 121, 3) := by decide +kernel
theorem dX9_warn_64 : decode cX9_warn 64 = .ok (.bipush 30, 2) := by decide +kernel
theorem dX9_warn_66 : decode cX9_warn 66 = .ok (.iload_n 2, 1) := by decide +kernel
theorem dX9_warn_67 : decode cX9_warn 67 = .ok (.imul, 1) := by decide +kernel
theorem dX9_warn_68 : decode cX9_warn 68 = .ok (.iconst 5, 1) := by decide +kernel
theorem dX9_warn_69 : decode cX9_warn 69 = .ok (.iload 4, 2) := by decide +kernel
theorem dX9_warn_71 : decode cX9_warn 71 = .ok (.imul, 1) := by decide +kernel
theorem dX9_warn_72 : decode cX9_warn 72 = .ok (.iadd, 1) := by decide +kernel
theorem dX9_warn_73 : decode cX9_warn 73 = .ok (.iload 6, 2) := by decide +kernel
theorem dX9_warn_75 : decode cX9_warn 75 = .ok (.iadd, 1) := by decide +kernel
theorem dX9_warn_76 : decode cX9_warn 76 = .ok (.istore 7, 2) := by decide +kernel
theorem dX9_warn_78 : decode cX9_warn 78 = .ok (.iload_n 3, 1) := by decide +kernel
theorem dX9_warn_79 : decode cX9_warn 79 = .ok (.ifCond .ne 29, 3) := by decide +kernel
theorem dX9_warn_82 : decode cX9_warn 82 = .ok (.iload 5, 2) := by decide +kernel
theorem dX9_warn_84 : decode cX9_warn 84 = .ok (.aload_n 0, 1) := by decide +kernel
theorem dX9_warn_85 : decode cX9_warn 85 = .ok (.getfield 36, 3) := by decide +kernel
theorem dX9_warn_88 : decode cX9_warn 88 = .ok (.iload 6, 2) := by decide +kernel
theorem dX9_warn_90 : decode cX9_warn 90 = .ok (.iaload, 1) := by decide +kernel
theorem dX9_warn_91 : decode cX9_warn 91 = .ok (.if_icmp .lt 17, 3) := by decide +kernel
theorem dX9_warn_94 : decode cX9_warn 94 = .ok (.aload_n 0, 1) := by decide +kernel
theorem dX9_warn_95 : decode cX9_warn 95 = .ok (.getfield 66, 3) := by decide +kernel
theorem dX9_warn_98 : decode cX9_warn 98 = .ok (.iload 7, 2) := by decide +kernel
theorem dX9_warn_100 : decode cX9_warn 100 = .ok (.iaload, 1) := by decide +kernel
theorem dX9_warn_101 : decode cX9_warn 101 = .ok (.ifCond .ne 7, 3) := by decide +kernel
theorem dX9_warn_104 : decode cX9_warn 104 = .ok (.iconst 1, 1) := by decide +kernel
theorem dX9_warn_105 : decode cX9_warn 105 = .ok (.goto 4, 3) := by decide +kernel
theorem dX9_warn_108 : decode cX9_warn 108 = .ok (.iconst 0, 1) := by decide +kernel
theorem dX9_warn_109 : decode cX9_warn 109 = .ok (.istore 8, 2) := by decide +kernel
theorem dX9_warn_111 : decode cX9_warn 111 = .ok (.iload_n 3, 1) := by decide +kernel
theorem dX9_warn_112 : decode cX9_warn 112 = .ok (.ifCond .eq 18, 3) := by decide +kernel
theorem dX9_warn_115 : decode cX9_warn 115 = .ok (.aload_n 0, 1) := by decide +kernel
theorem dX9_warn_116 : decode cX9_warn 116 = .ok (.getfield 66, 3) := by decide +kernel
theorem dX9_warn_119 : decode cX9_warn 119 = .ok (.iload 7, 2) := by decide +kernel
theorem dX9_warn_121 : decode cX9_warn 121 = .ok (.iaload, 1) := by decide +kernel
theorem dX9_warn_122 : decode cX9_warn 122 = .ok (.iconst 1, 1) := by decide +kernel
theorem dX9_warn_123 : decode cX9_warn 123 = .ok (.if_icmp .ne 7, 3) := by decide +kernel
theorem dX9_warn_126 : decode cX9_warn 126 = .ok (.iconst 1, 1) := by decide +kernel
theorem dX9_warn_127 : decode cX9_warn 127 = .ok (.goto 4, 3) := by decide +kernel
theorem dX9_warn_130 : decode cX9_warn 130 = .ok (.iconst 0, 1) := by decide +kernel
theorem dX9_warn_131 : decode cX9_warn 131 = .ok (.istore 9, 2) := by decide +kernel
theorem dX9_warn_133 : decode cX9_warn 133 = .ok (.iload 8, 2) := by decide +kernel
theorem dX9_warn_135 : decode cX9_warn 135 = .ok (.ifCond .ne 8, 3) := by decide +kernel
theorem dX9_warn_138 : decode cX9_warn 138 = .ok (.iload 9, 2) := by decide +kernel
theorem dX9_warn_140 : decode cX9_warn 140 = .ok (.ifCond .eq 36, 3) := by decide +kernel
theorem dX9_warn_143 : decode cX9_warn 143 = .ok (.aload_n 0, 1) := by decide +kernel
theorem dX9_warn_144 : decode cX9_warn 144 = .ok (.iload 4, 2) := by decide +kernel
theorem dX9_warn_146 : decode cX9_warn 146 = .ok (.iload_n 2, 1) := by decide +kernel
theorem dX9_warn_147 : decode cX9_warn 147 = .ok (.iload_n 3, 1) := by decide +kernel
theorem dX9_warn_148 : decode cX9_warn 148 = .ok (.ifCond .eq 9, 3) := by decide +kernel
theorem dX9_warn_151 : decode cX9_warn 151 = .ok (.iload 6, 2) := by decide +kernel
theorem dX9_warn_153 : decode cX9_warn 153 = .ok (.ineg, 1) := by decide +kernel
theorem dX9_warn_154 : decode cX9_warn 154 = .ok (.goto 5, 3) := by decide +kernel
theorem dX9_warn_157 : decode cX9_warn 157 = .ok (.iload 6, 2) := by decide +kernel
theorem dX9_warn_159 : decode cX9_warn 159 = .ok (.invokevirtual 165, 3) := by decide +kernel
theorem dX9_warn_162 : decode cX9_warn 162 = .ok (.aload_n 0, 1) := by decide +kernel
theorem dX9_warn_163 : decode cX9_warn 163 = .ok (.getfield 66, 3) := by decide +kernel
theorem dX9_warn_166 : decode cX9_warn 166 = .ok (.iload 7, 2) := by decide +kernel
theorem dX9_warn_168 : decode cX9_warn 168 = .ok (.dup2, 1) := by decide +kernel
theorem dX9_warn_169 : decode cX9_warn 169 = .ok (.iaload, 1) := by decide +kernel
theorem dX9_warn_170 : decode cX9_warn 170 = .ok (.iconst 1, 1) := by decide +kernel
theorem dX9_warn_171 : decode cX9_warn 171 = .ok (.iadd, 1) := by decide +kernel
theorem dX9_warn_172 : decode cX9_warn 172 = .ok (.iastore, 1) := by decide +kernel
theorem dX9_warn_173 : decode cX9_warn 173 = .ok (.iinc 1 1, 3) := by decide +kernel
theorem dX9_warn_176 : decode cX9_warn 176 = .ok (.iinc 6 1, 3) := by decide +kernel
theorem dX9_warn_179 : decode cX9_warn 179 = .ok (.goto (-121), 3) := by decide +kernel
theorem dX9_warn_182 : decode cX9_warn 182 = .ok (.iinc 4 1, 3) := by decide +kernel
theorem dX9_warn_185 : decode cX9_warn 185 = .ok (.goto (-156), 3) := by decide +kernel
theorem dX9_warn_188 : decode cX9_warn 188 = .ok (.iinc 2 1, 3) := by decide +kernel
theorem dX9_warn_191 : decode cX9_warn 191 = .ok (.goto (-187), 3) := by decide +kernel
theorem dX9_warn_194 : decode cX9_warn 194 = .ok (.iload_n 1, 1) := by decide +kernel
theorem dX9_warn_195 : decode cX9_warn 195 = .ok (.ireturn, 1) := by decide +kernel
theorem dX9_drill_0 : decode cX9_drill 0 = .ok (.aload_n 0, 1) := by decide +kernel
theorem dX9_drill_1 : decode cX9_drill 1 = .ok (.iload_n 1, 1) := by decide +kernel
theorem dX9_drill_2 : decode cX9_drill 2 = .ok (.invokevirtual 153, 3) := by decide +kernel
theorem dX9_drill_5 : decode cX9_drill 5 = .ok (.ifCond .eq 12, 3) := by decide +kernel
theorem dX9_drill_8 : decode cX9_drill 8 = .ok (.iload_n 2, 1) := by decide +kernel
theorem dX9_drill_9 : decode cX9_drill 9 = .ok (.iconst 1, 1) := by decide +kernel
theorem dX9_drill_10 : decode cX9_drill 10 = .ok (.iconst 4, 1) := by decide +kernel
theorem dX9_drill_11 : decode cX9_drill 11 = .ok (.invokestatic 72, 3) := by decide +kernel
theorem dX9_drill_14 : decode cX9_drill 14 = .ok (.ifCond .ne 5, 3) := by decide +kernel
theorem dX9_drill_17 : decode cX9_drill 17 = .ok (.iconst (-1), 1) := by decide +kernel
theorem dX9_drill_18 : decode cX9_drill 18 = .ok (.ireturn, 1) := by decide +kernel
theorem dX9_drill_19 : decode cX9_drill 19 = .ok (.aload_n 0, 1) := by decide +kernel
theorem dX9_drill_20 : decode cX9_drill 20 = .ok (.getfield 162, 3) := by decide +kernel
theorem dX9_drill_23 : decode cX9_drill 23 = .ok (.sipush 400, 3) := by decide +kernel
theorem dX9_drill_26 : decode cX9_drill 26 = .ok (.if_icmp .lt 6, 3) := by decide +kernel
theorem dX9_drill_29 : decode cX9_drill 29 = .ok (.bipush (-2), 2) := by decide +kernel
theorem dX9_drill_31 : decode cX9_drill 31 = .ok (.ireturn, 1) := by decide +kernel
theorem dX9_drill_32 : decode cX9_drill 32 = .ok (.aload_n 0, 1) := by decide +kernel
theorem dX9_drill_33 : decode cX9_drill 33 = .ok (.iload_n 1, 1) := by decide +kernel
theorem dX9_drill_34 : decode cX9_drill 34 = .ok (.bipush (-9), 2) := by decide +kernel
theorem dX9_drill_36 : decode cX9_drill 36 = .ok (.iload_n 2, 1) := by decide +kernel
theorem dX9_drill_37 : decode cX9_drill 37 = .ok (.invokevirtual 165, 3) := by decide +kernel
theorem dX9_drill_40 : decode cX9_drill 40 = .ok (.aload_n 0, 1) := by decide +kernel
theorem dX9_drill_41 : decode cX9_drill 41 = .ok (.getfield 162, 3) := by decide +kernel
theorem dX9_drill_44 : decode cX9_drill 44 = .ok (.ireturn, 1) := by decide +kernel
theorem dX9_message_0 : decode cX9_message 0 = .ok (.iload_n 2, 1) := by decide +kernel
theorem dX9_message_1 : decode cX9_message 1 = .ok (.iconst 0, 1) := by decide +kernel
theorem dX9_message_2 : decode cX9_message 2 = .ok (.iconst 3, 1) := by decide +kernel
theorem dX9_message_3 : decode cX9_message 3 = .ok (.invokestatic 72, 3) := by decide +kernel
theorem dX9_message_6 : decode cX9_message 6 = .ok (.ifCond .ne 7, 3) := by decide +kernel
theorem dX9_message_9 : decode cX9_message 9 = .ok (.iconst (-1), 1) := by decide +kernel
theorem dX9_message_10 : decode cX9_message 10 = .ok (.goto 39, 3) := by decide +kernel
theorem dX9_message_13 : decode cX9_message 13 = .ok (.iload_n 1, 1) := by decide +kernel
theorem dX9_message_14 : decode cX9_message 14 = .ok (.iconst 0, 1) := by decide +kernel
theorem dX9_message_15 : decode cX9_message 15 = .ok (.aload_n 0, 1) := by decide +kernel
theorem dX9_message_16 : decode cX9_message 16 = .ok (.getfield 162, 3) := by decide +kernel
theorem dX9_message_19 : decode cX9_message 19 = .ok (.iconst 1, 1) := by decide +kernel
theorem dX9_message_20 : decode cX9_message 20 = .ok (.isub, 1) := by decide +kernel
theorem dX9_message_21 : decode cX9_message 21 = .ok (.invokestatic 72, 3) := by decide +kernel
theorem dX9_message_24 : decode cX9_message 24 = .ok (.ifCond .eq 23, 3) := by decide +kernel
theorem dX9_message_27 : decode cX9_message 27 = .ok (.iload_n 1, 1) := by decide +kernel
theorem dX9_message_28 : decode cX9_message 28 = .ok (.sipush 400, 3) := by decide +kernel
theorem dX9_message_31 : decode cX9_message 31 = .ok (.if_icmp .ge 16, 3) := by decide +kernel
theorem dX9_message_34 : decode cX9_message 34 = .ok (.aload_n 0, 1) := by decide +kernel
theorem dX9_message_35 : decode cX9_message 35 = .ok (.getfield 63, 3) := by decide +kernel
theorem dX9_message_38 : decode cX9_message 38 = .ok (.iconst 4, 1) := by decide +kernel
theorem dX9_message_39 : decode cX9_message 39 = .ok (.iload_n 1, 1) := by decide +kernel
theorem dX9_message_40 : decode cX9_message 40 = .ok (.imul, 1) := by decide +kernel
theorem dX9_message_41 : decode cX9_message 41 = .ok (.iload_n 2, 1) := by decide +kernel
theorem dX9_message_42 : decode cX9_message 42 = .ok (.iadd, 1) := by decide +kernel
theorem dX9_message_43 : decode cX9_message 43 = .ok (.iaload, 1) := by decide +kernel
theorem dX9_message_44 : decode cX9_message 44 = .ok (.goto 5, 3) := by decide +kernel
theorem dX9_message_47 : decode cX9_message 47 = .ok (.bipush (-9), 2) := by decide +kernel
theorem dX9_message_49 : decode cX9_message 49 = .ok (.ireturn, 1) := by decide +kernel
theorem dX9_alarm_0 : decode cX9_alarm 0 = .ok (.aload_n 0, 1) := by decide +kernel
theorem dX9_alarm_1 : decode cX9_alarm 1 = .ok (.iload_n 1, 1) := by decide +kernel
theorem dX9_alarm_2 : decode cX9_alarm 2 = .ok (.iload_n 2, 1) := by decide +kernel
theorem dX9_alarm_3 : decode cX9_alarm 3 = .ok (.invokevirtual 156, 3) := by decide +kernel
theorem dX9_alarm_6 : decode cX9_alarm 6 = .ok (.ifCond .ne 5, 3) := by decide +kernel
theorem dX9_alarm_9 : decode cX9_alarm 9 = .ok (.iconst (-1), 1) := by decide +kernel
theorem dX9_alarm_10 : decode cX9_alarm 10 = .ok (.ireturn, 1) := by decide +kernel
theorem dX9_alarm_11 : decode cX9_alarm 11 = .ok (.iconst 0, 1) := by decide +kernel
theorem dX9_alarm_12 : decode cX9_alarm 12 = .ok (.istore_n 3, 1) := by decide +kernel
theorem dX9_alarm_13 : decode cX9_alarm 13 = .ok (.iconst 1, 1) := by decide +kernel
theorem dX9_alarm_14 : decode cX9_alarm 14 = .ok (.istore 4, 2) := by decide +kernel
theorem dX9_alarm_16 : decode cX9_alarm 16 = .ok (.iload 4, 2) := by decide +kernel
theorem dX9_alarm_18 : decode cX9_alarm 18 = .ok (.iconst 5, 1) := by decide +kernel
theorem dX9_alarm_19 : decode cX9_alarm 19 = .ok (.if_icmp .ge 36, 3) := by decide +kernel
theorem dX9_alarm_22 : decode cX9_alarm 22 = .ok (.aload_n 0, 1) := by decide +kernel
theorem dX9_alarm_23 : decode cX9_alarm 23 = .ok (.getfield 66, 3) := by decide +kernel
theorem dX9_alarm_26 : decode cX9_alarm 26 = .ok (.bipush 30, 2) := by decide +kernel
theorem dX9_alarm_28 : decode cX9_alarm 28 = .ok (.iload_n 2, 1) := by decide +kernel
theorem dX9_alarm_29 : decode cX9_alarm 29 = .ok (.imul, 1) := by decide +kernel
theorem dX9_alarm_30 : decode cX9_alarm 30 = .ok (.iconst 5, 1) := by decide +kernel
theorem dX9_alarm_31 : decode cX9_alarm 31 = .ok (.iload_n 1, 1) := by decide +kernel
theorem dX9_alarm_32 : decode cX9_alarm 32 = .ok (.imul, 1) := by decide +kernel
theorem dX9_alarm_33 : decode cX9_alarm 33 = .ok (.iadd, 1) := by decide +kernel
theorem dX9_alarm_34 : decode cX9_alarm 34 = .ok (.iload 4, 2) := by decide +kernel
theorem dX9_alarm_36 : decode cX9_alarm 36 = .ok (.iadd, 1) := by decide +kernel
theorem dX9_alarm_37 : decode cX9_alarm 37 = .ok (.iaload, 1) := by decide +kernel
theorem dX9_alarm_38 : decode cX9_alarm 38 = .ok (.iconst 1, 1) := by decide +kernel
theorem dX9_alarm_39 : decode cX9_alarm 39 = .ok (.if_icmp .ne 8, 3) := by decide +kernel
theorem dX9_alarm_42 : decode cX9_alarm 42 = .ok (.iload 4, 2) := by decide +kernel
theorem dX9_alarm_44 : decode cX9_alarm 44 = .ok (.goto 4, 3) := by decide +kernel
theorem dX9_alarm_47 : decode cX9_alarm 47 = .ok (.iload_n 3, 1) := by decide +kernel
theorem dX9_alarm_48 : decode cX9_alarm 48 = .ok (.istore_n 3, 1) := by decide +kernel
theorem dX9_alarm_49 : decode cX9_alarm 49 = .ok (.iinc 4 1, 3) := by decide +kernel
theorem dX9_alarm_52 : decode cX9_alarm 52 = .ok (.goto (-36), 3) := by decide +kernel
theorem dX9_alarm_55 : decode cX9_alarm 55 = .ok (.iload_n 3, 1) := by decide +kernel
theorem dX9_alarm_56 : decode cX9_alarm 56 = .ok (.ireturn, 1) := by decide +kernel
theorem dX9_comes_0 : decode cX9_comes 0 = .ok (.iload_n 2, 1) := by decide +kernel
theorem dX9_comes_1 : decode cX9_comes 1 = .ok (.ifCond .eq 8, 3) := by decide +kernel
theorem dX9_comes_4 : decode cX9_comes 4 = .ok (.ldc 112, 2) := by decide +kernel
theorem dX9_comes_6 : decode cX9_comes 6 = .ok (.goto 5, 3) := by decide +kernel
theorem dX9_comes_9 : decode cX9_comes 9 = .ok (.ldc 113, 2) := by decide +kernel
theorem dX9_comes_11 : decode cX9_comes 11 = .ok (.istore_n 3, 1) := by decide +kernel
theorem dX9_comes_12 : decode cX9_comes 12 = .ok (.iconst 0, 1) := by decide +kernel
theorem dX9_comes_13 : decode cX9_comes 13 = .ok (.istore 4, 2) := by decide +kernel
theorem dX9_comes_15 : decode cX9_comes 15 = .ok (.iload 4, 2) := by decide +kernel
theorem dX9_comes_17 : decode cX9_comes 17 = .ok (.sipush 144, 3) := by decide +kernel
theorem dX9_comes_20 : decode cX9_comes 20 = .ok (.if_icmp .ge 76, 3) := by decide +kernel
theorem dX9_comes_23 : decode cX9_comes 23 = .ok (.aload_n 0, 1) := by decide +kernel
theorem dX9_comes_24 : decode cX9_comes 24 = .ok (.iload 4, 2) := by decide +kernel
theorem dX9_comes_26 : decode cX9_comes 26 = .ok (.invokevirtual 137, 3) := by decide +kernel
theorem dX9_comes_29 : decode cX9_comes 29 = .ok (.ifCond .eq 61, 3) := by decide +kernel
theorem dX9_comes_32 : decode cX9_comes 32 = .ok (.iload_n 2, 1) := by decide +kernel
theorem dX9_comes_33 : decode cX9_comes 33 = .ok (.ifCond .eq 13, 3) := by decide +kernel
theorem dX9_comes_36 : decode cX9_comes 36 = .ok (.aload_n 0, 1) := by decide +kernel
theorem dX9_comes_37 : decode cX9_comes 37 = .ok (.getfield 60, 3) := by decide +kernel
theorem dX9_comes_40 : decode cX9_comes 40 = .ok (.iload 4, 2) := by decide +kernel
theorem dX9_comes_42 : decode cX9_comes 42 = .ok (.iaload, 1) := by decide +kernel
theorem dX9_comes_43 : decode cX9_comes 43 = .ok (.goto 10, 3) := by decide +kernel
theorem dX9_comes_46 : decode cX9_comes 46 = .ok (.aload_n 0, 1) := by decide +kernel
theorem dX9_comes_47 : decode cX9_comes 47 = .ok (.getfield 57, 3) := by decide +kernel
theorem dX9_comes_50 : decode cX9_comes 50 = .ok (.iload 4, 2) := by decide +kernel
theorem dX9_comes_52 : decode cX9_comes 52 = .ok (.iaload, 1) := by decide +kernel
theorem dX9_comes_53 : decode cX9_comes 53 = .ok (.aload_n 0, 1) := by decide +kernel
theorem dX9_comes_54 : decode cX9_comes 54 = .ok (.iload 4, 2) := by decide +kernel
theorem dX9_comes_56 : decode cX9_comes 56 = .ok (.aload_n 0, 1) := by decide +kernel
theorem dX9_comes_57 : decode cX9_comes 57 = .ok (.getfield 27, 3) := by decide +kernel
theorem dX9_comes_60 : decode cX9_comes 60 = .ok (.iload_n 1, 1) := by decide +kernel
theorem dX9_comes_61 : decode cX9_comes 61 = .ok (.iaload, 1) := by decide +kernel
theorem dX9_comes_62 : decode cX9_comes 62 = .ok (.invokevirtual 92, 3) := by decide +kernel
theorem dX9_comes_65 : decode cX9_comes 65 = .ok (.iadd, 1) := by decide +kernel
theorem dX9_comes_66 : decode cX9_comes 66 = .ok (.istore 5, 2) := by decide +kernel
theorem dX9_comes_68 : decode cX9_comes 68 = .ok (.iload_n 2, 1) := by decide +kernel
theorem dX9_comes_69 : decode cX9_comes 69 = .ok (.iload 5, 2) := by decide +kernel
theorem dX9_comes_71 : decode cX9_comes 71 = .ok (.iload_n 3, 1) := by decide +kernel
theorem dX9_comes_72 : decode cX9_comes 72 = .ok (.if_icmp .le 7, 3) := by decide +kernel
theorem dX9_comes_75 : decode cX9_comes 75 = .ok (.iconst 1, 1) := by decide +kernel
theorem dX9_comes_76 : decode cX9_comes 76 = .ok (.goto 4, 3) := by decide +kernel
theorem dX9_comes_79 : decode cX9_comes 79 = .ok (.iconst 0, 1) := by decide +kernel
theorem dX9_comes_80 : decode cX9_comes 80 = .ok (.if_icmp .ne 8, 3) := by decide +kernel
theorem dX9_comes_83 : decode cX9_comes 83 = .ok (.iload 5, 2) := by decide +kernel
theorem dX9_comes_85 : decode cX9_comes 85 = .ok (.goto 4, 3) := by decide +kernel
theorem dX9_comes_88 : decode cX9_comes 88 = .ok (.iload_n 3, 1) := by decide +kernel
theorem dX9_comes_89 : decode cX9_comes 89 = .ok (.istore_n 3, 1) := by decide +kernel
theorem dX9_comes_90 : decode cX9_comes 90 = .ok (.iinc 4 1, 3) := by decide +kernel
theorem dX9_comes_93 : decode cX9_comes 93 = .ok (.goto (-78), 3) := by decide +kernel
theorem dX9_comes_96 : decode cX9_comes 96 = .ok (.iload_n 3, 1) := by decide +kernel
theorem dX9_comes_97 : decode cX9_comes 97 = .ok (.ireturn, 1) := by decide +kernel
theorem dX9_late_0 : decode cX9_late 0 = .ok (.aload_n 0, 1) := by decide +kernel
theorem dX9_late_1 : decode cX9_late 1 = .ok (.iload_n 1, 1) := by decide +kernel
theorem dX9_late_2 : decode cX9_late 2 = .ok (.iload_n 2, 1) := by decide +kernel
theorem dX9_late_3 : decode cX9_late 3 = .ok (.invokevirtual 156, 3) := by decide +kernel
theorem dX9_late_6 : decode cX9_late 6 = .ok (.ifCond .ne 5, 3) := by decide +kernel
theorem dX9_late_9 : decode cX9_late 9 = .ok (.iconst (-1), 1) := by decide +kernel
theorem dX9_late_10 : decode cX9_late 10 = .ok (.ireturn, 1) := by decide +kernel
theorem dX9_late_11 : decode cX9_late 11 = .ok (.aload_n 0, 1) := by decide +kernel
theorem dX9_late_12 : decode cX9_late 12 = .ok (.iload_n 2, 1) := by decide +kernel
theorem dX9_late_13 : decode cX9_late 13 = .ok (.invokevirtual 122, 3) := by decide +kernel
theorem dX9_late_16 : decode cX9_late 16 = .ok (.ifCond .ne 6, 3) := by decide +kernel
theorem dX9_late_19 : decode cX9_late 19 = .ok (.bipush (-9), 2) := by decide +kernel
theorem dX9_late_21 : decode cX9_late 21 = .ok (.ireturn, 1) := by decide +kernel
theorem dX9_late_22 : decode cX9_late 22 = .ok (.aload_n 0, 1) := by decide +kernel
theorem dX9_late_23 : decode cX9_late 23 = .ok (.iload_n 1, 1) := by decide +kernel
theorem dX9_late_24 : decode cX9_late 24 = .ok (.iconst 1, 1) := by decide +kernel
theorem dX9_late_25 : decode cX9_late 25 = .ok (.invokevirtual 169, 3) := by decide +kernel
theorem dX9_late_28 : decode cX9_late 28 = .ok (.aload_n 0, 1) := by decide +kernel
theorem dX9_late_29 : decode cX9_late 29 = .ok (.getfield 97, 3) := by decide +kernel
theorem dX9_late_32 : decode cX9_late 32 = .ok (.if_icmp .gt 7, 3) := by decide +kernel
theorem dX9_late_35 : decode cX9_late 35 = .ok (.iconst 1, 1) := by decide +kernel
theorem dX9_late_36 : decode cX9_late 36 = .ok (.goto 21, 3) := by decide +kernel
theorem dX9_late_39 : decode cX9_late 39 = .ok (.aload_n 0, 1) := by decide +kernel
theorem dX9_late_40 : decode cX9_late 40 = .ok (.iload_n 1, 1) := by decide +kernel
theorem dX9_late_41 : decode cX9_late 41 = .ok (.iconst 0, 1) := by decide +kernel
theorem dX9_late_42 : decode cX9_late 42 = .ok (.invokevirtual 169, 3) := by decide +kernel
theorem dX9_late_45 : decode cX9_late 45 = .ok (.aload_n 0, 1) := by decide +kernel
theorem dX9_late_46 : decode cX9_late 46 = .ok (.getfield 97, 3) := by decide +kernel
theorem dX9_late_49 : decode cX9_late 49 = .ok (.if_icmp .le 7, 3) := by decide +kernel
theorem dX9_late_52 : decode cX9_late 52 = .ok (.iconst 2, 1) := by decide +kernel
theorem dX9_late_53 : decode cX9_late 53 = .ok (.goto 4, 3) := by decide +kernel
theorem dX9_late_56 : decode cX9_late 56 = .ok (.iconst 0, 1) := by decide +kernel
theorem dX9_late_57 : decode cX9_late 57 = .ok (.ireturn, 1) := by decide +kernel
theorem dX9_left_0 : decode cX9_left 0 = .ok (.aload_n 0, 1) := by decide +kernel
theorem dX9_left_1 : decode cX9_left 1 = .ok (.iload_n 1, 1) := by decide +kernel
theorem dX9_left_2 : decode cX9_left 2 = .ok (.iload_n 2, 1) := by decide +kernel
theorem dX9_left_3 : decode cX9_left 3 = .ok (.invokevirtual 156, 3) := by decide +kernel
theorem dX9_left_6 : decode cX9_left 6 = .ok (.ifCond .ne 5, 3) := by decide +kernel
theorem dX9_left_9 : decode cX9_left 9 = .ok (.iconst (-1), 1) := by decide +kernel
theorem dX9_left_10 : decode cX9_left 10 = .ok (.ireturn, 1) := by decide +kernel
theorem dX9_left_11 : decode cX9_left 11 = .ok (.aload_n 0, 1) := by decide +kernel
theorem dX9_left_12 : decode cX9_left 12 = .ok (.iload_n 2, 1) := by decide +kernel
theorem dX9_left_13 : decode cX9_left 13 = .ok (.invokevirtual 122, 3) := by decide +kernel
theorem dX9_left_16 : decode cX9_left 16 = .ok (.ifCond .ne 6, 3) := by decide +kernel
theorem dX9_left_19 : decode cX9_left 19 = .ok (.bipush (-9), 2) := by decide +kernel
theorem dX9_left_21 : decode cX9_left 21 = .ok (.ireturn, 1) := by decide +kernel
theorem dX9_left_22 : decode cX9_left 22 = .ok (.aload_n 0, 1) := by decide +kernel
theorem dX9_left_23 : decode cX9_left 23 = .ok (.iload_n 1, 1) := by decide +kernel
theorem dX9_left_24 : decode cX9_left 24 = .ok (.iconst 0, 1) := by decide +kernel
theorem dX9_left_25 : decode cX9_left 25 = .ok (.invokevirtual 169, 3) := by decide +kernel
theorem dX9_left_28 : decode cX9_left 28 = .ok (.istore_n 3, 1) := by decide +kernel
theorem dX9_left_29 : decode cX9_left 29 = .ok (.iload_n 3, 1) := by decide +kernel
theorem dX9_left_30 : decode cX9_left 30 = .ok (.aload_n 0, 1) := by decide +kernel
theorem dX9_left_31 : decode cX9_left 31 = .ok (.getfield 97, 3) := by decide +kernel
theorem dX9_left_34 : decode cX9_left 34 = .ok (.if_icmp .le 12, 3) := by decide +kernel
theorem dX9_left_37 : decode cX9_left 37 = .ok (.iload_n 3, 1) := by decide +kernel
theorem dX9_left_38 : decode cX9_left 38 = .ok (.aload_n 0, 1) := by decide +kernel
theorem dX9_left_39 : decode cX9_left 39 = .ok (.getfield 97, 3) := by decide +kernel
theorem dX9_left_42 : decode cX9_left 42 = .ok (.isub, 1) := by decide +kernel
theorem dX9_left_43 : decode cX9_left 43 = .ok (.goto 4, 3) := by decide +kernel
theorem dX9_left_46 : decode cX9_left 46 = .ok (.iconst 0, 1) := by decide +kernel
theorem dX9_left_47 : decode cX9_left 47 = .ok (.ireturn, 1) := by decide +kernel
theorem dX9_asked_0 : decode cX9_asked 0 = .ok (.aload_n 0, 1) := by decide +kernel
theorem dX9_asked_1 : decode cX9_asked 1 = .ok (.getfield 105, 3) := by decide +kernel
theorem dX9_asked_4 : decode cX9_asked 4 = .ok (.ireturn, 1) := by decide +kernel
theorem dX9_count_0 : decode cX9_count 0 = .ok (.iload_n 1, 1) := by decide +kernel
theorem dX9_count_1 : decode cX9_count 1 = .ok (.tableswitch 69 0 5 #[39, 44, 49, 54, 59, 64], 39) := by decide +kernel
theorem dX9_count_40 : decode cX9_count 40 = .ok (.aload_n 0, 1) := by decide +kernel
theorem dX9_count_41 : decode cX9_count 41 = .ok (.getfield 83, 3) := by decide +kernel
theorem dX9_count_44 : decode cX9_count 44 = .ok (.ireturn, 1) := by decide +kernel
theorem dX9_count_45 : decode cX9_count 45 = .ok (.aload_n 0, 1) := by decide +kernel
theorem dX9_count_46 : decode cX9_count 46 = .ok (.getfield 86, 3) := by decide +kernel
theorem dX9_count_49 : decode cX9_count 49 = .ok (.ireturn, 1) := by decide +kernel
theorem dX9_count_50 : decode cX9_count 50 = .ok (.aload_n 0, 1) := by decide +kernel
theorem dX9_count_51 : decode cX9_count 51 = .ok (.getfield 76, 3) := by decide +kernel
theorem dX9_count_54 : decode cX9_count 54 = .ok (.ireturn, 1) := by decide +kernel
theorem dX9_count_55 : decode cX9_count 55 = .ok (.aload_n 0, 1) := by decide +kernel
theorem dX9_count_56 : decode cX9_count 56 = .ok (.getfield 119, 3) := by decide +kernel
theorem dX9_count_59 : decode cX9_count 59 = .ok (.ireturn, 1) := by decide +kernel
theorem dX9_count_60 : decode cX9_count 60 = .ok (.aload_n 0, 1) := by decide +kernel
theorem dX9_count_61 : decode cX9_count 61 = .ok (.getfield 162, 3) := by decide +kernel
theorem dX9_count_64 : decode cX9_count 64 = .ok (.ireturn, 1) := by decide +kernel
theorem dX9_count_65 : decode cX9_count 65 = .ok (.aload_n 0, 1) := by decide +kernel
theorem dX9_count_66 : decode cX9_count 66 = .ok (.getfield 97, 3) := by decide +kernel
theorem dX9_count_69 : decode cX9_count 69 = .ok (.ireturn, 1) := by decide +kernel
theorem dX9_count_70 : decode cX9_count 70 = .ok (.iconst (-1), 1) := by decide +kernel
theorem dX9_count_71 : decode cX9_count 71 = .ok (.ireturn, 1) := by decide +kernel
theorem dX9_finding_0 : decode cX9_finding 0 = .ok (.aload_n 0, 1) := by decide +kernel
theorem dX9_finding_1 : decode cX9_finding 1 = .ok (.getfield 69, 3) := by decide +kernel
theorem dX9_finding_4 : decode cX9_finding 4 = .ok (.ireturn, 1) := by decide +kernel
theorem dX9_findings_0 : decode cX9_findings 0 = .ok (.iload_n 1, 1) := by decide +kernel
theorem dX9_findings_1 : decode cX9_findings 1 = .ok (.iconst 1, 1) := by decide +kernel
theorem dX9_findings_2 : decode cX9_findings 2 = .ok (.iconst 5, 1) := by decide +kernel
theorem dX9_findings_3 : decode cX9_findings 3 = .ok (.invokestatic 72, 3) := by decide +kernel
theorem dX9_findings_6 : decode cX9_findings 6 = .ok (.ifCond .eq 12, 3) := by decide +kernel
theorem dX9_findings_9 : decode cX9_findings 9 = .ok (.aload_n 0, 1) := by decide +kernel
theorem dX9_findings_10 : decode cX9_findings 10 = .ok (.getfield 7, 3) := by decide +kernel
theorem dX9_findings_13 : decode cX9_findings 13 = .ok (.iload_n 1, 1) := by decide +kernel
theorem dX9_findings_14 : decode cX9_findings 14 = .ok (.iaload, 1) := by decide +kernel
theorem dX9_findings_15 : decode cX9_findings 15 = .ok (.goto 4, 3) := by decide +kernel
theorem dX9_findings_18 : decode cX9_findings 18 = .ok (.iconst (-1), 1) := by decide +kernel
theorem dX9_findings_19 : decode cX9_findings 19 = .ok (.ireturn, 1) := by decide +kernel
theorem dX9_digest_0 : decode cX9_digest 0 = .ok (.ldc2_w 172, 3) := by decide +kernel
theorem dX9_digest_3 : decode cX9_digest 3 = .ok (.aload_n 0, 1) := by decide +kernel
theorem dX9_digest_4 : decode cX9_digest 4 = .ok (.getfield 97, 3) := by decide +kernel
theorem dX9_digest_7 : decode cX9_digest 7 = .ok (.i2l, 1) := by decide +kernel
theorem dX9_digest_8 : decode cX9_digest 8 = .ok (.ladd, 1) := by decide +kernel
theorem dX9_digest_9 : decode cX9_digest 9 = .ok (.lstore_n 1, 1) := by decide +kernel
theorem dX9_digest_10 : decode cX9_digest 10 = .ok (.iconst 0, 1) := by decide +kernel
theorem dX9_digest_11 : decode cX9_digest 11 = .ok (.istore_n 3, 1) := by decide +kernel
theorem dX9_digest_12 : decode cX9_digest 12 = .ok (.iload_n 3, 1) := by decide +kernel
theorem dX9_digest_13 : decode cX9_digest 13 = .ok (.aload_n 0, 1) := by decide +kernel
theorem dX9_digest_14 : decode cX9_digest 14 = .ok (.getfield 83, 3) := by decide +kernel
theorem dX9_digest_17 : decode cX9_digest 17 = .ok (.if_icmp .ge 76, 3) := by decide +kernel
theorem dX9_digest_20 : decode cX9_digest 20 = .ok (.ldc2_w 174, 3) := by decide +kernel
theorem dX9_digest_23 : decode cX9_digest 23 = .ok (.lload_n 1, 1) := by decide +kernel
theorem dX9_digest_24 : decode cX9_digest 24 = .ok (.lmul, 1) := by decide +kernel
theorem dX9_digest_25 : decode cX9_digest 25 = .ok (.aload_n 0, 1) := by decide +kernel
theorem dX9_digest_26 : decode cX9_digest 26 = .ok (.getfield 30, 3) := by decide +kernel
theorem dX9_digest_29 : decode cX9_digest 29 = .ok (.iload_n 3, 1) := by decide +kernel
theorem dX9_digest_30 : decode cX9_digest 30 = .ok (.iaload, 1) := by decide +kernel
theorem dX9_digest_31 : decode cX9_digest 31 = .ok (.ifCond .ge 7, 3) := by decide +kernel
theorem dX9_digest_34 : decode cX9_digest 34 = .ok (.iconst (-1), 1) := by decide +kernel
theorem dX9_digest_35 : decode cX9_digest 35 = .ok (.goto 9, 3) := by decide +kernel
theorem dX9_digest_38 : decode cX9_digest 38 = .ok (.aload_n 0, 1) := by decide +kernel
theorem dX9_digest_39 : decode cX9_digest 39 = .ok (.getfield 30, 3) := by decide +kernel
theorem dX9_digest_42 : decode cX9_digest 42 = .ok (.iload_n 3, 1) := by decide +kernel
theorem dX9_digest_43 : decode cX9_digest 43 = .ok (.iaload, 1) := by decide +kernel
theorem dX9_digest_44 : decode cX9_digest 44 = .ok (.i2l, 1) := by decide +kernel
theorem dX9_digest_45 : decode cX9_digest 45 = .ok (.ladd, 1) := by decide +kernel
theorem dX9_digest_46 : decode cX9_digest 46 = .ok (.lstore_n 1, 1) := by decide +kernel
theorem dX9_digest_47 : decode cX9_digest 47 = .ok (.iconst 0, 1) := by decide +kernel
theorem dX9_digest_48 : decode cX9_digest 48 = .ok (.istore 4, 2) := by decide +kernel
theorem dX9_digest_50 : decode cX9_digest 50 = .ok (.iload 4, 2) := by decide +kernel
theorem dX9_digest_52 : decode cX9_digest 52 = .ok (.aload_n 0, 1) := by decide +kernel
theorem dX9_digest_53 : decode cX9_digest 53 = .ok (.getfield 30, 3) := by decide +kernel
theorem dX9_digest_56 : decode cX9_digest 56 = .ok (.iload_n 3, 1) := by decide +kernel
theorem dX9_digest_57 : decode cX9_digest 57 = .ok (.iaload, 1) := by decide +kernel
theorem dX9_digest_58 : decode cX9_digest 58 = .ok (.if_icmp .ge 29, 3) := by decide +kernel
theorem dX9_digest_61 : decode cX9_digest 61 = .ok (.ldc2_w 174, 3) := by decide +kernel
theorem dX9_digest_64 : decode cX9_digest 64 = .ok (.lload_n 1, 1) := by decide +kernel
theorem dX9_digest_65 : decode cX9_digest 65 = .ok (.lmul, 1) := by decide +kernel
theorem dX9_digest_66 : decode cX9_digest 66 = .ok (.aload_n 0, 1) := by decide +kernel
theorem dX9_digest_67 : decode cX9_digest 67 = .ok (.getfield 33, 3) := by decide +kernel
theorem dX9_digest_70 : decode cX9_digest 70 = .ok (.bipush 30, 2) := by decide +kernel
theorem dX9_digest_72 : decode cX9_digest 72 = .ok (.iload_n 3, 1) := by decide +kernel
theorem dX9_digest_73 : decode cX9_digest 73 = .ok (.imul, 1) := by decide +kernel
theorem dX9_digest_74 : decode cX9_digest 74 = .ok (.iload 4, 2) := by decide +kernel
theorem dX9_digest_76 : decode cX9_digest 76 = .ok (.iadd, 1) := by decide +kernel
theorem dX9_digest_77 : decode cX9_digest 77 = .ok (.iaload, 1) := by decide +kernel
theorem dX9_digest_78 : decode cX9_digest 78 = .ok (.i2l, 1) := by decide +kernel
theorem dX9_digest_79 : decode cX9_digest 79 = .ok (.ladd, 1) := by decide +kernel
theorem dX9_digest_80 : decode cX9_digest 80 = .ok (.lstore_n 1, 1) := by decide +kernel
theorem dX9_digest_81 : decode cX9_digest 81 = .ok (.iinc 4 1, 3) := by decide +kernel
theorem dX9_digest_84 : decode cX9_digest 84 = .ok (.goto (-34), 3) := by decide +kernel
theorem dX9_digest_87 : decode cX9_digest 87 = .ok (.iinc 3 1, 3) := by decide +kernel
theorem dX9_digest_90 : decode cX9_digest 90 = .ok (.goto (-78), 3) := by decide +kernel
theorem dX9_digest_93 : decode cX9_digest 93 = .ok (.iconst 0, 1) := by decide +kernel
theorem dX9_digest_94 : decode cX9_digest 94 = .ok (.istore_n 3, 1) := by decide +kernel
theorem dX9_digest_95 : decode cX9_digest 95 = .ok (.iload_n 3, 1) := by decide +kernel
theorem dX9_digest_96 : decode cX9_digest 96 = .ok (.aload_n 0, 1) := by decide +kernel
theorem dX9_digest_97 : decode cX9_digest 97 = .ok (.getfield 76, 3) := by decide +kernel
theorem dX9_digest_100 : decode cX9_digest 100 = .ok (.if_icmp .ge 39, 3) := by decide +kernel
theorem dX9_digest_103 : decode cX9_digest 103 = .ok (.iconst 0, 1) := by decide +kernel
theorem dX9_digest_104 : decode cX9_digest 104 = .ok (.istore 4, 2) := by decide +kernel
theorem dX9_digest_106 : decode cX9_digest 106 = .ok (.iload 4, 2) := by decide +kernel
theorem dX9_digest_108 : decode cX9_digest 108 = .ok (.iconst 4, 1) := by decide +kernel
theorem dX9_digest_109 : decode cX9_digest 109 = .ok (.if_icmp .gt 24, 3) := by decide +kernel
theorem dX9_digest_112 : decode cX9_digest 112 = .ok (.ldc2_w 174, 3) := by decide +kernel
theorem dX9_digest_115 : decode cX9_digest 115 = .ok (.lload_n 1, 1) := by decide +kernel
theorem dX9_digest_116 : decode cX9_digest 116 = .ok (.lmul, 1) := by decide +kernel
theorem dX9_digest_117 : decode cX9_digest 117 = .ok (.aload_n 0, 1) := by decide +kernel
theorem dX9_digest_118 : decode cX9_digest 118 = .ok (.iload_n 3, 1) := by decide +kernel
theorem dX9_digest_119 : decode cX9_digest 119 = .ok (.iload 4, 2) := by decide +kernel
theorem dX9_digest_121 : decode cX9_digest 121 = .ok (.invokevirtual 131, 3) := by decide +kernel
theorem dX9_digest_124 : decode cX9_digest 124 = .ok (.i2l, 1) := by decide +kernel
theorem dX9_digest_125 : decode cX9_digest 125 = .ok (.ladd, 1) := by decide +kernel
theorem dX9_digest_126 : decode cX9_digest 126 = .ok (.lstore_n 1, 1) := by decide +kernel
theorem dX9_digest_127 : decode cX9_digest 127 = .ok (.iinc 4 1, 3) := by decide +kernel
theorem dX9_digest_130 : decode cX9_digest 130 = .ok (.goto (-24), 3) := by decide +kernel
theorem dX9_digest_133 : decode cX9_digest 133 = .ok (.iinc 3 1, 3) := by decide +kernel
theorem dX9_digest_136 : decode cX9_digest 136 = .ok (.goto (-41), 3) := by decide +kernel
theorem dX9_digest_139 : decode cX9_digest 139 = .ok (.iconst 0, 1) := by decide +kernel
theorem dX9_digest_140 : decode cX9_digest 140 = .ok (.istore_n 3, 1) := by decide +kernel
theorem dX9_digest_141 : decode cX9_digest 141 = .ok (.iload_n 3, 1) := by decide +kernel
theorem dX9_digest_142 : decode cX9_digest 142 = .ok (.aload_n 0, 1) := by decide +kernel
theorem dX9_digest_143 : decode cX9_digest 143 = .ok (.getfield 119, 3) := by decide +kernel
theorem dX9_digest_146 : decode cX9_digest 146 = .ok (.if_icmp .ge 39, 3) := by decide +kernel
theorem dX9_digest_149 : decode cX9_digest 149 = .ok (.iconst 0, 1) := by decide +kernel
theorem dX9_digest_150 : decode cX9_digest 150 = .ok (.istore 4, 2) := by decide +kernel
theorem dX9_digest_152 : decode cX9_digest 152 = .ok (.iload 4, 2) := by decide +kernel
theorem dX9_digest_154 : decode cX9_digest 154 = .ok (.iconst 4, 1) := by decide +kernel
theorem dX9_digest_155 : decode cX9_digest 155 = .ok (.if_icmp .gt 24, 3) := by decide +kernel
theorem dX9_digest_158 : decode cX9_digest 158 = .ok (.ldc2_w 174, 3) := by decide +kernel
theorem dX9_digest_161 : decode cX9_digest 161 = .ok (.lload_n 1, 1) := by decide +kernel
theorem dX9_digest_162 : decode cX9_digest 162 = .ok (.lmul, 1) := by decide +kernel
theorem dX9_digest_163 : decode cX9_digest 163 = .ok (.aload_n 0, 1) := by decide +kernel
theorem dX9_digest_164 : decode cX9_digest 164 = .ok (.iload_n 3, 1) := by decide +kernel
theorem dX9_digest_165 : decode cX9_digest 165 = .ok (.iload 4, 2) := by decide +kernel
theorem dX9_digest_167 : decode cX9_digest 167 = .ok (.invokevirtual 150, 3) := by decide +kernel
theorem dX9_digest_170 : decode cX9_digest 170 = .ok (.i2l, 1) := by decide +kernel
theorem dX9_digest_171 : decode cX9_digest 171 = .ok (.ladd, 1) := by decide +kernel
theorem dX9_digest_172 : decode cX9_digest 172 = .ok (.lstore_n 1, 1) := by decide +kernel
theorem dX9_digest_173 : decode cX9_digest 173 = .ok (.iinc 4 1, 3) := by decide +kernel
theorem dX9_digest_176 : decode cX9_digest 176 = .ok (.goto (-24), 3) := by decide +kernel
theorem dX9_digest_179 : decode cX9_digest 179 = .ok (.iinc 3 1, 3) := by decide +kernel
theorem dX9_digest_182 : decode cX9_digest 182 = .ok (.goto (-41), 3) := by decide +kernel
theorem dX9_digest_185 : decode cX9_digest 185 = .ok (.iconst 0, 1) := by decide +kernel
theorem dX9_digest_186 : decode cX9_digest 186 = .ok (.istore_n 3, 1) := by decide +kernel
theorem dX9_digest_187 : decode cX9_digest 187 = .ok (.iload_n 3, 1) := by decide +kernel
theorem dX9_digest_188 : decode cX9_digest 188 = .ok (.iconst 4, 1) := by decide +kernel
theorem dX9_digest_189 : decode cX9_digest 189 = .ok (.aload_n 0, 1) := by decide +kernel
theorem dX9_digest_190 : decode cX9_digest 190 = .ok (.getfield 162, 3) := by decide +kernel
theorem dX9_digest_193 : decode cX9_digest 193 = .ok (.imul, 1) := by decide +kernel
theorem dX9_digest_194 : decode cX9_digest 194 = .ok (.if_icmp .ge 30, 3) := by decide +kernel
theorem dX9_digest_197 : decode cX9_digest 197 = .ok (.iload_n 3, 1) := by decide +kernel
theorem dX9_digest_198 : decode cX9_digest 198 = .ok (.sipush 1600, 3) := by decide +kernel
theorem dX9_digest_201 : decode cX9_digest 201 = .ok (.if_icmp .ge 23, 3) := by decide +kernel
theorem dX9_digest_204 : decode cX9_digest 204 = .ok (.ldc2_w 174, 3) := by decide +kernel
theorem dX9_digest_207 : decode cX9_digest 207 = .ok (.lload_n 1, 1) := by decide +kernel
theorem dX9_digest_208 : decode cX9_digest 208 = .ok (.lmul, 1) := by decide +kernel
theorem dX9_digest_209 : decode cX9_digest 209 = .ok (.aload_n 0, 1) := by decide +kernel
theorem dX9_digest_210 : decode cX9_digest 210 = .ok (.getfield 63, 3) := by decide +kernel
theorem dX9_digest_213 : decode cX9_digest 213 = .ok (.iload_n 3, 1) := by decide +kernel
theorem dX9_digest_214 : decode cX9_digest 214 = .ok (.iaload, 1) := by decide +kernel
theorem dX9_digest_215 : decode cX9_digest 215 = .ok (.i2l, 1) := by decide +kernel
theorem dX9_digest_216 : decode cX9_digest 216 = .ok (.ladd, 1) := by decide +kernel
theorem dX9_digest_217 : decode cX9_digest 217 = .ok (.lstore_n 1, 1) := by decide +kernel
theorem dX9_digest_218 : decode cX9_digest 218 = .ok (.iinc 3 1, 3) := by decide +kernel
theorem dX9_digest_221 : decode cX9_digest 221 = .ok (.goto (-34), 3) := by decide +kernel
theorem dX9_digest_224 : decode cX9_digest 224 = .ok (.lload_n 1, 1) := by decide +kernel
theorem dX9_digest_225 : decode cX9_digest 225 = .ok (.lreturn, 1) := by decide +kernel
theorem dJ6_numberOfLeadingZeros_0f7a4_0 : decode cJ6_numberOfLeadingZeros_0f7a4 0 = .ok (.iload_n 0, 1) := by decide +kernel
theorem dJ6_numberOfLeadingZeros_0f7a4_1 : decode cJ6_numberOfLeadingZeros_0f7a4 1 = .ok (.ifCond .gt 14, 3) := by decide +kernel
theorem dJ6_numberOfLeadingZeros_0f7a4_4 : decode cJ6_numberOfLeadingZeros_0f7a4 4 = .ok (.iload_n 0, 1) := by decide +kernel
theorem dJ6_numberOfLeadingZeros_0f7a4_5 : decode cJ6_numberOfLeadingZeros_0f7a4 5 = .ok (.ifCond .ne 8, 3) := by decide +kernel
theorem dJ6_numberOfLeadingZeros_0f7a4_8 : decode cJ6_numberOfLeadingZeros_0f7a4 8 = .ok (.bipush 32, 2) := by decide +kernel
theorem dJ6_numberOfLeadingZeros_0f7a4_10 : decode cJ6_numberOfLeadingZeros_0f7a4 10 = .ok (.goto 4, 3) := by decide +kernel
theorem dJ6_numberOfLeadingZeros_0f7a4_13 : decode cJ6_numberOfLeadingZeros_0f7a4 13 = .ok (.iconst 0, 1) := by decide +kernel
theorem dJ6_numberOfLeadingZeros_0f7a4_14 : decode cJ6_numberOfLeadingZeros_0f7a4 14 = .ok (.ireturn, 1) := by decide +kernel
theorem dJ6_numberOfLeadingZeros_0f7a4_15 : decode cJ6_numberOfLeadingZeros_0f7a4 15 = .ok (.bipush 31, 2) := by decide +kernel
theorem dJ6_numberOfLeadingZeros_0f7a4_17 : decode cJ6_numberOfLeadingZeros_0f7a4 17 = .ok (.istore_n 1, 1) := by decide +kernel
theorem dJ6_numberOfLeadingZeros_0f7a4_18 : decode cJ6_numberOfLeadingZeros_0f7a4 18 = .ok (.iload_n 0, 1) := by decide +kernel
theorem dJ6_numberOfLeadingZeros_0f7a4_19 : decode cJ6_numberOfLeadingZeros_0f7a4 19 = .ok (.ldc_w 264, 3) := by decide +kernel
theorem dJ6_numberOfLeadingZeros_0f7a4_22 : decode cJ6_numberOfLeadingZeros_0f7a4 22 = .ok (.if_icmp .lt 11, 3) := by decide +kernel
theorem dJ6_numberOfLeadingZeros_0f7a4_25 : decode cJ6_numberOfLeadingZeros_0f7a4 25 = .ok (.iinc 1 (-16), 3) := by decide +kernel
theorem dJ6_numberOfLeadingZeros_0f7a4_28 : decode cJ6_numberOfLeadingZeros_0f7a4 28 = .ok (.iload_n 0, 1) := by decide +kernel
theorem dJ6_numberOfLeadingZeros_0f7a4_29 : decode cJ6_numberOfLeadingZeros_0f7a4 29 = .ok (.bipush 16, 2) := by decide +kernel
theorem dJ6_numberOfLeadingZeros_0f7a4_31 : decode cJ6_numberOfLeadingZeros_0f7a4 31 = .ok (.iushr, 1) := by decide +kernel
theorem dJ6_numberOfLeadingZeros_0f7a4_32 : decode cJ6_numberOfLeadingZeros_0f7a4 32 = .ok (.istore_n 0, 1) := by decide +kernel
theorem dJ6_numberOfLeadingZeros_0f7a4_33 : decode cJ6_numberOfLeadingZeros_0f7a4 33 = .ok (.iload_n 0, 1) := by decide +kernel
theorem dJ6_numberOfLeadingZeros_0f7a4_34 : decode cJ6_numberOfLeadingZeros_0f7a4 34 = .ok (.sipush 256, 3) := by decide +kernel
theorem dJ6_numberOfLeadingZeros_0f7a4_37 : decode cJ6_numberOfLeadingZeros_0f7a4 37 = .ok (.if_icmp .lt 11, 3) := by decide +kernel
theorem dJ6_numberOfLeadingZeros_0f7a4_40 : decode cJ6_numberOfLeadingZeros_0f7a4 40 = .ok (.iinc 1 (-8), 3) := by decide +kernel
theorem dJ6_numberOfLeadingZeros_0f7a4_43 : decode cJ6_numberOfLeadingZeros_0f7a4 43 = .ok (.iload_n 0, 1) := by decide +kernel
theorem dJ6_numberOfLeadingZeros_0f7a4_44 : decode cJ6_numberOfLeadingZeros_0f7a4 44 = .ok (.bipush 8, 2) := by decide +kernel
theorem dJ6_numberOfLeadingZeros_0f7a4_46 : decode cJ6_numberOfLeadingZeros_0f7a4 46 = .ok (.iushr, 1) := by decide +kernel
theorem dJ6_numberOfLeadingZeros_0f7a4_47 : decode cJ6_numberOfLeadingZeros_0f7a4 47 = .ok (.istore_n 0, 1) := by decide +kernel
theorem dJ6_numberOfLeadingZeros_0f7a4_48 : decode cJ6_numberOfLeadingZeros_0f7a4 48 = .ok (.iload_n 0, 1) := by decide +kernel
theorem dJ6_numberOfLeadingZeros_0f7a4_49 : decode cJ6_numberOfLeadingZeros_0f7a4 49 = .ok (.bipush 16, 2) := by decide +kernel
theorem dJ6_numberOfLeadingZeros_0f7a4_51 : decode cJ6_numberOfLeadingZeros_0f7a4 51 = .ok (.if_icmp .lt 10, 3) := by decide +kernel
theorem dJ6_numberOfLeadingZeros_0f7a4_54 : decode cJ6_numberOfLeadingZeros_0f7a4 54 = .ok (.iinc 1 (-4), 3) := by decide +kernel
theorem dJ6_numberOfLeadingZeros_0f7a4_57 : decode cJ6_numberOfLeadingZeros_0f7a4 57 = .ok (.iload_n 0, 1) := by decide +kernel
theorem dJ6_numberOfLeadingZeros_0f7a4_58 : decode cJ6_numberOfLeadingZeros_0f7a4 58 = .ok (.iconst 4, 1) := by decide +kernel
theorem dJ6_numberOfLeadingZeros_0f7a4_59 : decode cJ6_numberOfLeadingZeros_0f7a4 59 = .ok (.iushr, 1) := by decide +kernel
theorem dJ6_numberOfLeadingZeros_0f7a4_60 : decode cJ6_numberOfLeadingZeros_0f7a4 60 = .ok (.istore_n 0, 1) := by decide +kernel
theorem dJ6_numberOfLeadingZeros_0f7a4_61 : decode cJ6_numberOfLeadingZeros_0f7a4 61 = .ok (.iload_n 0, 1) := by decide +kernel
theorem dJ6_numberOfLeadingZeros_0f7a4_62 : decode cJ6_numberOfLeadingZeros_0f7a4 62 = .ok (.iconst 4, 1) := by decide +kernel
theorem dJ6_numberOfLeadingZeros_0f7a4_63 : decode cJ6_numberOfLeadingZeros_0f7a4 63 = .ok (.if_icmp .lt 10, 3) := by decide +kernel
theorem dJ6_numberOfLeadingZeros_0f7a4_66 : decode cJ6_numberOfLeadingZeros_0f7a4 66 = .ok (.iinc 1 (-2), 3) := by decide +kernel
theorem dJ6_numberOfLeadingZeros_0f7a4_69 : decode cJ6_numberOfLeadingZeros_0f7a4 69 = .ok (.iload_n 0, 1) := by decide +kernel
theorem dJ6_numberOfLeadingZeros_0f7a4_70 : decode cJ6_numberOfLeadingZeros_0f7a4 70 = .ok (.iconst 2, 1) := by decide +kernel
theorem dJ6_numberOfLeadingZeros_0f7a4_71 : decode cJ6_numberOfLeadingZeros_0f7a4 71 = .ok (.iushr, 1) := by decide +kernel
theorem dJ6_numberOfLeadingZeros_0f7a4_72 : decode cJ6_numberOfLeadingZeros_0f7a4 72 = .ok (.istore_n 0, 1) := by decide +kernel
theorem dJ6_numberOfLeadingZeros_0f7a4_73 : decode cJ6_numberOfLeadingZeros_0f7a4 73 = .ok (.iload_n 1, 1) := by decide +kernel
theorem dJ6_numberOfLeadingZeros_0f7a4_74 : decode cJ6_numberOfLeadingZeros_0f7a4 74 = .ok (.iload_n 0, 1) := by decide +kernel
theorem dJ6_numberOfLeadingZeros_0f7a4_75 : decode cJ6_numberOfLeadingZeros_0f7a4 75 = .ok (.iconst 1, 1) := by decide +kernel
theorem dJ6_numberOfLeadingZeros_0f7a4_76 : decode cJ6_numberOfLeadingZeros_0f7a4 76 = .ok (.iushr, 1) := by decide +kernel
theorem dJ6_numberOfLeadingZeros_0f7a4_77 : decode cJ6_numberOfLeadingZeros_0f7a4 77 = .ok (.isub, 1) := by decide +kernel
theorem dJ6_numberOfLeadingZeros_0f7a4_78 : decode cJ6_numberOfLeadingZeros_0f7a4 78 = .ok (.ireturn, 1) := by decide +kernel
theorem dJ9_abs_0f7a4_0 : decode cJ9_abs_0f7a4 0 = .ok (.iload_n 0, 1) := by decide +kernel
theorem dJ9_abs_0f7a4_1 : decode cJ9_abs_0f7a4 1 = .ok (.ifCond .ge 8, 3) := by decide +kernel
theorem dJ9_abs_0f7a4_4 : decode cJ9_abs_0f7a4 4 = .ok (.iload_n 0, 1) := by decide +kernel
theorem dJ9_abs_0f7a4_5 : decode cJ9_abs_0f7a4 5 = .ok (.ineg, 1) := by decide +kernel
theorem dJ9_abs_0f7a4_6 : decode cJ9_abs_0f7a4 6 = .ok (.goto 4, 3) := by decide +kernel
theorem dJ9_abs_0f7a4_9 : decode cJ9_abs_0f7a4 9 = .ok (.iload_n 0, 1) := by decide +kernel
theorem dJ9_abs_0f7a4_10 : decode cJ9_abs_0f7a4 10 = .ok (.ireturn, 1) := by decide +kernel
theorem dJ9_max_7cf53_0 : decode cJ9_max_7cf53 0 = .ok (.iload_n 0, 1) := by decide +kernel
theorem dJ9_max_7cf53_1 : decode cJ9_max_7cf53 1 = .ok (.iload_n 1, 1) := by decide +kernel
theorem dJ9_max_7cf53_2 : decode cJ9_max_7cf53 2 = .ok (.if_icmp .lt 7, 3) := by decide +kernel
theorem dJ9_max_7cf53_5 : decode cJ9_max_7cf53 5 = .ok (.iload_n 0, 1) := by decide +kernel
theorem dJ9_max_7cf53_6 : decode cJ9_max_7cf53 6 = .ok (.goto 4, 3) := by decide +kernel
theorem dJ9_max_7cf53_9 : decode cJ9_max_7cf53 9 = .ok (.iload_n 1, 1) := by decide +kernel
theorem dJ9_max_7cf53_10 : decode cJ9_max_7cf53 10 = .ok (.ireturn, 1) := by decide +kernel
theorem dJ9_min_7cf53_0 : decode cJ9_min_7cf53 0 = .ok (.iload_n 0, 1) := by decide +kernel
theorem dJ9_min_7cf53_1 : decode cJ9_min_7cf53 1 = .ok (.iload_n 1, 1) := by decide +kernel
theorem dJ9_min_7cf53_2 : decode cJ9_min_7cf53 2 = .ok (.if_icmp .gt 7, 3) := by decide +kernel
theorem dJ9_min_7cf53_5 : decode cJ9_min_7cf53 5 = .ok (.iload_n 0, 1) := by decide +kernel
theorem dJ9_min_7cf53_6 : decode cJ9_min_7cf53 6 = .ok (.goto 4, 3) := by decide +kernel
theorem dJ9_min_7cf53_9 : decode cJ9_min_7cf53 9 = .ok (.iload_n 1, 1) := by decide +kernel
theorem dJ9_min_7cf53_10 : decode cJ9_min_7cf53 10 = .ok (.ireturn, 1) := by decide +kernel
theorem dJxa1e45_init_da8c8_0 : decode cJxa1e45_init_da8c8 0 = .ok (.aload_n 0, 1) := by decide +kernel
theorem dJxa1e45_init_da8c8_1 : decode cJxa1e45_init_da8c8 1 = .ok (.invokespecial 1, 3) := by decide +kernel
theorem dJxa1e45_init_da8c8_4 : decode cJxa1e45_init_da8c8 4 = .ok (.return_, 1) := by decide +kernel
theorem dJxc12de_init_da8c8_0 : decode cJxc12de_init_da8c8 0 = .ok (.aload_n 0, 1) := by decide +kernel
theorem dJxc12de_init_da8c8_1 : decode cJxc12de_init_da8c8 1 = .ok (.invokespecial 1, 3) := by decide +kernel
theorem dJxc12de_init_da8c8_4 : decode cJxc12de_init_da8c8 4 = .ok (.aload_n 0, 1) := by decide +kernel
theorem dJxc12de_init_da8c8_5 : decode cJxc12de_init_da8c8 5 = .ok (.iconst 0, 1) := by decide +kernel
theorem dJxc12de_init_da8c8_6 : decode cJxc12de_init_da8c8 6 = .ok (.putfield 7, 3) := by decide +kernel
theorem dJxc12de_init_da8c8_9 : decode cJxc12de_init_da8c8 9 = .ok (.return_, 1) := by decide +kernel
theorem dJx4a65c_init_da8c8_0 : decode cJx4a65c_init_da8c8 0 = .ok (.aload_n 0, 1) := by decide +kernel
theorem dJx4a65c_init_da8c8_1 : decode cJx4a65c_init_da8c8 1 = .ok (.invokespecial 1, 3) := by decide +kernel
theorem dJx4a65c_init_da8c8_4 : decode cJx4a65c_init_da8c8 4 = .ok (.aload_n 0, 1) := by decide +kernel
theorem dJx4a65c_init_da8c8_5 : decode cJx4a65c_init_da8c8 5 = .ok (.getstatic 39, 3) := by decide +kernel
theorem dJx4a65c_init_da8c8_8 : decode cJx4a65c_init_da8c8 8 = .ok (.putfield 9, 3) := by decide +kernel
theorem dJx4a65c_init_da8c8_11 : decode cJx4a65c_init_da8c8 11 = .ok (.return_, 1) := by decide +kernel
theorem dJx4a65c_grow_92f84_0 : decode cJx4a65c_grow_92f84 0 = .ok (.aload_n 0, 1) := by decide +kernel
theorem dJx4a65c_grow_92f84_1 : decode cJx4a65c_grow_92f84 1 = .ok (.getfield 9, 3) := by decide +kernel
theorem dJx4a65c_grow_92f84_4 : decode cJx4a65c_grow_92f84 4 = .ok (.arraylength, 1) := by decide +kernel
theorem dJx4a65c_grow_92f84_5 : decode cJx4a65c_grow_92f84 5 = .ok (.istore_n 2, 1) := by decide +kernel
theorem dJx4a65c_grow_92f84_6 : decode cJx4a65c_grow_92f84 6 = .ok (.iload_n 2, 1) := by decide +kernel
theorem dJx4a65c_grow_92f84_7 : decode cJx4a65c_grow_92f84 7 = .ok (.ifCond .gt 13, 3) := by decide +kernel
theorem dJx4a65c_grow_92f84_10 : decode cJx4a65c_grow_92f84 10 = .ok (.aload_n 0, 1) := by decide +kernel
theorem dJx4a65c_grow_92f84_11 : decode cJx4a65c_grow_92f84 11 = .ok (.getfield 9, 3) := by decide +kernel
theorem dJx4a65c_grow_92f84_14 : decode cJx4a65c_grow_92f84 14 = .ok (.getstatic 39, 3) := by decide +kernel
theorem dJx4a65c_grow_92f84_17 : decode cJx4a65c_grow_92f84 17 = .ok (.if_acmp .eq 28, 3) := by decide +kernel
theorem dJx4a65c_grow_92f84_20 : decode cJx4a65c_grow_92f84 20 = .ok (.iload_n 2, 1) := by decide +kernel
theorem dJx4a65c_grow_92f84_21 : decode cJx4a65c_grow_92f84 21 = .ok (.iload_n 1, 1) := by decide +kernel
theorem dJx4a65c_grow_92f84_22 : decode cJx4a65c_grow_92f84 22 = .ok (.iload_n 2, 1) := by decide +kernel
theorem dJx4a65c_grow_92f84_23 : decode cJx4a65c_grow_92f84 23 = .ok (.isub, 1) := by decide +kernel
theorem dJx4a65c_grow_92f84_24 : decode cJx4a65c_grow_92f84 24 = .ok (.iload_n 2, 1) := by decide +kernel
theorem dJx4a65c_grow_92f84_25 : decode cJx4a65c_grow_92f84 25 = .ok (.iconst 1, 1) := by decide +kernel
theorem dJx4a65c_grow_92f84_26 : decode cJx4a65c_grow_92f84 26 = .ok (.ishr, 1) := by decide +kernel
theorem dJx4a65c_grow_92f84_27 : decode cJx4a65c_grow_92f84 27 = .ok (.invokestatic 73, 3) := by decide +kernel
theorem dJx4a65c_grow_92f84_30 : decode cJx4a65c_grow_92f84 30 = .ok (.istore_n 3, 1) := by decide +kernel
theorem dJx4a65c_grow_92f84_31 : decode cJx4a65c_grow_92f84 31 = .ok (.aload_n 0, 1) := by decide +kernel
theorem dJx4a65c_grow_92f84_32 : decode cJx4a65c_grow_92f84 32 = .ok (.aload_n 0, 1) := by decide +kernel
theorem dJx4a65c_grow_92f84_33 : decode cJx4a65c_grow_92f84 33 = .ok (.getfield 9, 3) := by decide +kernel
theorem dJx4a65c_grow_92f84_36 : decode cJx4a65c_grow_92f84 36 = .ok (.iload_n 3, 1) := by decide +kernel
theorem dJx4a65c_grow_92f84_37 : decode cJx4a65c_grow_92f84 37 = .ok (.invokestatic 66, 3) := by decide +kernel
theorem dJx4a65c_grow_92f84_40 : decode cJx4a65c_grow_92f84 40 = .ok (.dup_x1, 1) := by decide +kernel
theorem dJx4a65c_grow_92f84_41 : decode cJx4a65c_grow_92f84 41 = .ok (.putfield 9, 3) := by decide +kernel
theorem dJx4a65c_grow_92f84_44 : decode cJx4a65c_grow_92f84 44 = .ok (.areturn, 1) := by decide +kernel
theorem dJx4a65c_grow_92f84_45 : decode cJx4a65c_grow_92f84 45 = .ok (.aload_n 0, 1) := by decide +kernel
theorem dJx4a65c_grow_92f84_46 : decode cJx4a65c_grow_92f84 46 = .ok (.bipush 10, 2) := by decide +kernel
theorem dJx4a65c_grow_92f84_48 : decode cJx4a65c_grow_92f84 48 = .ok (.iload_n 1, 1) := by decide +kernel
theorem dJx4a65c_grow_92f84_49 : decode cJx4a65c_grow_92f84 49 = .ok (.invokestatic 79, 3) := by decide +kernel
theorem dJx4a65c_grow_92f84_52 : decode cJx4a65c_grow_92f84 52 = .ok (.anewarray 7, 3) := by decide +kernel
theorem dJx4a65c_grow_92f84_55 : decode cJx4a65c_grow_92f84 55 = .ok (.dup_x1, 1) := by decide +kernel
theorem dJx4a65c_grow_92f84_56 : decode cJx4a65c_grow_92f84 56 = .ok (.putfield 9, 3) := by decide +kernel
theorem dJx4a65c_grow_92f84_59 : decode cJx4a65c_grow_92f84 59 = .ok (.areturn, 1) := by decide +kernel
theorem dJx4a65c_grow_d5877_0 : decode cJx4a65c_grow_d5877 0 = .ok (.aload_n 0, 1) := by decide +kernel
theorem dJx4a65c_grow_d5877_1 : decode cJx4a65c_grow_d5877 1 = .ok (.aload_n 0, 1) := by decide +kernel
theorem dJx4a65c_grow_d5877_2 : decode cJx4a65c_grow_d5877 2 = .ok (.getfield 48, 3) := by decide +kernel
theorem dJx4a65c_grow_d5877_5 : decode cJx4a65c_grow_d5877 5 = .ok (.iconst 1, 1) := by decide +kernel
theorem dJx4a65c_grow_d5877_6 : decode cJx4a65c_grow_d5877 6 = .ok (.iadd, 1) := by decide +kernel
theorem dJx4a65c_grow_d5877_7 : decode cJx4a65c_grow_d5877 7 = .ok (.invokevirtual 69, 3) := by decide +kernel
theorem dJx4a65c_grow_d5877_10 : decode cJx4a65c_grow_d5877 10 = .ok (.areturn, 1) := by decide +kernel
theorem dJx4a65c_size_8abf5_0 : decode cJx4a65c_size_8abf5 0 = .ok (.aload_n 0, 1) := by decide +kernel
theorem dJx4a65c_size_8abf5_1 : decode cJx4a65c_size_8abf5 1 = .ok (.getfield 48, 3) := by decide +kernel
theorem dJx4a65c_size_8abf5_4 : decode cJx4a65c_size_8abf5 4 = .ok (.ireturn, 1) := by decide +kernel
theorem dJx4a65c_isEmpty_aae02_0 : decode cJx4a65c_isEmpty_aae02 0 = .ok (.aload_n 0, 1) := by decide +kernel
theorem dJx4a65c_isEmpty_aae02_1 : decode cJx4a65c_isEmpty_aae02 1 = .ok (.getfield 48, 3) := by decide +kernel
theorem dJx4a65c_isEmpty_aae02_4 : decode cJx4a65c_isEmpty_aae02 4 = .ok (.ifCond .ne 7, 3) := by decide +kernel
theorem dJx4a65c_isEmpty_aae02_7 : decode cJx4a65c_isEmpty_aae02 7 = .ok (.iconst 1, 1) := by decide +kernel
theorem dJx4a65c_isEmpty_aae02_8 : decode cJx4a65c_isEmpty_aae02 8 = .ok (.goto 4, 3) := by decide +kernel
theorem dJx4a65c_isEmpty_aae02_11 : decode cJx4a65c_isEmpty_aae02 11 = .ok (.iconst 0, 1) := by decide +kernel
theorem dJx4a65c_isEmpty_aae02_12 : decode cJx4a65c_isEmpty_aae02 12 = .ok (.ireturn, 1) := by decide +kernel
theorem dJx4a65c_elementData_915e3_0 : decode cJx4a65c_elementData_915e3 0 = .ok (.aload_n 0, 1) := by decide +kernel
theorem dJx4a65c_elementData_915e3_1 : decode cJx4a65c_elementData_915e3 1 = .ok (.getfield 9, 3) := by decide +kernel
theorem dJx4a65c_elementData_915e3_4 : decode cJx4a65c_elementData_915e3 4 = .ok (.iload_n 1, 1) := by decide +kernel
theorem dJx4a65c_elementData_915e3_5 : decode cJx4a65c_elementData_915e3 5 = .ok (.aaload, 1) := by decide +kernel
theorem dJx4a65c_elementData_915e3_6 : decode cJx4a65c_elementData_915e3 6 = .ok (.areturn, 1) := by decide +kernel
theorem dJx4a65c_get_915e3_0 : decode cJx4a65c_get_915e3 0 = .ok (.iload_n 1, 1) := by decide +kernel
theorem dJx4a65c_get_915e3_1 : decode cJx4a65c_get_915e3 1 = .ok (.aload_n 0, 1) := by decide +kernel
theorem dJx4a65c_get_915e3_2 : decode cJx4a65c_get_915e3 2 = .ok (.getfield 48, 3) := by decide +kernel
theorem dJx4a65c_get_915e3_5 : decode cJx4a65c_get_915e3 5 = .ok (.invokestatic 118, 3) := by decide +kernel
theorem dJx4a65c_get_915e3_8 : decode cJx4a65c_get_915e3 8 = .ok (.pop, 1) := by decide +kernel
theorem dJx4a65c_get_915e3_9 : decode cJx4a65c_get_915e3 9 = .ok (.aload_n 0, 1) := by decide +kernel
theorem dJx4a65c_get_915e3_10 : decode cJx4a65c_get_915e3 10 = .ok (.iload_n 1, 1) := by decide +kernel
theorem dJx4a65c_get_915e3_11 : decode cJx4a65c_get_915e3 11 = .ok (.invokevirtual 123, 3) := by decide +kernel
theorem dJx4a65c_get_915e3_14 : decode cJx4a65c_get_915e3 14 = .ok (.areturn, 1) := by decide +kernel
theorem dJx4a65c_add_72be8_0 : decode cJx4a65c_add_72be8 0 = .ok (.iload_n 3, 1) := by decide +kernel
theorem dJx4a65c_add_72be8_1 : decode cJx4a65c_add_72be8 1 = .ok (.aload_n 2, 1) := by decide +kernel
theorem dJx4a65c_add_72be8_2 : decode cJx4a65c_add_72be8 2 = .ok (.arraylength, 1) := by decide +kernel
theorem dJx4a65c_add_72be8_3 : decode cJx4a65c_add_72be8 3 = .ok (.if_icmp .ne 8, 3) := by decide +kernel
theorem dJx4a65c_add_72be8_6 : decode cJx4a65c_add_72be8 6 = .ok (.aload_n 0, 1) := by decide +kernel
theorem dJx4a65c_add_72be8_7 : decode cJx4a65c_add_72be8 7 = .ok (.invokevirtual 129, 3) := by decide +kernel
theorem dJx4a65c_add_72be8_10 : decode cJx4a65c_add_72be8 10 = .ok (.astore_n 2, 1) := by decide +kernel
theorem dJx4a65c_add_72be8_11 : decode cJx4a65c_add_72be8 11 = .ok (.aload_n 2, 1) := by decide +kernel
theorem dJx4a65c_add_72be8_12 : decode cJx4a65c_add_72be8 12 = .ok (.iload_n 3, 1) := by decide +kernel
theorem dJx4a65c_add_72be8_13 : decode cJx4a65c_add_72be8 13 = .ok (.aload_n 1, 1) := by decide +kernel
theorem dJx4a65c_add_72be8_14 : decode cJx4a65c_add_72be8 14 = .ok (.aastore, 1) := by decide +kernel
theorem dJx4a65c_add_72be8_15 : decode cJx4a65c_add_72be8 15 = .ok (.aload_n 0, 1) := by decide +kernel
theorem dJx4a65c_add_72be8_16 : decode cJx4a65c_add_72be8 16 = .ok (.iload_n 3, 1) := by decide +kernel
theorem dJx4a65c_add_72be8_17 : decode cJx4a65c_add_72be8 17 = .ok (.iconst 1, 1) := by decide +kernel
theorem dJx4a65c_add_72be8_18 : decode cJx4a65c_add_72be8 18 = .ok (.iadd, 1) := by decide +kernel
theorem dJx4a65c_add_72be8_19 : decode cJx4a65c_add_72be8 19 = .ok (.putfield 48, 3) := by decide +kernel
theorem dJx4a65c_add_72be8_22 : decode cJx4a65c_add_72be8 22 = .ok (.return_, 1) := by decide +kernel
theorem dJx4a65c_add_9ea2d_0 : decode cJx4a65c_add_9ea2d 0 = .ok (.aload_n 0, 1) := by decide +kernel
theorem dJx4a65c_add_9ea2d_1 : decode cJx4a65c_add_9ea2d 1 = .ok (.dup, 1) := by decide +kernel
theorem dJx4a65c_add_9ea2d_2 : decode cJx4a65c_add_9ea2d 2 = .ok (.getfield 63, 3) := by decide +kernel
theorem dJx4a65c_add_9ea2d_5 : decode cJx4a65c_add_9ea2d 5 = .ok (.iconst 1, 1) := by decide +kernel
theorem dJx4a65c_add_9ea2d_6 : decode cJx4a65c_add_9ea2d 6 = .ok (.iadd, 1) := by decide +kernel
theorem dJx4a65c_add_9ea2d_7 : decode cJx4a65c_add_9ea2d 7 = .ok (.putfield 63, 3) := by decide +kernel
theorem dJx4a65c_add_9ea2d_10 : decode cJx4a65c_add_9ea2d 10 = .ok (.aload_n 0, 1) := by decide +kernel
theorem dJx4a65c_add_9ea2d_11 : decode cJx4a65c_add_9ea2d 11 = .ok (.aload_n 1, 1) := by decide +kernel
theorem dJx4a65c_add_9ea2d_12 : decode cJx4a65c_add_9ea2d 12 = .ok (.aload_n 0, 1) := by decide +kernel
theorem dJx4a65c_add_9ea2d_13 : decode cJx4a65c_add_9ea2d 13 = .ok (.getfield 9, 3) := by decide +kernel
theorem dJx4a65c_add_9ea2d_16 : decode cJx4a65c_add_9ea2d 16 = .ok (.aload_n 0, 1) := by decide +kernel
theorem dJx4a65c_add_9ea2d_17 : decode cJx4a65c_add_9ea2d 17 = .ok (.getfield 48, 3) := by decide +kernel
theorem dJx4a65c_add_9ea2d_20 : decode cJx4a65c_add_9ea2d 20 = .ok (.invokevirtual 131, 3) := by decide +kernel
theorem dJx4a65c_add_9ea2d_23 : decode cJx4a65c_add_9ea2d 23 = .ok (.iconst 1, 1) := by decide +kernel
theorem dJx4a65c_add_9ea2d_24 : decode cJx4a65c_add_9ea2d 24 = .ok (.ireturn, 1) := by decide +kernel
theorem dJ7_copyOf_1904c_0 : decode cJ7_copyOf_1904c 0 = .ok (.aload_n 0, 1) := by decide +kernel
theorem dJ7_copyOf_1904c_1 : decode cJ7_copyOf_1904c 1 = .ok (.iload_n 1, 1) := by decide +kernel
theorem dJ7_copyOf_1904c_2 : decode cJ7_copyOf_1904c 2 = .ok (.aload_n 0, 1) := by decide +kernel
theorem dJ7_copyOf_1904c_3 : decode cJ7_copyOf_1904c 3 = .ok (.invokevirtual 86, 3) := by decide +kernel
theorem dJ7_copyOf_1904c_6 : decode cJ7_copyOf_1904c 6 = .ok (.invokestatic 300, 3) := by decide +kernel
theorem dJ7_copyOf_1904c_9 : decode cJ7_copyOf_1904c 9 = .ok (.areturn, 1) := by decide +kernel
theorem dJ7_copyOf_6403c_0 : decode cJ7_copyOf_6403c 0 = .ok (.aload_n 2, 1) := by decide +kernel
theorem dJ7_copyOf_6403c_1 : decode cJ7_copyOf_6403c 1 = .ok (.ldc 110, 2) := by decide +kernel
theorem dJ7_copyOf_6403c_3 : decode cJ7_copyOf_6403c 3 = .ok (.if_acmp .ne 10, 3) := by decide +kernel
theorem dJ7_copyOf_6403c_6 : decode cJ7_copyOf_6403c 6 = .ok (.iload_n 1, 1) := by decide +kernel
theorem dJ7_copyOf_6403c_7 : decode cJ7_copyOf_6403c 7 = .ok (.anewarray 2, 3) := by decide +kernel
theorem dJ7_copyOf_6403c_10 : decode cJ7_copyOf_6403c 10 = .ok (.goto 14, 3) := by decide +kernel
theorem dJ7_copyOf_6403c_13 : decode cJ7_copyOf_6403c 13 = .ok (.aload_n 2, 1) := by decide +kernel
theorem dJ7_copyOf_6403c_14 : decode cJ7_copyOf_6403c 14 = .ok (.invokevirtual 90, 3) := by decide +kernel
theorem dJ7_copyOf_6403c_17 : decode cJ7_copyOf_6403c 17 = .ok (.iload_n 1, 1) := by decide +kernel
theorem dJ7_copyOf_6403c_18 : decode cJ7_copyOf_6403c 18 = .ok (.invokestatic 95, 3) := by decide +kernel
theorem dJ7_copyOf_6403c_21 : decode cJ7_copyOf_6403c 21 = .ok (.checkcast 110, 3) := by decide +kernel
theorem dJ7_copyOf_6403c_24 : decode cJ7_copyOf_6403c 24 = .ok (.astore_n 3, 1) := by decide +kernel
theorem dJ7_copyOf_6403c_25 : decode cJ7_copyOf_6403c 25 = .ok (.aload_n 0, 1) := by decide +kernel
theorem dJ7_copyOf_6403c_26 : decode cJ7_copyOf_6403c 26 = .ok (.iconst 0, 1) := by decide +kernel
theorem dJ7_copyOf_6403c_27 : decode cJ7_copyOf_6403c 27 = .ok (.aload_n 3, 1) := by decide +kernel
theorem dJ7_copyOf_6403c_28 : decode cJ7_copyOf_6403c 28 = .ok (.iconst 0, 1) := by decide +kernel
theorem dJ7_copyOf_6403c_29 : decode cJ7_copyOf_6403c 29 = .ok (.aload_n 0, 1) := by decide +kernel
theorem dJ7_copyOf_6403c_30 : decode cJ7_copyOf_6403c 30 = .ok (.arraylength, 1) := by decide +kernel
theorem dJ7_copyOf_6403c_31 : decode cJ7_copyOf_6403c 31 = .ok (.iload_n 1, 1) := by decide +kernel
theorem dJ7_copyOf_6403c_32 : decode cJ7_copyOf_6403c 32 = .ok (.invokestatic 304, 3) := by decide +kernel
theorem dJ7_copyOf_6403c_35 : decode cJ7_copyOf_6403c 35 = .ok (.invokestatic 150, 3) := by decide +kernel
theorem dJ7_copyOf_6403c_38 : decode cJ7_copyOf_6403c 38 = .ok (.aload_n 3, 1) := by decide +kernel
theorem dJ7_copyOf_6403c_39 : decode cJ7_copyOf_6403c 39 = .ok (.areturn, 1) := by decide +kernel
theorem dJ15_checkIndex_7cf53_0 : decode cJ15_checkIndex_7cf53 0 = .ok (.iload_n 0, 1) := by decide +kernel
theorem dJ15_checkIndex_7cf53_1 : decode cJ15_checkIndex_7cf53 1 = .ok (.iload_n 1, 1) := by decide +kernel
theorem dJ15_checkIndex_7cf53_2 : decode cJ15_checkIndex_7cf53 2 = .ok (.aconst_null, 1) := by decide +kernel
theorem dJ15_checkIndex_7cf53_3 : decode cJ15_checkIndex_7cf53 3 = .ok (.invokestatic 105, 3) := by decide +kernel
theorem dJ15_checkIndex_7cf53_6 : decode cJ15_checkIndex_7cf53 6 = .ok (.ireturn, 1) := by decide +kernel
theorem dJ8_newLength_cabcc_0 : decode cJ8_newLength_cabcc 0 = .ok (.iload_n 0, 1) := by decide +kernel
theorem dJ8_newLength_cabcc_1 : decode cJ8_newLength_cabcc 1 = .ok (.iload_n 1, 1) := by decide +kernel
theorem dJ8_newLength_cabcc_2 : decode cJ8_newLength_cabcc 2 = .ok (.iload_n 2, 1) := by decide +kernel
theorem dJ8_newLength_cabcc_3 : decode cJ8_newLength_cabcc 3 = .ok (.invokestatic 194, 3) := by decide +kernel
theorem dJ8_newLength_cabcc_6 : decode cJ8_newLength_cabcc 6 = .ok (.iadd, 1) := by decide +kernel
theorem dJ8_newLength_cabcc_7 : decode cJ8_newLength_cabcc 7 = .ok (.istore_n 3, 1) := by decide +kernel
theorem dJ8_newLength_cabcc_8 : decode cJ8_newLength_cabcc 8 = .ok (.iconst 0, 1) := by decide +kernel
theorem dJ8_newLength_cabcc_9 : decode cJ8_newLength_cabcc 9 = .ok (.iload_n 3, 1) := by decide +kernel
theorem dJ8_newLength_cabcc_10 : decode cJ8_newLength_cabcc 10 = .ok (.if_icmp .ge 11, 3) := by decide +kernel
theorem dJ8_newLength_cabcc_13 : decode cJ8_newLength_cabcc 13 = .ok (.iload_n 3, 1) := by decide +kernel
theorem dJ8_newLength_cabcc_14 : decode cJ8_newLength_cabcc 14 = .ok (.ldc 200, 2) := by decide +kernel
theorem dJ8_newLength_cabcc_16 : decode cJ8_newLength_cabcc 16 = .ok (.if_icmp .gt 5, 3) := by decide +kernel
theorem dJ8_newLength_cabcc_19 : decode cJ8_newLength_cabcc 19 = .ok (.iload_n 3, 1) := by decide +kernel
theorem dJ8_newLength_cabcc_20 : decode cJ8_newLength_cabcc 20 = .ok (.ireturn, 1) := by decide +kernel
theorem dJ8_newLength_cabcc_21 : decode cJ8_newLength_cabcc 21 = .ok (.iload_n 0, 1) := by decide +kernel
theorem dJ8_newLength_cabcc_22 : decode cJ8_newLength_cabcc 22 = .ok (.iload_n 1, 1) := by decide +kernel
theorem dJ8_newLength_cabcc_23 : decode cJ8_newLength_cabcc 23 = .ok (.invokestatic 201, 3) := by decide +kernel
theorem dJ8_newLength_cabcc_26 : decode cJ8_newLength_cabcc 26 = .ok (.ireturn, 1) := by decide +kernel
theorem dJ8_hugeLength_7cf53_0 : decode cJ8_hugeLength_7cf53 0 = .ok (.iload_n 0, 1) := by decide +kernel
theorem dJ8_hugeLength_7cf53_1 : decode cJ8_hugeLength_7cf53 1 = .ok (.iload_n 1, 1) := by decide +kernel
theorem dJ8_hugeLength_7cf53_2 : decode cJ8_hugeLength_7cf53 2 = .ok (.iadd, 1) := by decide +kernel
theorem dJ8_hugeLength_7cf53_3 : decode cJ8_hugeLength_7cf53 3 = .ok (.istore_n 2, 1) := by decide +kernel
theorem dJ8_hugeLength_7cf53_4 : decode cJ8_hugeLength_7cf53 4 = .ok (.iload_n 2, 1) := by decide +kernel
theorem dJ8_hugeLength_7cf53_5 : decode cJ8_hugeLength_7cf53 5 = .ok (.ifCond .ge 44, 3) := by decide +kernel
theorem dJ8_hugeLength_7cf53_8 : decode cJ8_hugeLength_7cf53 8 = .ok (.new 204, 3) := by decide +kernel
theorem dJ8_hugeLength_7cf53_11 : decode cJ8_hugeLength_7cf53 11 = .ok (.dup, 1) := by decide +kernel
theorem dJ8_hugeLength_7cf53_12 : decode cJ8_hugeLength_7cf53 12 = .ok (.new 89, 3) := by decide +kernel
theorem dJ8_hugeLength_7cf53_15 : decode cJ8_hugeLength_7cf53 15 = .ok (.dup, 1) := by decide +kernel
theorem dJ8_hugeLength_7cf53_16 : decode cJ8_hugeLength_7cf53 16 = .ok (.invokespecial 91, 3) := by decide +kernel
theorem dJ8_hugeLength_7cf53_19 : decode cJ8_hugeLength_7cf53 19 = .ok (.ldc 206, 2) := by decide +kernel
theorem dJ8_hugeLength_7cf53_21 : decode cJ8_hugeLength_7cf53 21 = .ok (.invokevirtual 94, 3) := by decide +kernel
theorem dJ8_hugeLength_7cf53_24 : decode cJ8_hugeLength_7cf53 24 = .ok (.iload_n 0, 1) := by decide +kernel
theorem dJ8_hugeLength_7cf53_25 : decode cJ8_hugeLength_7cf53 25 = .ok (.invokevirtual 98, 3) := by decide +kernel
theorem dJ8_hugeLength_7cf53_28 : decode cJ8_hugeLength_7cf53 28 = .ok (.ldc 208, 2) := by decide +kernel
theorem dJ8_hugeLength_7cf53_30 : decode cJ8_hugeLength_7cf53 30 = .ok (.invokevirtual 94, 3) := by decide +kernel
theorem dJ8_hugeLength_7cf53_33 : decode cJ8_hugeLength_7cf53 33 = .ok (.iload_n 1, 1) := by decide +kernel
theorem dJ8_hugeLength_7cf53_34 : decode cJ8_hugeLength_7cf53 34 = .ok (.invokevirtual 98, 3) := by decide +kernel
theorem dJ8_hugeLength_7cf53_37 : decode cJ8_hugeLength_7cf53 37 = .ok (.ldc 210, 2) := by decide +kernel
theorem dJ8_hugeLength_7cf53_39 : decode cJ8_hugeLength_7cf53 39 = .ok (.invokevirtual 94, 3) := by decide +kernel
theorem dJ8_hugeLength_7cf53_42 : decode cJ8_hugeLength_7cf53 42 = .ok (.invokevirtual 101, 3) := by decide +kernel
theorem dJ8_hugeLength_7cf53_45 : decode cJ8_hugeLength_7cf53 45 = .ok (.invokespecial 212, 3) := by decide +kernel
theorem dJ8_hugeLength_7cf53_48 : decode cJ8_hugeLength_7cf53 48 = .ok (.athrow, 1) := by decide +kernel
theorem dJ8_hugeLength_7cf53_49 : decode cJ8_hugeLength_7cf53 49 = .ok (.iload_n 2, 1) := by decide +kernel
theorem dJ8_hugeLength_7cf53_50 : decode cJ8_hugeLength_7cf53 50 = .ok (.ldc 200, 2) := by decide +kernel
theorem dJ8_hugeLength_7cf53_52 : decode cJ8_hugeLength_7cf53 52 = .ok (.if_icmp .gt 6, 3) := by decide +kernel
theorem dJ8_hugeLength_7cf53_55 : decode cJ8_hugeLength_7cf53 55 = .ok (.ldc 200, 2) := by decide +kernel
theorem dJ8_hugeLength_7cf53_57 : decode cJ8_hugeLength_7cf53 57 = .ok (.ireturn, 1) := by decide +kernel
theorem dJ8_hugeLength_7cf53_58 : decode cJ8_hugeLength_7cf53 58 = .ok (.iload_n 2, 1) := by decide +kernel
theorem dJ8_hugeLength_7cf53_59 : decode cJ8_hugeLength_7cf53 59 = .ok (.ireturn, 1) := by decide +kernel
theorem dJ3_checkIndex_8e157_0 : decode cJ3_checkIndex_8e157 0 = .ok (.iload_n 0, 1) := by decide +kernel
theorem dJ3_checkIndex_8e157_1 : decode cJ3_checkIndex_8e157 1 = .ok (.ifCond .lt 8, 3) := by decide +kernel
theorem dJ3_checkIndex_8e157_4 : decode cJ3_checkIndex_8e157 4 = .ok (.iload_n 0, 1) := by decide +kernel
theorem dJ3_checkIndex_8e157_5 : decode cJ3_checkIndex_8e157 5 = .ok (.iload_n 1, 1) := by decide +kernel
theorem dJ3_checkIndex_8e157_6 : decode cJ3_checkIndex_8e157 6 = .ok (.if_icmp .lt 10, 3) := by decide +kernel
theorem dJ3_checkIndex_8e157_9 : decode cJ3_checkIndex_8e157 9 = .ok (.aload_n 2, 1) := by decide +kernel
theorem dJ3_checkIndex_8e157_10 : decode cJ3_checkIndex_8e157 10 = .ok (.iload_n 0, 1) := by decide +kernel
theorem dJ3_checkIndex_8e157_11 : decode cJ3_checkIndex_8e157 11 = .ok (.iload_n 1, 1) := by decide +kernel
theorem dJ3_checkIndex_8e157_12 : decode cJ3_checkIndex_8e157 12 = .ok (.invokestatic 95, 3) := by decide +kernel
theorem dJ3_checkIndex_8e157_15 : decode cJ3_checkIndex_8e157 15 = .ok (.athrow, 1) := by decide +kernel
theorem dJ3_checkIndex_8e157_16 : decode cJ3_checkIndex_8e157 16 = .ok (.iload_n 0, 1) := by decide +kernel
theorem dJ3_checkIndex_8e157_17 : decode cJ3_checkIndex_8e157 17 = .ok (.ireturn, 1) := by decide +kernel
theorem dL_law_0 : decode cL_law 0 = .ok (.new 7, 3) := by decide +kernel
theorem dL_law_3 : decode cL_law 3 = .ok (.dup, 1) := by decide +kernel
theorem dL_law_4 : decode cL_law 4 = .ok (.invokespecial 9, 3) := by decide +kernel
theorem dL_law_7 : decode cL_law 7 = .ok (.astore_n 1, 1) := by decide +kernel
theorem dL_law_8 : decode cL_law 8 = .ok (.new 10, 3) := by decide +kernel
theorem dL_law_11 : decode cL_law 11 = .ok (.dup, 1) := by decide +kernel
theorem dL_law_12 : decode cL_law 12 = .ok (.invokespecial 12, 3) := by decide +kernel
theorem dL_law_15 : decode cL_law 15 = .ok (.astore_n 2, 1) := by decide +kernel
theorem dL_law_16 : decode cL_law 16 = .ok (.iconst 0, 1) := by decide +kernel
theorem dL_law_17 : decode cL_law 17 = .ok (.istore_n 3, 1) := by decide +kernel
theorem dL_law_18 : decode cL_law 18 = .ok (.iload_n 3, 1) := by decide +kernel
theorem dL_law_19 : decode cL_law 19 = .ok (.aload_n 0, 1) := by decide +kernel
theorem dL_law_20 : decode cL_law 20 = .ok (.arraylength, 1) := by decide +kernel
theorem dL_law_21 : decode cL_law 21 = .ok (.bipush 6, 2) := by decide +kernel
theorem dL_law_23 : decode cL_law 23 = .ok (.isub, 1) := by decide +kernel
theorem dL_law_24 : decode cL_law 24 = .ok (.if_icmp .gt 1197, 3) := by decide +kernel
theorem dL_law_27 : decode cL_law 27 = .ok (.aload_n 0, 1) := by decide +kernel
theorem dL_law_28 : decode cL_law 28 = .ok (.iload_n 3, 1) := by decide +kernel
theorem dL_law_29 : decode cL_law 29 = .ok (.iaload, 1) := by decide +kernel
theorem dL_law_30 : decode cL_law 30 = .ok (.bipush 31, 2) := by decide +kernel
theorem dL_law_32 : decode cL_law 32 = .ok (.iand, 1) := by decide +kernel
theorem dL_law_33 : decode cL_law 33 = .ok (.tableswitch 1182 0 31 #[143, 176, 199, 222, 271, 304, 327, 360, 403, 426, 489, 512, 575, 618, 651, 684, 717, 750, 809, 852, 885, 918, 931, 964, 997, 1030, 1063, 1096, 1109, 1132, 1145, 1168], 143) := by decide +kernel
theorem dL_law_176 : decode cL_law 176 = .ok (.aload_n 1, 1) := by decide +kernel
theorem dL_law_177 : decode cL_law 177 = .ok (.aload_n 0, 1) := by decide +kernel
theorem dL_law_178 : decode cL_law 178 = .ok (.iload_n 3, 1) := by decide +kernel
theorem dL_law_179 : decode cL_law 179 = .ok (.iconst 1, 1) := by decide +kernel
theorem dL_law_180 : decode cL_law 180 = .ok (.iadd, 1) := by decide +kernel
theorem dL_law_181 : decode cL_law 181 = .ok (.iaload, 1) := by decide +kernel
theorem dL_law_182 : decode cL_law 182 = .ok (.aload_n 0, 1) := by decide +kernel
theorem dL_law_183 : decode cL_law 183 = .ok (.iload_n 3, 1) := by decide +kernel
theorem dL_law_184 : decode cL_law 184 = .ok (.iconst 2, 1) := by decide +kernel
theorem dL_law_185 : decode cL_law 185 = .ok (.iadd, 1) := by decide +kernel
theorem dL_law_186 : decode cL_law 186 = .ok (.iaload, 1) := by decide +kernel
theorem dL_law_187 : decode cL_law 187 = .ok (.invokevirtual 13, 3) := by decide +kernel
theorem dL_law_190 : decode cL_law 190 = .ok (.aload_n 2, 1) := by decide +kernel
theorem dL_law_191 : decode cL_law 191 = .ok (.aload_n 0, 1) := by decide +kernel
theorem dL_law_192 : decode cL_law 192 = .ok (.iload_n 3, 1) := by decide +kernel
theorem dL_law_193 : decode cL_law 193 = .ok (.iconst 1, 1) := by decide +kernel
theorem dL_law_194 : decode cL_law 194 = .ok (.iadd, 1) := by decide +kernel
theorem dL_law_195 : decode cL_law 195 = .ok (.iaload, 1) := by decide +kernel
theorem dL_law_196 : decode cL_law 196 = .ok (.aload_n 0, 1) := by decide +kernel
theorem dL_law_197 : decode cL_law 197 = .ok (.iload_n 3, 1) := by decide +kernel
theorem dL_law_198 : decode cL_law 198 = .ok (.iconst 2, 1) := by decide +kernel
theorem dL_law_199 : decode cL_law 199 = .ok (.iadd, 1) := by decide +kernel
theorem dL_law_200 : decode cL_law 200 = .ok (.iaload, 1) := by decide +kernel
theorem dL_law_201 : decode cL_law 201 = .ok (.invokevirtual 17, 3) := by decide +kernel
theorem dL_law_204 : decode cL_law 204 = .ok (.if_icmp .eq 1011, 3) := by decide +kernel
theorem dL_law_207 : decode cL_law 207 = .ok (.iconst 0, 1) := by decide +kernel
theorem dL_law_208 : decode cL_law 208 = .ok (.ireturn, 1) := by decide +kernel
theorem dL_law_209 : decode cL_law 209 = .ok (.aload_n 1, 1) := by decide +kernel
theorem dL_law_210 : decode cL_law 210 = .ok (.aload_n 0, 1) := by decide +kernel
theorem dL_law_211 : decode cL_law 211 = .ok (.iload_n 3, 1) := by decide +kernel
theorem dL_law_212 : decode cL_law 212 = .ok (.iconst 1, 1) := by decide +kernel
theorem dL_law_213 : decode cL_law 213 = .ok (.iadd, 1) := by decide +kernel
theorem dL_law_214 : decode cL_law 214 = .ok (.iaload, 1) := by decide +kernel
theorem dL_law_215 : decode cL_law 215 = .ok (.invokevirtual 18, 3) := by decide +kernel
theorem dL_law_218 : decode cL_law 218 = .ok (.aload_n 2, 1) := by decide +kernel
theorem dL_law_219 : decode cL_law 219 = .ok (.aload_n 0, 1) := by decide +kernel
theorem dL_law_220 : decode cL_law 220 = .ok (.iload_n 3, 1) := by decide +kernel
theorem dL_law_221 : decode cL_law 221 = .ok (.iconst 1, 1) := by decide +kernel
theorem dL_law_222 : decode cL_law 222 = .ok (.iadd, 1) := by decide +kernel
theorem dL_law_223 : decode cL_law 223 = .ok (.iaload, 1) := by decide +kernel
theorem dL_law_224 : decode cL_law 224 = .ok (.invokevirtual 22, 3) := by decide +kernel
theorem dL_law_227 : decode cL_law 227 = .ok (.if_icmp .eq 988, 3) := by decide +kernel
theorem dL_law_230 : decode cL_law 230 = .ok (.iconst 0, 1) := by decide +kernel
theorem dL_law_231 : decode cL_law 231 = .ok (.ireturn, 1) := by decide +kernel
theorem dL_law_232 : decode cL_law 232 = .ok (.aload_n 1, 1) := by decide +kernel
theorem dL_law_233 : decode cL_law 233 = .ok (.aload_n 0, 1) := by decide +kernel
theorem dL_law_234 : decode cL_law 234 = .ok (.iload_n 3, 1) := by decide +kernel
theorem dL_law_235 : decode cL_law 235 = .ok (.iconst 1, 1) := by decide +kernel
theorem dL_law_236 : decode cL_law 236 = .ok (.iadd, 1) := by decide +kernel
theorem dL_law_237 : decode cL_law 237 = .ok (.iaload, 1) := by decide +kernel
theorem dL_law_238 : decode cL_law 238 = .ok (.invokevirtual 23, 3) := by decide +kernel
theorem dL_law_241 : decode cL_law 241 = .ok (.aload_n 2, 1) := by decide +kernel
theorem dL_law_242 : decode cL_law 242 = .ok (.aload_n 0, 1) := by decide +kernel
theorem dL_law_243 : decode cL_law 243 = .ok (.iload_n 3, 1) := by decide +kernel
theorem dL_law_244 : decode cL_law 244 = .ok (.iconst 1, 1) := by decide +kernel
theorem dL_law_245 : decode cL_law 245 = .ok (.iadd, 1) := by decide +kernel
theorem dL_law_246 : decode cL_law 246 = .ok (.iaload, 1) := by decide +kernel
theorem dL_law_247 : decode cL_law 247 = .ok (.invokevirtual 26, 3) := by decide +kernel
theorem dL_law_250 : decode cL_law 250 = .ok (.if_icmp .eq 965, 3) := by decide +kernel
theorem dL_law_253 : decode cL_law 253 = .ok (.iconst 0, 1) := by decide +kernel
theorem dL_law_254 : decode cL_law 254 = .ok (.ireturn, 1) := by decide +kernel
theorem dL_law_255 : decode cL_law 255 = .ok (.aload_n 1, 1) := by decide +kernel
theorem dL_law_256 : decode cL_law 256 = .ok (.aload_n 0, 1) := by decide +kernel
theorem dL_law_257 : decode cL_law 257 = .ok (.iload_n 3, 1) := by decide +kernel
theorem dL_law_258 : decode cL_law 258 = .ok (.iconst 1, 1) := by decide +kernel
theorem dL_law_259 : decode cL_law 259 = .ok (.iadd, 1) := by decide +kernel
theorem dL_law_260 : decode cL_law 260 = .ok (.iaload, 1) := by decide +kernel
theorem dL_law_261 : decode cL_law 261 = .ok (.aload_n 0, 1) := by decide +kernel
theorem dL_law_262 : decode cL_law 262 = .ok (.iload_n 3, 1) := by decide +kernel
theorem dL_law_263 : decode cL_law 263 = .ok (.iconst 2, 1) := by decide +kernel
theorem dL_law_264 : decode cL_law 264 = .ok (.iadd, 1) := by decide +kernel
theorem dL_law_265 : decode cL_law 265 = .ok (.iaload, 1) := by decide +kernel
theorem dL_law_266 : decode cL_law 266 = .ok (.ifCond .eq 7, 3) := by decide +kernel
theorem dL_law_269 : decode cL_law 269 = .ok (.iconst 1, 1) := by decide +kernel
theorem dL_law_270 : decode cL_law 270 = .ok (.goto 4, 3) := by decide +kernel
theorem dL_law_273 : decode cL_law 273 = .ok (.iconst 0, 1) := by decide +kernel
theorem dL_law_274 : decode cL_law 274 = .ok (.invokevirtual 27, 3) := by decide +kernel
theorem dL_law_277 : decode cL_law 277 = .ok (.aload_n 2, 1) := by decide +kernel
theorem dL_law_278 : decode cL_law 278 = .ok (.aload_n 0, 1) := by decide +kernel
theorem dL_law_279 : decode cL_law 279 = .ok (.iload_n 3, 1) := by decide +kernel
theorem dL_law_280 : decode cL_law 280 = .ok (.iconst 1, 1) := by decide +kernel
theorem dL_law_281 : decode cL_law 281 = .ok (.iadd, 1) := by decide +kernel
theorem dL_law_282 : decode cL_law 282 = .ok (.iaload, 1) := by decide +kernel
theorem dL_law_283 : decode cL_law 283 = .ok (.aload_n 0, 1) := by decide +kernel
theorem dL_law_284 : decode cL_law 284 = .ok (.iload_n 3, 1) := by decide +kernel
theorem dL_law_285 : decode cL_law 285 = .ok (.iconst 2, 1) := by decide +kernel
theorem dL_law_286 : decode cL_law 286 = .ok (.iadd, 1) := by decide +kernel
theorem dL_law_287 : decode cL_law 287 = .ok (.iaload, 1) := by decide +kernel
theorem dL_law_288 : decode cL_law 288 = .ok (.ifCond .eq 7, 3) := by decide +kernel
theorem dL_law_291 : decode cL_law 291 = .ok (.iconst 1, 1) := by decide +kernel
theorem dL_law_292 : decode cL_law 292 = .ok (.goto 4, 3) := by decide +kernel
theorem dL_law_295 : decode cL_law 295 = .ok (.iconst 0, 1) := by decide +kernel
theorem dL_law_296 : decode cL_law 296 = .ok (.invokevirtual 31, 3) := by decide +kernel
theorem dL_law_299 : decode cL_law 299 = .ok (.if_icmp .eq 916, 3) := by decide +kernel
theorem dL_law_302 : decode cL_law 302 = .ok (.iconst 0, 1) := by decide +kernel
theorem dL_law_303 : decode cL_law 303 = .ok (.ireturn, 1) := by decide +kernel
theorem dL_law_304 : decode cL_law 304 = .ok (.aload_n 1, 1) := by decide +kernel
theorem dL_law_305 : decode cL_law 305 = .ok (.aload_n 0, 1) := by decide +kernel
theorem dL_law_306 : decode cL_law 306 = .ok (.iload_n 3, 1) := by decide +kernel
theorem dL_law_307 : decode cL_law 307 = .ok (.iconst 1, 1) := by decide +kernel
theorem dL_law_308 : decode cL_law 308 = .ok (.iadd, 1) := by decide +kernel
theorem dL_law_309 : decode cL_law 309 = .ok (.iaload, 1) := by decide +kernel
theorem dL_law_310 : decode cL_law 310 = .ok (.aload_n 0, 1) := by decide +kernel
theorem dL_law_311 : decode cL_law 311 = .ok (.iload_n 3, 1) := by decide +kernel
theorem dL_law_312 : decode cL_law 312 = .ok (.iconst 2, 1) := by decide +kernel
theorem dL_law_313 : decode cL_law 313 = .ok (.iadd, 1) := by decide +kernel
theorem dL_law_314 : decode cL_law 314 = .ok (.iaload, 1) := by decide +kernel
theorem dL_law_315 : decode cL_law 315 = .ok (.invokevirtual 32, 3) := by decide +kernel
theorem dL_law_318 : decode cL_law 318 = .ok (.aload_n 2, 1) := by decide +kernel
theorem dL_law_319 : decode cL_law 319 = .ok (.aload_n 0, 1) := by decide +kernel
theorem dL_law_320 : decode cL_law 320 = .ok (.iload_n 3, 1) := by decide +kernel
theorem dL_law_321 : decode cL_law 321 = .ok (.iconst 1, 1) := by decide +kernel
theorem dL_law_322 : decode cL_law 322 = .ok (.iadd, 1) := by decide +kernel
theorem dL_law_323 : decode cL_law 323 = .ok (.iaload, 1) := by decide +kernel
theorem dL_law_324 : decode cL_law 324 = .ok (.aload_n 0, 1) := by decide +kernel
theorem dL_law_325 : decode cL_law 325 = .ok (.iload_n 3, 1) := by decide +kernel
theorem dL_law_326 : decode cL_law 326 = .ok (.iconst 2, 1) := by decide +kernel
theorem dL_law_327 : decode cL_law 327 = .ok (.iadd, 1) := by decide +kernel
theorem dL_law_328 : decode cL_law 328 = .ok (.iaload, 1) := by decide +kernel
theorem dL_law_329 : decode cL_law 329 = .ok (.invokevirtual 35, 3) := by decide +kernel
theorem dL_law_332 : decode cL_law 332 = .ok (.if_icmp .eq 883, 3) := by decide +kernel
theorem dL_law_335 : decode cL_law 335 = .ok (.iconst 0, 1) := by decide +kernel
theorem dL_law_336 : decode cL_law 336 = .ok (.ireturn, 1) := by decide +kernel
theorem dL_law_337 : decode cL_law 337 = .ok (.aload_n 1, 1) := by decide +kernel
theorem dL_law_338 : decode cL_law 338 = .ok (.aload_n 0, 1) := by decide +kernel
theorem dL_law_339 : decode cL_law 339 = .ok (.iload_n 3, 1) := by decide +kernel
theorem dL_law_340 : decode cL_law 340 = .ok (.iconst 1, 1) := by decide +kernel
theorem dL_law_341 : decode cL_law 341 = .ok (.iadd, 1) := by decide +kernel
theorem dL_law_342 : decode cL_law 342 = .ok (.iaload, 1) := by decide +kernel
theorem dL_law_343 : decode cL_law 343 = .ok (.invokevirtual 36, 3) := by decide +kernel
theorem dL_law_346 : decode cL_law 346 = .ok (.aload_n 2, 1) := by decide +kernel
theorem dL_law_347 : decode cL_law 347 = .ok (.aload_n 0, 1) := by decide +kernel
theorem dL_law_348 : decode cL_law 348 = .ok (.iload_n 3, 1) := by decide +kernel
theorem dL_law_349 : decode cL_law 349 = .ok (.iconst 1, 1) := by decide +kernel
theorem dL_law_350 : decode cL_law 350 = .ok (.iadd, 1) := by decide +kernel
theorem dL_law_351 : decode cL_law 351 = .ok (.iaload, 1) := by decide +kernel
theorem dL_law_352 : decode cL_law 352 = .ok (.invokevirtual 39, 3) := by decide +kernel
theorem dL_law_355 : decode cL_law 355 = .ok (.if_icmp .eq 860, 3) := by decide +kernel
theorem dL_law_358 : decode cL_law 358 = .ok (.iconst 0, 1) := by decide +kernel
theorem dL_law_359 : decode cL_law 359 = .ok (.ireturn, 1) := by decide +kernel
theorem dL_law_360 : decode cL_law 360 = .ok (.aload_n 1, 1) := by decide +kernel
theorem dL_law_361 : decode cL_law 361 = .ok (.aload_n 0, 1) := by decide +kernel
theorem dL_law_362 : decode cL_law 362 = .ok (.iload_n 3, 1) := by decide +kernel
theorem dL_law_363 : decode cL_law 363 = .ok (.iconst 1, 1) := by decide +kernel
theorem dL_law_364 : decode cL_law 364 = .ok (.iadd, 1) := by decide +kernel
theorem dL_law_365 : decode cL_law 365 = .ok (.iaload, 1) := by decide +kernel
theorem dL_law_366 : decode cL_law 366 = .ok (.aload_n 0, 1) := by decide +kernel
theorem dL_law_367 : decode cL_law 367 = .ok (.iload_n 3, 1) := by decide +kernel
theorem dL_law_368 : decode cL_law 368 = .ok (.iconst 2, 1) := by decide +kernel
theorem dL_law_369 : decode cL_law 369 = .ok (.iadd, 1) := by decide +kernel
theorem dL_law_370 : decode cL_law 370 = .ok (.iaload, 1) := by decide +kernel
theorem dL_law_371 : decode cL_law 371 = .ok (.invokevirtual 40, 3) := by decide +kernel
theorem dL_law_374 : decode cL_law 374 = .ok (.aload_n 2, 1) := by decide +kernel
theorem dL_law_375 : decode cL_law 375 = .ok (.aload_n 0, 1) := by decide +kernel
theorem dL_law_376 : decode cL_law 376 = .ok (.iload_n 3, 1) := by decide +kernel
theorem dL_law_377 : decode cL_law 377 = .ok (.iconst 1, 1) := by decide +kernel
theorem dL_law_378 : decode cL_law 378 = .ok (.iadd, 1) := by decide +kernel
theorem dL_law_379 : decode cL_law 379 = .ok (.iaload, 1) := by decide +kernel
theorem dL_law_380 : decode cL_law 380 = .ok (.aload_n 0, 1) := by decide +kernel
theorem dL_law_381 : decode cL_law 381 = .ok (.iload_n 3, 1) := by decide +kernel
theorem dL_law_382 : decode cL_law 382 = .ok (.iconst 2, 1) := by decide +kernel
theorem dL_law_383 : decode cL_law 383 = .ok (.iadd, 1) := by decide +kernel
theorem dL_law_384 : decode cL_law 384 = .ok (.iaload, 1) := by decide +kernel
theorem dL_law_385 : decode cL_law 385 = .ok (.invokevirtual 43, 3) := by decide +kernel
theorem dL_law_388 : decode cL_law 388 = .ok (.if_icmp .eq 827, 3) := by decide +kernel
theorem dL_law_391 : decode cL_law 391 = .ok (.iconst 0, 1) := by decide +kernel
theorem dL_law_392 : decode cL_law 392 = .ok (.ireturn, 1) := by decide +kernel
theorem dL_law_393 : decode cL_law 393 = .ok (.aload_n 1, 1) := by decide +kernel
theorem dL_law_394 : decode cL_law 394 = .ok (.aload_n 0, 1) := by decide +kernel
theorem dL_law_395 : decode cL_law 395 = .ok (.iload_n 3, 1) := by decide +kernel
theorem dL_law_396 : decode cL_law 396 = .ok (.iconst 1, 1) := by decide +kernel
theorem dL_law_397 : decode cL_law 397 = .ok (.iadd, 1) := by decide +kernel
theorem dL_law_398 : decode cL_law 398 = .ok (.iaload, 1) := by decide +kernel
theorem dL_law_399 : decode cL_law 399 = .ok (.aload_n 0, 1) := by decide +kernel
theorem dL_law_400 : decode cL_law 400 = .ok (.iload_n 3, 1) := by decide +kernel
theorem dL_law_401 : decode cL_law 401 = .ok (.iconst 2, 1) := by decide +kernel
theorem dL_law_402 : decode cL_law 402 = .ok (.iadd, 1) := by decide +kernel
theorem dL_law_403 : decode cL_law 403 = .ok (.iaload, 1) := by decide +kernel
theorem dL_law_404 : decode cL_law 404 = .ok (.aload_n 0, 1) := by decide +kernel
theorem dL_law_405 : decode cL_law 405 = .ok (.iload_n 3, 1) := by decide +kernel
theorem dL_law_406 : decode cL_law 406 = .ok (.iconst 3, 1) := by decide +kernel
theorem dL_law_407 : decode cL_law 407 = .ok (.iadd, 1) := by decide +kernel
theorem dL_law_408 : decode cL_law 408 = .ok (.iaload, 1) := by decide +kernel
theorem dL_law_409 : decode cL_law 409 = .ok (.invokevirtual 44, 3) := by decide +kernel
theorem dL_law_412 : decode cL_law 412 = .ok (.aload_n 2, 1) := by decide +kernel
theorem dL_law_413 : decode cL_law 413 = .ok (.aload_n 0, 1) := by decide +kernel
theorem dL_law_414 : decode cL_law 414 = .ok (.iload_n 3, 1) := by decide +kernel
theorem dL_law_415 : decode cL_law 415 = .ok (.iconst 1, 1) := by decide +kernel
theorem dL_law_416 : decode cL_law 416 = .ok (.iadd, 1) := by decide +kernel
theorem dL_law_417 : decode cL_law 417 = .ok (.iaload, 1) := by decide +kernel
theorem dL_law_418 : decode cL_law 418 = .ok (.aload_n 0, 1) := by decide +kernel
theorem dL_law_419 : decode cL_law 419 = .ok (.iload_n 3, 1) := by decide +kernel
theorem dL_law_420 : decode cL_law 420 = .ok (.iconst 2, 1) := by decide +kernel
theorem dL_law_421 : decode cL_law 421 = .ok (.iadd, 1) := by decide +kernel
theorem dL_law_422 : decode cL_law 422 = .ok (.iaload, 1) := by decide +kernel
theorem dL_law_423 : decode cL_law 423 = .ok (.aload_n 0, 1) := by decide +kernel
theorem dL_law_424 : decode cL_law 424 = .ok (.iload_n 3, 1) := by decide +kernel
theorem dL_law_425 : decode cL_law 425 = .ok (.iconst 3, 1) := by decide +kernel
theorem dL_law_426 : decode cL_law 426 = .ok (.iadd, 1) := by decide +kernel
theorem dL_law_427 : decode cL_law 427 = .ok (.iaload, 1) := by decide +kernel
theorem dL_law_428 : decode cL_law 428 = .ok (.invokevirtual 48, 3) := by decide +kernel
theorem dL_law_431 : decode cL_law 431 = .ok (.if_icmp .eq 784, 3) := by decide +kernel
theorem dL_law_434 : decode cL_law 434 = .ok (.iconst 0, 1) := by decide +kernel
theorem dL_law_435 : decode cL_law 435 = .ok (.ireturn, 1) := by decide +kernel
theorem dL_law_436 : decode cL_law 436 = .ok (.aload_n 1, 1) := by decide +kernel
theorem dL_law_437 : decode cL_law 437 = .ok (.aload_n 0, 1) := by decide +kernel
theorem dL_law_438 : decode cL_law 438 = .ok (.iload_n 3, 1) := by decide +kernel
theorem dL_law_439 : decode cL_law 439 = .ok (.iconst 1, 1) := by decide +kernel
theorem dL_law_440 : decode cL_law 440 = .ok (.iadd, 1) := by decide +kernel
theorem dL_law_441 : decode cL_law 441 = .ok (.iaload, 1) := by decide +kernel
theorem dL_law_442 : decode cL_law 442 = .ok (.invokevirtual 49, 3) := by decide +kernel
theorem dL_law_445 : decode cL_law 445 = .ok (.aload_n 2, 1) := by decide +kernel
theorem dL_law_446 : decode cL_law 446 = .ok (.aload_n 0, 1) := by decide +kernel
theorem dL_law_447 : decode cL_law 447 = .ok (.iload_n 3, 1) := by decide +kernel
theorem dL_law_448 : decode cL_law 448 = .ok (.iconst 1, 1) := by decide +kernel
theorem dL_law_449 : decode cL_law 449 = .ok (.iadd, 1) := by decide +kernel
theorem dL_law_450 : decode cL_law 450 = .ok (.iaload, 1) := by decide +kernel
theorem dL_law_451 : decode cL_law 451 = .ok (.invokevirtual 52, 3) := by decide +kernel
theorem dL_law_454 : decode cL_law 454 = .ok (.if_icmp .eq 761, 3) := by decide +kernel
theorem dL_law_457 : decode cL_law 457 = .ok (.iconst 0, 1) := by decide +kernel
theorem dL_law_458 : decode cL_law 458 = .ok (.ireturn, 1) := by decide +kernel
theorem dL_law_459 : decode cL_law 459 = .ok (.aload_n 1, 1) := by decide +kernel
theorem dL_law_460 : decode cL_law 460 = .ok (.aload_n 0, 1) := by decide +kernel
theorem dL_law_461 : decode cL_law 461 = .ok (.iload_n 3, 1) := by decide +kernel
theorem dL_law_462 : decode cL_law 462 = .ok (.iconst 1, 1) := by decide +kernel
theorem dL_law_463 : decode cL_law 463 = .ok (.iadd, 1) := by decide +kernel
theorem dL_law_464 : decode cL_law 464 = .ok (.iaload, 1) := by decide +kernel
theorem dL_law_465 : decode cL_law 465 = .ok (.aload_n 0, 1) := by decide +kernel
theorem dL_law_466 : decode cL_law 466 = .ok (.iload_n 3, 1) := by decide +kernel
theorem dL_law_467 : decode cL_law 467 = .ok (.iconst 2, 1) := by decide +kernel
theorem dL_law_468 : decode cL_law 468 = .ok (.iadd, 1) := by decide +kernel
theorem dL_law_469 : decode cL_law 469 = .ok (.iaload, 1) := by decide +kernel
theorem dL_law_470 : decode cL_law 470 = .ok (.aload_n 0, 1) := by decide +kernel
theorem dL_law_471 : decode cL_law 471 = .ok (.iload_n 3, 1) := by decide +kernel
theorem dL_law_472 : decode cL_law 472 = .ok (.iconst 3, 1) := by decide +kernel
theorem dL_law_473 : decode cL_law 473 = .ok (.iadd, 1) := by decide +kernel
theorem dL_law_474 : decode cL_law 474 = .ok (.iaload, 1) := by decide +kernel
theorem dL_law_475 : decode cL_law 475 = .ok (.aload_n 0, 1) := by decide +kernel
theorem dL_law_476 : decode cL_law 476 = .ok (.iload_n 3, 1) := by decide +kernel
theorem dL_law_477 : decode cL_law 477 = .ok (.iconst 4, 1) := by decide +kernel
theorem dL_law_478 : decode cL_law 478 = .ok (.iadd, 1) := by decide +kernel
theorem dL_law_479 : decode cL_law 479 = .ok (.iaload, 1) := by decide +kernel
theorem dL_law_480 : decode cL_law 480 = .ok (.aload_n 0, 1) := by decide +kernel
theorem dL_law_481 : decode cL_law 481 = .ok (.iload_n 3, 1) := by decide +kernel
theorem dL_law_482 : decode cL_law 482 = .ok (.iconst 5, 1) := by decide +kernel
theorem dL_law_483 : decode cL_law 483 = .ok (.iadd, 1) := by decide +kernel
theorem dL_law_484 : decode cL_law 484 = .ok (.iaload, 1) := by decide +kernel
theorem dL_law_485 : decode cL_law 485 = .ok (.invokevirtual 53, 3) := by decide +kernel
theorem dL_law_488 : decode cL_law 488 = .ok (.aload_n 2, 1) := by decide +kernel
theorem dL_law_489 : decode cL_law 489 = .ok (.aload_n 0, 1) := by decide +kernel
theorem dL_law_490 : decode cL_law 490 = .ok (.iload_n 3, 1) := by decide +kernel
theorem dL_law_491 : decode cL_law 491 = .ok (.iconst 1, 1) := by decide +kernel
theorem dL_law_492 : decode cL_law 492 = .ok (.iadd, 1) := by decide +kernel
theorem dL_law_493 : decode cL_law 493 = .ok (.iaload, 1) := by decide +kernel
theorem dL_law_494 : decode cL_law 494 = .ok (.aload_n 0, 1) := by decide +kernel
theorem dL_law_495 : decode cL_law 495 = .ok (.iload_n 3, 1) := by decide +kernel
theorem dL_law_496 : decode cL_law 496 = .ok (.iconst 2, 1) := by decide +kernel
theorem dL_law_497 : decode cL_law 497 = .ok (.iadd, 1) := by decide +kernel
theorem dL_law_498 : decode cL_law 498 = .ok (.iaload, 1) := by decide +kernel
theorem dL_law_499 : decode cL_law 499 = .ok (.aload_n 0, 1) := by decide +kernel
theorem dL_law_500 : decode cL_law 500 = .ok (.iload_n 3, 1) := by decide +kernel
theorem dL_law_501 : decode cL_law 501 = .ok (.iconst 3, 1) := by decide +kernel
theorem dL_law_502 : decode cL_law 502 = .ok (.iadd, 1) := by decide +kernel
theorem dL_law_503 : decode cL_law 503 = .ok (.iaload, 1) := by decide +kernel
theorem dL_law_504 : decode cL_law 504 = .ok (.aload_n 0, 1) := by decide +kernel
theorem dL_law_505 : decode cL_law 505 = .ok (.iload_n 3, 1) := by decide +kernel
theorem dL_law_506 : decode cL_law 506 = .ok (.iconst 4, 1) := by decide +kernel
theorem dL_law_507 : decode cL_law 507 = .ok (.iadd, 1) := by decide +kernel
theorem dL_law_508 : decode cL_law 508 = .ok (.iaload, 1) := by decide +kernel
theorem dL_law_509 : decode cL_law 509 = .ok (.aload_n 0, 1) := by decide +kernel
theorem dL_law_510 : decode cL_law 510 = .ok (.iload_n 3, 1) := by decide +kernel
theorem dL_law_511 : decode cL_law 511 = .ok (.iconst 5, 1) := by decide +kernel
theorem dL_law_512 : decode cL_law 512 = .ok (.iadd, 1) := by decide +kernel
theorem dL_law_513 : decode cL_law 513 = .ok (.iaload, 1) := by decide +kernel
theorem dL_law_514 : decode cL_law 514 = .ok (.invokevirtual 57, 3) := by decide +kernel
theorem dL_law_517 : decode cL_law 517 = .ok (.if_icmp .eq 698, 3) := by decide +kernel
theorem dL_law_520 : decode cL_law 520 = .ok (.iconst 0, 1) := by decide +kernel
theorem dL_law_521 : decode cL_law 521 = .ok (.ireturn, 1) := by decide +kernel
theorem dL_law_522 : decode cL_law 522 = .ok (.aload_n 1, 1) := by decide +kernel
theorem dL_law_523 : decode cL_law 523 = .ok (.aload_n 0, 1) := by decide +kernel
theorem dL_law_524 : decode cL_law 524 = .ok (.iload_n 3, 1) := by decide +kernel
theorem dL_law_525 : decode cL_law 525 = .ok (.iconst 1, 1) := by decide +kernel
theorem dL_law_526 : decode cL_law 526 = .ok (.iadd, 1) := by decide +kernel
theorem dL_law_527 : decode cL_law 527 = .ok (.iaload, 1) := by decide +kernel
theorem dL_law_528 : decode cL_law 528 = .ok (.invokevirtual 58, 3) := by decide +kernel
theorem dL_law_531 : decode cL_law 531 = .ok (.aload_n 2, 1) := by decide +kernel
theorem dL_law_532 : decode cL_law 532 = .ok (.aload_n 0, 1) := by decide +kernel
theorem dL_law_533 : decode cL_law 533 = .ok (.iload_n 3, 1) := by decide +kernel
theorem dL_law_534 : decode cL_law 534 = .ok (.iconst 1, 1) := by decide +kernel
theorem dL_law_535 : decode cL_law 535 = .ok (.iadd, 1) := by decide +kernel
theorem dL_law_536 : decode cL_law 536 = .ok (.iaload, 1) := by decide +kernel
theorem dL_law_537 : decode cL_law 537 = .ok (.invokevirtual 61, 3) := by decide +kernel
theorem dL_law_540 : decode cL_law 540 = .ok (.if_icmp .eq 675, 3) := by decide +kernel
theorem dL_law_543 : decode cL_law 543 = .ok (.iconst 0, 1) := by decide +kernel
theorem dL_law_544 : decode cL_law 544 = .ok (.ireturn, 1) := by decide +kernel
theorem dL_law_545 : decode cL_law 545 = .ok (.aload_n 1, 1) := by decide +kernel
theorem dL_law_546 : decode cL_law 546 = .ok (.aload_n 0, 1) := by decide +kernel
theorem dL_law_547 : decode cL_law 547 = .ok (.iload_n 3, 1) := by decide +kernel
theorem dL_law_548 : decode cL_law 548 = .ok (.iconst 1, 1) := by decide +kernel
theorem dL_law_549 : decode cL_law 549 = .ok (.iadd, 1) := by decide +kernel
theorem dL_law_550 : decode cL_law 550 = .ok (.iaload, 1) := by decide +kernel
theorem dL_law_551 : decode cL_law 551 = .ok (.aload_n 0, 1) := by decide +kernel
theorem dL_law_552 : decode cL_law 552 = .ok (.iload_n 3, 1) := by decide +kernel
theorem dL_law_553 : decode cL_law 553 = .ok (.iconst 2, 1) := by decide +kernel
theorem dL_law_554 : decode cL_law 554 = .ok (.iadd, 1) := by decide +kernel
theorem dL_law_555 : decode cL_law 555 = .ok (.iaload, 1) := by decide +kernel
theorem dL_law_556 : decode cL_law 556 = .ok (.aload_n 0, 1) := by decide +kernel
theorem dL_law_557 : decode cL_law 557 = .ok (.iload_n 3, 1) := by decide +kernel
theorem dL_law_558 : decode cL_law 558 = .ok (.iconst 3, 1) := by decide +kernel
theorem dL_law_559 : decode cL_law 559 = .ok (.iadd, 1) := by decide +kernel
theorem dL_law_560 : decode cL_law 560 = .ok (.iaload, 1) := by decide +kernel
theorem dL_law_561 : decode cL_law 561 = .ok (.aload_n 0, 1) := by decide +kernel
theorem dL_law_562 : decode cL_law 562 = .ok (.iload_n 3, 1) := by decide +kernel
theorem dL_law_563 : decode cL_law 563 = .ok (.iconst 4, 1) := by decide +kernel
theorem dL_law_564 : decode cL_law 564 = .ok (.iadd, 1) := by decide +kernel
theorem dL_law_565 : decode cL_law 565 = .ok (.iaload, 1) := by decide +kernel
theorem dL_law_566 : decode cL_law 566 = .ok (.aload_n 0, 1) := by decide +kernel
theorem dL_law_567 : decode cL_law 567 = .ok (.iload_n 3, 1) := by decide +kernel
theorem dL_law_568 : decode cL_law 568 = .ok (.iconst 5, 1) := by decide +kernel
theorem dL_law_569 : decode cL_law 569 = .ok (.iadd, 1) := by decide +kernel
theorem dL_law_570 : decode cL_law 570 = .ok (.iaload, 1) := by decide +kernel
theorem dL_law_571 : decode cL_law 571 = .ok (.invokevirtual 62, 3) := by decide +kernel
theorem dL_law_574 : decode cL_law 574 = .ok (.aload_n 2, 1) := by decide +kernel
theorem dL_law_575 : decode cL_law 575 = .ok (.aload_n 0, 1) := by decide +kernel
theorem dL_law_576 : decode cL_law 576 = .ok (.iload_n 3, 1) := by decide +kernel
theorem dL_law_577 : decode cL_law 577 = .ok (.iconst 1, 1) := by decide +kernel
theorem dL_law_578 : decode cL_law 578 = .ok (.iadd, 1) := by decide +kernel
theorem dL_law_579 : decode cL_law 579 = .ok (.iaload, 1) := by decide +kernel
theorem dL_law_580 : decode cL_law 580 = .ok (.aload_n 0, 1) := by decide +kernel
theorem dL_law_581 : decode cL_law 581 = .ok (.iload_n 3, 1) := by decide +kernel
theorem dL_law_582 : decode cL_law 582 = .ok (.iconst 2, 1) := by decide +kernel
theorem dL_law_583 : decode cL_law 583 = .ok (.iadd, 1) := by decide +kernel
theorem dL_law_584 : decode cL_law 584 = .ok (.iaload, 1) := by decide +kernel
theorem dL_law_585 : decode cL_law 585 = .ok (.aload_n 0, 1) := by decide +kernel
theorem dL_law_586 : decode cL_law 586 = .ok (.iload_n 3, 1) := by decide +kernel
theorem dL_law_587 : decode cL_law 587 = .ok (.iconst 3, 1) := by decide +kernel
theorem dL_law_588 : decode cL_law 588 = .ok (.iadd, 1) := by decide +kernel
theorem dL_law_589 : decode cL_law 589 = .ok (.iaload, 1) := by decide +kernel
theorem dL_law_590 : decode cL_law 590 = .ok (.aload_n 0, 1) := by decide +kernel
theorem dL_law_591 : decode cL_law 591 = .ok (.iload_n 3, 1) := by decide +kernel
theorem dL_law_592 : decode cL_law 592 = .ok (.iconst 4, 1) := by decide +kernel
theorem dL_law_593 : decode cL_law 593 = .ok (.iadd, 1) := by decide +kernel
theorem dL_law_594 : decode cL_law 594 = .ok (.iaload, 1) := by decide +kernel
theorem dL_law_595 : decode cL_law 595 = .ok (.aload_n 0, 1) := by decide +kernel
theorem dL_law_596 : decode cL_law 596 = .ok (.iload_n 3, 1) := by decide +kernel
theorem dL_law_597 : decode cL_law 597 = .ok (.iconst 5, 1) := by decide +kernel
theorem dL_law_598 : decode cL_law 598 = .ok (.iadd, 1) := by decide +kernel
theorem dL_law_599 : decode cL_law 599 = .ok (.iaload, 1) := by decide +kernel
theorem dL_law_600 : decode cL_law 600 = .ok (.invokevirtual 65, 3) := by decide +kernel
theorem dL_law_603 : decode cL_law 603 = .ok (.if_icmp .eq 612, 3) := by decide +kernel
theorem dL_law_606 : decode cL_law 606 = .ok (.iconst 0, 1) := by decide +kernel
theorem dL_law_607 : decode cL_law 607 = .ok (.ireturn, 1) := by decide +kernel
theorem dL_law_608 : decode cL_law 608 = .ok (.aload_n 1, 1) := by decide +kernel
theorem dL_law_609 : decode cL_law 609 = .ok (.aload_n 0, 1) := by decide +kernel
theorem dL_law_610 : decode cL_law 610 = .ok (.iload_n 3, 1) := by decide +kernel
theorem dL_law_611 : decode cL_law 611 = .ok (.iconst 1, 1) := by decide +kernel
theorem dL_law_612 : decode cL_law 612 = .ok (.iadd, 1) := by decide +kernel
theorem dL_law_613 : decode cL_law 613 = .ok (.iaload, 1) := by decide +kernel
theorem dL_law_614 : decode cL_law 614 = .ok (.aload_n 0, 1) := by decide +kernel
theorem dL_law_615 : decode cL_law 615 = .ok (.iload_n 3, 1) := by decide +kernel
theorem dL_law_616 : decode cL_law 616 = .ok (.iconst 2, 1) := by decide +kernel
theorem dL_law_617 : decode cL_law 617 = .ok (.iadd, 1) := by decide +kernel
theorem dL_law_618 : decode cL_law 618 = .ok (.iaload, 1) := by decide +kernel
theorem dL_law_619 : decode cL_law 619 = .ok (.aload_n 0, 1) := by decide +kernel
theorem dL_law_620 : decode cL_law 620 = .ok (.iload_n 3, 1) := by decide +kernel
theorem dL_law_621 : decode cL_law 621 = .ok (.iconst 3, 1) := by decide +kernel
theorem dL_law_622 : decode cL_law 622 = .ok (.iadd, 1) := by decide +kernel
theorem dL_law_623 : decode cL_law 623 = .ok (.iaload, 1) := by decide +kernel
theorem dL_law_624 : decode cL_law 624 = .ok (.invokevirtual 66, 3) := by decide +kernel
theorem dL_law_627 : decode cL_law 627 = .ok (.aload_n 2, 1) := by decide +kernel
theorem dL_law_628 : decode cL_law 628 = .ok (.aload_n 0, 1) := by decide +kernel
theorem dL_law_629 : decode cL_law 629 = .ok (.iload_n 3, 1) := by decide +kernel
theorem dL_law_630 : decode cL_law 630 = .ok (.iconst 1, 1) := by decide +kernel
theorem dL_law_631 : decode cL_law 631 = .ok (.iadd, 1) := by decide +kernel
theorem dL_law_632 : decode cL_law 632 = .ok (.iaload, 1) := by decide +kernel
theorem dL_law_633 : decode cL_law 633 = .ok (.aload_n 0, 1) := by decide +kernel
theorem dL_law_634 : decode cL_law 634 = .ok (.iload_n 3, 1) := by decide +kernel
theorem dL_law_635 : decode cL_law 635 = .ok (.iconst 2, 1) := by decide +kernel
theorem dL_law_636 : decode cL_law 636 = .ok (.iadd, 1) := by decide +kernel
theorem dL_law_637 : decode cL_law 637 = .ok (.iaload, 1) := by decide +kernel
theorem dL_law_638 : decode cL_law 638 = .ok (.aload_n 0, 1) := by decide +kernel
theorem dL_law_639 : decode cL_law 639 = .ok (.iload_n 3, 1) := by decide +kernel
theorem dL_law_640 : decode cL_law 640 = .ok (.iconst 3, 1) := by decide +kernel
theorem dL_law_641 : decode cL_law 641 = .ok (.iadd, 1) := by decide +kernel
theorem dL_law_642 : decode cL_law 642 = .ok (.iaload, 1) := by decide +kernel
theorem dL_law_643 : decode cL_law 643 = .ok (.invokevirtual 69, 3) := by decide +kernel
theorem dL_law_646 : decode cL_law 646 = .ok (.if_icmp .eq 569, 3) := by decide +kernel
theorem dL_law_649 : decode cL_law 649 = .ok (.iconst 0, 1) := by decide +kernel
theorem dL_law_650 : decode cL_law 650 = .ok (.ireturn, 1) := by decide +kernel
theorem dL_law_651 : decode cL_law 651 = .ok (.aload_n 1, 1) := by decide +kernel
theorem dL_law_652 : decode cL_law 652 = .ok (.aload_n 0, 1) := by decide +kernel
theorem dL_law_653 : decode cL_law 653 = .ok (.iload_n 3, 1) := by decide +kernel
theorem dL_law_654 : decode cL_law 654 = .ok (.iconst 1, 1) := by decide +kernel
theorem dL_law_655 : decode cL_law 655 = .ok (.iadd, 1) := by decide +kernel
theorem dL_law_656 : decode cL_law 656 = .ok (.iaload, 1) := by decide +kernel
theorem dL_law_657 : decode cL_law 657 = .ok (.aload_n 0, 1) := by decide +kernel
theorem dL_law_658 : decode cL_law 658 = .ok (.iload_n 3, 1) := by decide +kernel
theorem dL_law_659 : decode cL_law 659 = .ok (.iconst 2, 1) := by decide +kernel
theorem dL_law_660 : decode cL_law 660 = .ok (.iadd, 1) := by decide +kernel
theorem dL_law_661 : decode cL_law 661 = .ok (.iaload, 1) := by decide +kernel
theorem dL_law_662 : decode cL_law 662 = .ok (.invokevirtual 70, 3) := by decide +kernel
theorem dL_law_665 : decode cL_law 665 = .ok (.aload_n 2, 1) := by decide +kernel
theorem dL_law_666 : decode cL_law 666 = .ok (.aload_n 0, 1) := by decide +kernel
theorem dL_law_667 : decode cL_law 667 = .ok (.iload_n 3, 1) := by decide +kernel
theorem dL_law_668 : decode cL_law 668 = .ok (.iconst 1, 1) := by decide +kernel
theorem dL_law_669 : decode cL_law 669 = .ok (.iadd, 1) := by decide +kernel
theorem dL_law_670 : decode cL_law 670 = .ok (.iaload, 1) := by decide +kernel
theorem dL_law_671 : decode cL_law 671 = .ok (.aload_n 0, 1) := by decide +kernel
theorem dL_law_672 : decode cL_law 672 = .ok (.iload_n 3, 1) := by decide +kernel
theorem dL_law_673 : decode cL_law 673 = .ok (.iconst 2, 1) := by decide +kernel
theorem dL_law_674 : decode cL_law 674 = .ok (.iadd, 1) := by decide +kernel
theorem dL_law_675 : decode cL_law 675 = .ok (.iaload, 1) := by decide +kernel
theorem dL_law_676 : decode cL_law 676 = .ok (.invokevirtual 73, 3) := by decide +kernel
theorem dL_law_679 : decode cL_law 679 = .ok (.if_icmp .eq 536, 3) := by decide +kernel
theorem dL_law_682 : decode cL_law 682 = .ok (.iconst 0, 1) := by decide +kernel
theorem dL_law_683 : decode cL_law 683 = .ok (.ireturn, 1) := by decide +kernel
theorem dL_law_684 : decode cL_law 684 = .ok (.aload_n 1, 1) := by decide +kernel
theorem dL_law_685 : decode cL_law 685 = .ok (.aload_n 0, 1) := by decide +kernel
theorem dL_law_686 : decode cL_law 686 = .ok (.iload_n 3, 1) := by decide +kernel
theorem dL_law_687 : decode cL_law 687 = .ok (.iconst 1, 1) := by decide +kernel
theorem dL_law_688 : decode cL_law 688 = .ok (.iadd, 1) := by decide +kernel
theorem dL_law_689 : decode cL_law 689 = .ok (.iaload, 1) := by decide +kernel
theorem dL_law_690 : decode cL_law 690 = .ok (.aload_n 0, 1) := by decide +kernel
theorem dL_law_691 : decode cL_law 691 = .ok (.iload_n 3, 1) := by decide +kernel
theorem dL_law_692 : decode cL_law 692 = .ok (.iconst 2, 1) := by decide +kernel
theorem dL_law_693 : decode cL_law 693 = .ok (.iadd, 1) := by decide +kernel
theorem dL_law_694 : decode cL_law 694 = .ok (.iaload, 1) := by decide +kernel
theorem dL_law_695 : decode cL_law 695 = .ok (.invokevirtual 74, 3) := by decide +kernel
theorem dL_law_698 : decode cL_law 698 = .ok (.aload_n 2, 1) := by decide +kernel
theorem dL_law_699 : decode cL_law 699 = .ok (.aload_n 0, 1) := by decide +kernel
theorem dL_law_700 : decode cL_law 700 = .ok (.iload_n 3, 1) := by decide +kernel
theorem dL_law_701 : decode cL_law 701 = .ok (.iconst 1, 1) := by decide +kernel
theorem dL_law_702 : decode cL_law 702 = .ok (.iadd, 1) := by decide +kernel
theorem dL_law_703 : decode cL_law 703 = .ok (.iaload, 1) := by decide +kernel
theorem dL_law_704 : decode cL_law 704 = .ok (.aload_n 0, 1) := by decide +kernel
theorem dL_law_705 : decode cL_law 705 = .ok (.iload_n 3, 1) := by decide +kernel
theorem dL_law_706 : decode cL_law 706 = .ok (.iconst 2, 1) := by decide +kernel
theorem dL_law_707 : decode cL_law 707 = .ok (.iadd, 1) := by decide +kernel
theorem dL_law_708 : decode cL_law 708 = .ok (.iaload, 1) := by decide +kernel
theorem dL_law_709 : decode cL_law 709 = .ok (.invokevirtual 77, 3) := by decide +kernel
theorem dL_law_712 : decode cL_law 712 = .ok (.if_icmp .eq 503, 3) := by decide +kernel
theorem dL_law_715 : decode cL_law 715 = .ok (.iconst 0, 1) := by decide +kernel
theorem dL_law_716 : decode cL_law 716 = .ok (.ireturn, 1) := by decide +kernel
theorem dL_law_717 : decode cL_law 717 = .ok (.aload_n 1, 1) := by decide +kernel
theorem dL_law_718 : decode cL_law 718 = .ok (.aload_n 0, 1) := by decide +kernel
theorem dL_law_719 : decode cL_law 719 = .ok (.iload_n 3, 1) := by decide +kernel
theorem dL_law_720 : decode cL_law 720 = .ok (.iconst 1, 1) := by decide +kernel
theorem dL_law_721 : decode cL_law 721 = .ok (.iadd, 1) := by decide +kernel
theorem dL_law_722 : decode cL_law 722 = .ok (.iaload, 1) := by decide +kernel
theorem dL_law_723 : decode cL_law 723 = .ok (.aload_n 0, 1) := by decide +kernel
theorem dL_law_724 : decode cL_law 724 = .ok (.iload_n 3, 1) := by decide +kernel
theorem dL_law_725 : decode cL_law 725 = .ok (.iconst 2, 1) := by decide +kernel
theorem dL_law_726 : decode cL_law 726 = .ok (.iadd, 1) := by decide +kernel
theorem dL_law_727 : decode cL_law 727 = .ok (.iaload, 1) := by decide +kernel
theorem dL_law_728 : decode cL_law 728 = .ok (.invokevirtual 78, 3) := by decide +kernel
theorem dL_law_731 : decode cL_law 731 = .ok (.aload_n 2, 1) := by decide +kernel
theorem dL_law_732 : decode cL_law 732 = .ok (.aload_n 0, 1) := by decide +kernel
theorem dL_law_733 : decode cL_law 733 = .ok (.iload_n 3, 1) := by decide +kernel
theorem dL_law_734 : decode cL_law 734 = .ok (.iconst 1, 1) := by decide +kernel
theorem dL_law_735 : decode cL_law 735 = .ok (.iadd, 1) := by decide +kernel
theorem dL_law_736 : decode cL_law 736 = .ok (.iaload, 1) := by decide +kernel
theorem dL_law_737 : decode cL_law 737 = .ok (.aload_n 0, 1) := by decide +kernel
theorem dL_law_738 : decode cL_law 738 = .ok (.iload_n 3, 1) := by decide +kernel
theorem dL_law_739 : decode cL_law 739 = .ok (.iconst 2, 1) := by decide +kernel
theorem dL_law_740 : decode cL_law 740 = .ok (.iadd, 1) := by decide +kernel
theorem dL_law_741 : decode cL_law 741 = .ok (.iaload, 1) := by decide +kernel
theorem dL_law_742 : decode cL_law 742 = .ok (.invokevirtual 81, 3) := by decide +kernel
theorem dL_law_745 : decode cL_law 745 = .ok (.if_icmp .eq 470, 3) := by decide +kernel
theorem dL_law_748 : decode cL_law 748 = .ok (.iconst 0, 1) := by decide +kernel
theorem dL_law_749 : decode cL_law 749 = .ok (.ireturn, 1) := by decide +kernel
theorem dL_law_750 : decode cL_law 750 = .ok (.aload_n 1, 1) := by decide +kernel
theorem dL_law_751 : decode cL_law 751 = .ok (.aload_n 0, 1) := by decide +kernel
theorem dL_law_752 : decode cL_law 752 = .ok (.iload_n 3, 1) := by decide +kernel
theorem dL_law_753 : decode cL_law 753 = .ok (.iconst 1, 1) := by decide +kernel
theorem dL_law_754 : decode cL_law 754 = .ok (.iadd, 1) := by decide +kernel
theorem dL_law_755 : decode cL_law 755 = .ok (.iaload, 1) := by decide +kernel
theorem dL_law_756 : decode cL_law 756 = .ok (.aload_n 0, 1) := by decide +kernel
theorem dL_law_757 : decode cL_law 757 = .ok (.iload_n 3, 1) := by decide +kernel
theorem dL_law_758 : decode cL_law 758 = .ok (.iconst 2, 1) := by decide +kernel
theorem dL_law_759 : decode cL_law 759 = .ok (.iadd, 1) := by decide +kernel
theorem dL_law_760 : decode cL_law 760 = .ok (.iaload, 1) := by decide +kernel
theorem dL_law_761 : decode cL_law 761 = .ok (.invokevirtual 82, 3) := by decide +kernel
theorem dL_law_764 : decode cL_law 764 = .ok (.aload_n 2, 1) := by decide +kernel
theorem dL_law_765 : decode cL_law 765 = .ok (.aload_n 0, 1) := by decide +kernel
theorem dL_law_766 : decode cL_law 766 = .ok (.iload_n 3, 1) := by decide +kernel
theorem dL_law_767 : decode cL_law 767 = .ok (.iconst 1, 1) := by decide +kernel
theorem dL_law_768 : decode cL_law 768 = .ok (.iadd, 1) := by decide +kernel
theorem dL_law_769 : decode cL_law 769 = .ok (.iaload, 1) := by decide +kernel
theorem dL_law_770 : decode cL_law 770 = .ok (.aload_n 0, 1) := by decide +kernel
theorem dL_law_771 : decode cL_law 771 = .ok (.iload_n 3, 1) := by decide +kernel
theorem dL_law_772 : decode cL_law 772 = .ok (.iconst 2, 1) := by decide +kernel
theorem dL_law_773 : decode cL_law 773 = .ok (.iadd, 1) := by decide +kernel
theorem dL_law_774 : decode cL_law 774 = .ok (.iaload, 1) := by decide +kernel
theorem dL_law_775 : decode cL_law 775 = .ok (.invokevirtual 85, 3) := by decide +kernel
theorem dL_law_778 : decode cL_law 778 = .ok (.if_icmp .eq 437, 3) := by decide +kernel
theorem dL_law_781 : decode cL_law 781 = .ok (.iconst 0, 1) := by decide +kernel
theorem dL_law_782 : decode cL_law 782 = .ok (.ireturn, 1) := by decide +kernel
theorem dL_law_783 : decode cL_law 783 = .ok (.aload_n 1, 1) := by decide +kernel
theorem dL_law_784 : decode cL_law 784 = .ok (.aload_n 0, 1) := by decide +kernel
theorem dL_law_785 : decode cL_law 785 = .ok (.iload_n 3, 1) := by decide +kernel
theorem dL_law_786 : decode cL_law 786 = .ok (.iconst 1, 1) := by decide +kernel
theorem dL_law_787 : decode cL_law 787 = .ok (.iadd, 1) := by decide +kernel
theorem dL_law_788 : decode cL_law 788 = .ok (.iaload, 1) := by decide +kernel
theorem dL_law_789 : decode cL_law 789 = .ok (.aload_n 0, 1) := by decide +kernel
theorem dL_law_790 : decode cL_law 790 = .ok (.iload_n 3, 1) := by decide +kernel
theorem dL_law_791 : decode cL_law 791 = .ok (.iconst 2, 1) := by decide +kernel
theorem dL_law_792 : decode cL_law 792 = .ok (.iadd, 1) := by decide +kernel
theorem dL_law_793 : decode cL_law 793 = .ok (.iaload, 1) := by decide +kernel
theorem dL_law_794 : decode cL_law 794 = .ok (.aload_n 0, 1) := by decide +kernel
theorem dL_law_795 : decode cL_law 795 = .ok (.iload_n 3, 1) := by decide +kernel
theorem dL_law_796 : decode cL_law 796 = .ok (.iconst 3, 1) := by decide +kernel
theorem dL_law_797 : decode cL_law 797 = .ok (.iadd, 1) := by decide +kernel
theorem dL_law_798 : decode cL_law 798 = .ok (.iaload, 1) := by decide +kernel
theorem dL_law_799 : decode cL_law 799 = .ok (.ifCond .eq 7, 3) := by decide +kernel
theorem dL_law_802 : decode cL_law 802 = .ok (.iconst 1, 1) := by decide +kernel
theorem dL_law_803 : decode cL_law 803 = .ok (.goto 4, 3) := by decide +kernel
theorem dL_law_806 : decode cL_law 806 = .ok (.iconst 0, 1) := by decide +kernel
theorem dL_law_807 : decode cL_law 807 = .ok (.invokevirtual 86, 3) := by decide +kernel
theorem dL_law_810 : decode cL_law 810 = .ok (.aload_n 2, 1) := by decide +kernel
theorem dL_law_811 : decode cL_law 811 = .ok (.aload_n 0, 1) := by decide +kernel
theorem dL_law_812 : decode cL_law 812 = .ok (.iload_n 3, 1) := by decide +kernel
theorem dL_law_813 : decode cL_law 813 = .ok (.iconst 1, 1) := by decide +kernel
theorem dL_law_814 : decode cL_law 814 = .ok (.iadd, 1) := by decide +kernel
theorem dL_law_815 : decode cL_law 815 = .ok (.iaload, 1) := by decide +kernel
theorem dL_law_816 : decode cL_law 816 = .ok (.aload_n 0, 1) := by decide +kernel
theorem dL_law_817 : decode cL_law 817 = .ok (.iload_n 3, 1) := by decide +kernel
theorem dL_law_818 : decode cL_law 818 = .ok (.iconst 2, 1) := by decide +kernel
theorem dL_law_819 : decode cL_law 819 = .ok (.iadd, 1) := by decide +kernel
theorem dL_law_820 : decode cL_law 820 = .ok (.iaload, 1) := by decide +kernel
theorem dL_law_821 : decode cL_law 821 = .ok (.aload_n 0, 1) := by decide +kernel
theorem dL_law_822 : decode cL_law 822 = .ok (.iload_n 3, 1) := by decide +kernel
theorem dL_law_823 : decode cL_law 823 = .ok (.iconst 3, 1) := by decide +kernel
theorem dL_law_824 : decode cL_law 824 = .ok (.iadd, 1) := by decide +kernel
theorem dL_law_825 : decode cL_law 825 = .ok (.iaload, 1) := by decide +kernel
theorem dL_law_826 : decode cL_law 826 = .ok (.ifCond .eq 7, 3) := by decide +kernel
theorem dL_law_829 : decode cL_law 829 = .ok (.iconst 1, 1) := by decide +kernel
theorem dL_law_830 : decode cL_law 830 = .ok (.goto 4, 3) := by decide +kernel
theorem dL_law_833 : decode cL_law 833 = .ok (.iconst 0, 1) := by decide +kernel
theorem dL_law_834 : decode cL_law 834 = .ok (.invokevirtual 90, 3) := by decide +kernel
theorem dL_law_837 : decode cL_law 837 = .ok (.if_icmp .eq 378, 3) := by decide +kernel
theorem dL_law_840 : decode cL_law 840 = .ok (.iconst 0, 1) := by decide +kernel
theorem dL_law_841 : decode cL_law 841 = .ok (.ireturn, 1) := by decide +kernel
theorem dL_law_842 : decode cL_law 842 = .ok (.aload_n 1, 1) := by decide +kernel
theorem dL_law_843 : decode cL_law 843 = .ok (.aload_n 0, 1) := by decide +kernel
theorem dL_law_844 : decode cL_law 844 = .ok (.iload_n 3, 1) := by decide +kernel
theorem dL_law_845 : decode cL_law 845 = .ok (.iconst 1, 1) := by decide +kernel
theorem dL_law_846 : decode cL_law 846 = .ok (.iadd, 1) := by decide +kernel
theorem dL_law_847 : decode cL_law 847 = .ok (.iaload, 1) := by decide +kernel
theorem dL_law_848 : decode cL_law 848 = .ok (.aload_n 0, 1) := by decide +kernel
theorem dL_law_849 : decode cL_law 849 = .ok (.iload_n 3, 1) := by decide +kernel
theorem dL_law_850 : decode cL_law 850 = .ok (.iconst 2, 1) := by decide +kernel
theorem dL_law_851 : decode cL_law 851 = .ok (.iadd, 1) := by decide +kernel
theorem dL_law_852 : decode cL_law 852 = .ok (.iaload, 1) := by decide +kernel
theorem dL_law_853 : decode cL_law 853 = .ok (.aload_n 0, 1) := by decide +kernel
theorem dL_law_854 : decode cL_law 854 = .ok (.iload_n 3, 1) := by decide +kernel
theorem dL_law_855 : decode cL_law 855 = .ok (.iconst 3, 1) := by decide +kernel
theorem dL_law_856 : decode cL_law 856 = .ok (.iadd, 1) := by decide +kernel
theorem dL_law_857 : decode cL_law 857 = .ok (.iaload, 1) := by decide +kernel
theorem dL_law_858 : decode cL_law 858 = .ok (.invokevirtual 91, 3) := by decide +kernel
theorem dL_law_861 : decode cL_law 861 = .ok (.aload_n 2, 1) := by decide +kernel
theorem dL_law_862 : decode cL_law 862 = .ok (.aload_n 0, 1) := by decide +kernel
theorem dL_law_863 : decode cL_law 863 = .ok (.iload_n 3, 1) := by decide +kernel
theorem dL_law_864 : decode cL_law 864 = .ok (.iconst 1, 1) := by decide +kernel
theorem dL_law_865 : decode cL_law 865 = .ok (.iadd, 1) := by decide +kernel
theorem dL_law_866 : decode cL_law 866 = .ok (.iaload, 1) := by decide +kernel
theorem dL_law_867 : decode cL_law 867 = .ok (.aload_n 0, 1) := by decide +kernel
theorem dL_law_868 : decode cL_law 868 = .ok (.iload_n 3, 1) := by decide +kernel
theorem dL_law_869 : decode cL_law 869 = .ok (.iconst 2, 1) := by decide +kernel
theorem dL_law_870 : decode cL_law 870 = .ok (.iadd, 1) := by decide +kernel
theorem dL_law_871 : decode cL_law 871 = .ok (.iaload, 1) := by decide +kernel
theorem dL_law_872 : decode cL_law 872 = .ok (.aload_n 0, 1) := by decide +kernel
theorem dL_law_873 : decode cL_law 873 = .ok (.iload_n 3, 1) := by decide +kernel
theorem dL_law_874 : decode cL_law 874 = .ok (.iconst 3, 1) := by decide +kernel
theorem dL_law_875 : decode cL_law 875 = .ok (.iadd, 1) := by decide +kernel
theorem dL_law_876 : decode cL_law 876 = .ok (.iaload, 1) := by decide +kernel
theorem dL_law_877 : decode cL_law 877 = .ok (.invokevirtual 94, 3) := by decide +kernel
theorem dL_law_880 : decode cL_law 880 = .ok (.if_icmp .eq 335, 3) := by decide +kernel
theorem dL_law_883 : decode cL_law 883 = .ok (.iconst 0, 1) := by decide +kernel
theorem dL_law_884 : decode cL_law 884 = .ok (.ireturn, 1) := by decide +kernel
theorem dL_law_885 : decode cL_law 885 = .ok (.aload_n 1, 1) := by decide +kernel
theorem dL_law_886 : decode cL_law 886 = .ok (.aload_n 0, 1) := by decide +kernel
theorem dL_law_887 : decode cL_law 887 = .ok (.iload_n 3, 1) := by decide +kernel
theorem dL_law_888 : decode cL_law 888 = .ok (.iconst 1, 1) := by decide +kernel
theorem dL_law_889 : decode cL_law 889 = .ok (.iadd, 1) := by decide +kernel
theorem dL_law_890 : decode cL_law 890 = .ok (.iaload, 1) := by decide +kernel
theorem dL_law_891 : decode cL_law 891 = .ok (.aload_n 0, 1) := by decide +kernel
theorem dL_law_892 : decode cL_law 892 = .ok (.iload_n 3, 1) := by decide +kernel
theorem dL_law_893 : decode cL_law 893 = .ok (.iconst 2, 1) := by decide +kernel
theorem dL_law_894 : decode cL_law 894 = .ok (.iadd, 1) := by decide +kernel
theorem dL_law_895 : decode cL_law 895 = .ok (.iaload, 1) := by decide +kernel
theorem dL_law_896 : decode cL_law 896 = .ok (.invokevirtual 95, 3) := by decide +kernel
theorem dL_law_899 : decode cL_law 899 = .ok (.aload_n 2, 1) := by decide +kernel
theorem dL_law_900 : decode cL_law 900 = .ok (.aload_n 0, 1) := by decide +kernel
theorem dL_law_901 : decode cL_law 901 = .ok (.iload_n 3, 1) := by decide +kernel
theorem dL_law_902 : decode cL_law 902 = .ok (.iconst 1, 1) := by decide +kernel
theorem dL_law_903 : decode cL_law 903 = .ok (.iadd, 1) := by decide +kernel
theorem dL_law_904 : decode cL_law 904 = .ok (.iaload, 1) := by decide +kernel
theorem dL_law_905 : decode cL_law 905 = .ok (.aload_n 0, 1) := by decide +kernel
theorem dL_law_906 : decode cL_law 906 = .ok (.iload_n 3, 1) := by decide +kernel
theorem dL_law_907 : decode cL_law 907 = .ok (.iconst 2, 1) := by decide +kernel
theorem dL_law_908 : decode cL_law 908 = .ok (.iadd, 1) := by decide +kernel
theorem dL_law_909 : decode cL_law 909 = .ok (.iaload, 1) := by decide +kernel
theorem dL_law_910 : decode cL_law 910 = .ok (.invokevirtual 98, 3) := by decide +kernel
theorem dL_law_913 : decode cL_law 913 = .ok (.if_icmp .eq 302, 3) := by decide +kernel
theorem dL_law_916 : decode cL_law 916 = .ok (.iconst 0, 1) := by decide +kernel
theorem dL_law_917 : decode cL_law 917 = .ok (.ireturn, 1) := by decide +kernel
theorem dL_law_918 : decode cL_law 918 = .ok (.aload_n 1, 1) := by decide +kernel
theorem dL_law_919 : decode cL_law 919 = .ok (.aload_n 0, 1) := by decide +kernel
theorem dL_law_920 : decode cL_law 920 = .ok (.iload_n 3, 1) := by decide +kernel
theorem dL_law_921 : decode cL_law 921 = .ok (.iconst 1, 1) := by decide +kernel
theorem dL_law_922 : decode cL_law 922 = .ok (.iadd, 1) := by decide +kernel
theorem dL_law_923 : decode cL_law 923 = .ok (.iaload, 1) := by decide +kernel
theorem dL_law_924 : decode cL_law 924 = .ok (.aload_n 0, 1) := by decide +kernel
theorem dL_law_925 : decode cL_law 925 = .ok (.iload_n 3, 1) := by decide +kernel
theorem dL_law_926 : decode cL_law 926 = .ok (.iconst 2, 1) := by decide +kernel
theorem dL_law_927 : decode cL_law 927 = .ok (.iadd, 1) := by decide +kernel
theorem dL_law_928 : decode cL_law 928 = .ok (.iaload, 1) := by decide +kernel
theorem dL_law_929 : decode cL_law 929 = .ok (.invokevirtual 99, 3) := by decide +kernel
theorem dL_law_932 : decode cL_law 932 = .ok (.aload_n 2, 1) := by decide +kernel
theorem dL_law_933 : decode cL_law 933 = .ok (.aload_n 0, 1) := by decide +kernel
theorem dL_law_934 : decode cL_law 934 = .ok (.iload_n 3, 1) := by decide +kernel
theorem dL_law_935 : decode cL_law 935 = .ok (.iconst 1, 1) := by decide +kernel
theorem dL_law_936 : decode cL_law 936 = .ok (.iadd, 1) := by decide +kernel
theorem dL_law_937 : decode cL_law 937 = .ok (.iaload, 1) := by decide +kernel
theorem dL_law_938 : decode cL_law 938 = .ok (.aload_n 0, 1) := by decide +kernel
theorem dL_law_939 : decode cL_law 939 = .ok (.iload_n 3, 1) := by decide +kernel
theorem dL_law_940 : decode cL_law 940 = .ok (.iconst 2, 1) := by decide +kernel
theorem dL_law_941 : decode cL_law 941 = .ok (.iadd, 1) := by decide +kernel
theorem dL_law_942 : decode cL_law 942 = .ok (.iaload, 1) := by decide +kernel
theorem dL_law_943 : decode cL_law 943 = .ok (.invokevirtual 102, 3) := by decide +kernel
theorem dL_law_946 : decode cL_law 946 = .ok (.if_icmp .eq 269, 3) := by decide +kernel
theorem dL_law_949 : decode cL_law 949 = .ok (.iconst 0, 1) := by decide +kernel
theorem dL_law_950 : decode cL_law 950 = .ok (.ireturn, 1) := by decide +kernel
theorem dL_law_951 : decode cL_law 951 = .ok (.aload_n 1, 1) := by decide +kernel
theorem dL_law_952 : decode cL_law 952 = .ok (.invokevirtual 103, 3) := by decide +kernel
theorem dL_law_955 : decode cL_law 955 = .ok (.aload_n 2, 1) := by decide +kernel
theorem dL_law_956 : decode cL_law 956 = .ok (.invokevirtual 107, 3) := by decide +kernel
theorem dL_law_959 : decode cL_law 959 = .ok (.if_icmp .eq 256, 3) := by decide +kernel
theorem dL_law_962 : decode cL_law 962 = .ok (.iconst 0, 1) := by decide +kernel
theorem dL_law_963 : decode cL_law 963 = .ok (.ireturn, 1) := by decide +kernel
theorem dL_law_964 : decode cL_law 964 = .ok (.aload_n 1, 1) := by decide +kernel
theorem dL_law_965 : decode cL_law 965 = .ok (.aload_n 0, 1) := by decide +kernel
theorem dL_law_966 : decode cL_law 966 = .ok (.iload_n 3, 1) := by decide +kernel
theorem dL_law_967 : decode cL_law 967 = .ok (.iconst 1, 1) := by decide +kernel
theorem dL_law_968 : decode cL_law 968 = .ok (.iadd, 1) := by decide +kernel
theorem dL_law_969 : decode cL_law 969 = .ok (.iaload, 1) := by decide +kernel
theorem dL_law_970 : decode cL_law 970 = .ok (.aload_n 0, 1) := by decide +kernel
theorem dL_law_971 : decode cL_law 971 = .ok (.iload_n 3, 1) := by decide +kernel
theorem dL_law_972 : decode cL_law 972 = .ok (.iconst 2, 1) := by decide +kernel
theorem dL_law_973 : decode cL_law 973 = .ok (.iadd, 1) := by decide +kernel
theorem dL_law_974 : decode cL_law 974 = .ok (.iaload, 1) := by decide +kernel
theorem dL_law_975 : decode cL_law 975 = .ok (.invokevirtual 108, 3) := by decide +kernel
theorem dL_law_978 : decode cL_law 978 = .ok (.aload_n 2, 1) := by decide +kernel
theorem dL_law_979 : decode cL_law 979 = .ok (.aload_n 0, 1) := by decide +kernel
theorem dL_law_980 : decode cL_law 980 = .ok (.iload_n 3, 1) := by decide +kernel
theorem dL_law_981 : decode cL_law 981 = .ok (.iconst 1, 1) := by decide +kernel
theorem dL_law_982 : decode cL_law 982 = .ok (.iadd, 1) := by decide +kernel
theorem dL_law_983 : decode cL_law 983 = .ok (.iaload, 1) := by decide +kernel
theorem dL_law_984 : decode cL_law 984 = .ok (.aload_n 0, 1) := by decide +kernel
theorem dL_law_985 : decode cL_law 985 = .ok (.iload_n 3, 1) := by decide +kernel
theorem dL_law_986 : decode cL_law 986 = .ok (.iconst 2, 1) := by decide +kernel
theorem dL_law_987 : decode cL_law 987 = .ok (.iadd, 1) := by decide +kernel
theorem dL_law_988 : decode cL_law 988 = .ok (.iaload, 1) := by decide +kernel
theorem dL_law_989 : decode cL_law 989 = .ok (.invokevirtual 111, 3) := by decide +kernel
theorem dL_law_992 : decode cL_law 992 = .ok (.if_icmp .eq 223, 3) := by decide +kernel
theorem dL_law_995 : decode cL_law 995 = .ok (.iconst 0, 1) := by decide +kernel
theorem dL_law_996 : decode cL_law 996 = .ok (.ireturn, 1) := by decide +kernel
theorem dL_law_997 : decode cL_law 997 = .ok (.aload_n 1, 1) := by decide +kernel
theorem dL_law_998 : decode cL_law 998 = .ok (.aload_n 0, 1) := by decide +kernel
theorem dL_law_999 : decode cL_law 999 = .ok (.iload_n 3, 1) := by decide +kernel
theorem dL_law_1000 : decode cL_law 1000 = .ok (.iconst 1, 1) := by decide +kernel
theorem dL_law_1001 : decode cL_law 1001 = .ok (.iadd, 1) := by decide +kernel
theorem dL_law_1002 : decode cL_law 1002 = .ok (.iaload, 1) := by decide +kernel
theorem dL_law_1003 : decode cL_law 1003 = .ok (.aload_n 0, 1) := by decide +kernel
theorem dL_law_1004 : decode cL_law 1004 = .ok (.iload_n 3, 1) := by decide +kernel
theorem dL_law_1005 : decode cL_law 1005 = .ok (.iconst 2, 1) := by decide +kernel
theorem dL_law_1006 : decode cL_law 1006 = .ok (.iadd, 1) := by decide +kernel
theorem dL_law_1007 : decode cL_law 1007 = .ok (.iaload, 1) := by decide +kernel
theorem dL_law_1008 : decode cL_law 1008 = .ok (.invokevirtual 112, 3) := by decide +kernel
theorem dL_law_1011 : decode cL_law 1011 = .ok (.aload_n 2, 1) := by decide +kernel
theorem dL_law_1012 : decode cL_law 1012 = .ok (.aload_n 0, 1) := by decide +kernel
theorem dL_law_1013 : decode cL_law 1013 = .ok (.iload_n 3, 1) := by decide +kernel
theorem dL_law_1014 : decode cL_law 1014 = .ok (.iconst 1, 1) := by decide +kernel
theorem dL_law_1015 : decode cL_law 1015 = .ok (.iadd, 1) := by decide +kernel
theorem dL_law_1016 : decode cL_law 1016 = .ok (.iaload, 1) := by decide +kernel
theorem dL_law_1017 : decode cL_law 1017 = .ok (.aload_n 0, 1) := by decide +kernel
theorem dL_law_1018 : decode cL_law 1018 = .ok (.iload_n 3, 1) := by decide +kernel
theorem dL_law_1019 : decode cL_law 1019 = .ok (.iconst 2, 1) := by decide +kernel
theorem dL_law_1020 : decode cL_law 1020 = .ok (.iadd, 1) := by decide +kernel
theorem dL_law_1021 : decode cL_law 1021 = .ok (.iaload, 1) := by decide +kernel
theorem dL_law_1022 : decode cL_law 1022 = .ok (.invokevirtual 115, 3) := by decide +kernel
theorem dL_law_1025 : decode cL_law 1025 = .ok (.if_icmp .eq 190, 3) := by decide +kernel
theorem dL_law_1028 : decode cL_law 1028 = .ok (.iconst 0, 1) := by decide +kernel
theorem dL_law_1029 : decode cL_law 1029 = .ok (.ireturn, 1) := by decide +kernel
theorem dL_law_1030 : decode cL_law 1030 = .ok (.aload_n 1, 1) := by decide +kernel
theorem dL_law_1031 : decode cL_law 1031 = .ok (.aload_n 0, 1) := by decide +kernel
theorem dL_law_1032 : decode cL_law 1032 = .ok (.iload_n 3, 1) := by decide +kernel
theorem dL_law_1033 : decode cL_law 1033 = .ok (.iconst 1, 1) := by decide +kernel
theorem dL_law_1034 : decode cL_law 1034 = .ok (.iadd, 1) := by decide +kernel
theorem dL_law_1035 : decode cL_law 1035 = .ok (.iaload, 1) := by decide +kernel
theorem dL_law_1036 : decode cL_law 1036 = .ok (.aload_n 0, 1) := by decide +kernel
theorem dL_law_1037 : decode cL_law 1037 = .ok (.iload_n 3, 1) := by decide +kernel
theorem dL_law_1038 : decode cL_law 1038 = .ok (.iconst 2, 1) := by decide +kernel
theorem dL_law_1039 : decode cL_law 1039 = .ok (.iadd, 1) := by decide +kernel
theorem dL_law_1040 : decode cL_law 1040 = .ok (.iaload, 1) := by decide +kernel
theorem dL_law_1041 : decode cL_law 1041 = .ok (.invokevirtual 116, 3) := by decide +kernel
theorem dL_law_1044 : decode cL_law 1044 = .ok (.aload_n 2, 1) := by decide +kernel
theorem dL_law_1045 : decode cL_law 1045 = .ok (.aload_n 0, 1) := by decide +kernel
theorem dL_law_1046 : decode cL_law 1046 = .ok (.iload_n 3, 1) := by decide +kernel
theorem dL_law_1047 : decode cL_law 1047 = .ok (.iconst 1, 1) := by decide +kernel
theorem dL_law_1048 : decode cL_law 1048 = .ok (.iadd, 1) := by decide +kernel
theorem dL_law_1049 : decode cL_law 1049 = .ok (.iaload, 1) := by decide +kernel
theorem dL_law_1050 : decode cL_law 1050 = .ok (.aload_n 0, 1) := by decide +kernel
theorem dL_law_1051 : decode cL_law 1051 = .ok (.iload_n 3, 1) := by decide +kernel
theorem dL_law_1052 : decode cL_law 1052 = .ok (.iconst 2, 1) := by decide +kernel
theorem dL_law_1053 : decode cL_law 1053 = .ok (.iadd, 1) := by decide +kernel
theorem dL_law_1054 : decode cL_law 1054 = .ok (.iaload, 1) := by decide +kernel
theorem dL_law_1055 : decode cL_law 1055 = .ok (.invokevirtual 119, 3) := by decide +kernel
theorem dL_law_1058 : decode cL_law 1058 = .ok (.if_icmp .eq 157, 3) := by decide +kernel
theorem dL_law_1061 : decode cL_law 1061 = .ok (.iconst 0, 1) := by decide +kernel
theorem dL_law_1062 : decode cL_law 1062 = .ok (.ireturn, 1) := by decide +kernel
theorem dL_law_1063 : decode cL_law 1063 = .ok (.aload_n 1, 1) := by decide +kernel
theorem dL_law_1064 : decode cL_law 1064 = .ok (.aload_n 0, 1) := by decide +kernel
theorem dL_law_1065 : decode cL_law 1065 = .ok (.iload_n 3, 1) := by decide +kernel
theorem dL_law_1066 : decode cL_law 1066 = .ok (.iconst 1, 1) := by decide +kernel
theorem dL_law_1067 : decode cL_law 1067 = .ok (.iadd, 1) := by decide +kernel
theorem dL_law_1068 : decode cL_law 1068 = .ok (.iaload, 1) := by decide +kernel
theorem dL_law_1069 : decode cL_law 1069 = .ok (.aload_n 0, 1) := by decide +kernel
theorem dL_law_1070 : decode cL_law 1070 = .ok (.iload_n 3, 1) := by decide +kernel
theorem dL_law_1071 : decode cL_law 1071 = .ok (.iconst 2, 1) := by decide +kernel
theorem dL_law_1072 : decode cL_law 1072 = .ok (.iadd, 1) := by decide +kernel
theorem dL_law_1073 : decode cL_law 1073 = .ok (.iaload, 1) := by decide +kernel
theorem dL_law_1074 : decode cL_law 1074 = .ok (.invokevirtual 120, 3) := by decide +kernel
theorem dL_law_1077 : decode cL_law 1077 = .ok (.aload_n 2, 1) := by decide +kernel
theorem dL_law_1078 : decode cL_law 1078 = .ok (.aload_n 0, 1) := by decide +kernel
theorem dL_law_1079 : decode cL_law 1079 = .ok (.iload_n 3, 1) := by decide +kernel
theorem dL_law_1080 : decode cL_law 1080 = .ok (.iconst 1, 1) := by decide +kernel
theorem dL_law_1081 : decode cL_law 1081 = .ok (.iadd, 1) := by decide +kernel
theorem dL_law_1082 : decode cL_law 1082 = .ok (.iaload, 1) := by decide +kernel
theorem dL_law_1083 : decode cL_law 1083 = .ok (.aload_n 0, 1) := by decide +kernel
theorem dL_law_1084 : decode cL_law 1084 = .ok (.iload_n 3, 1) := by decide +kernel
theorem dL_law_1085 : decode cL_law 1085 = .ok (.iconst 2, 1) := by decide +kernel
theorem dL_law_1086 : decode cL_law 1086 = .ok (.iadd, 1) := by decide +kernel
theorem dL_law_1087 : decode cL_law 1087 = .ok (.iaload, 1) := by decide +kernel
theorem dL_law_1088 : decode cL_law 1088 = .ok (.invokevirtual 123, 3) := by decide +kernel
theorem dL_law_1091 : decode cL_law 1091 = .ok (.if_icmp .eq 124, 3) := by decide +kernel
theorem dL_law_1094 : decode cL_law 1094 = .ok (.iconst 0, 1) := by decide +kernel
theorem dL_law_1095 : decode cL_law 1095 = .ok (.ireturn, 1) := by decide +kernel
theorem dL_law_1096 : decode cL_law 1096 = .ok (.aload_n 1, 1) := by decide +kernel
theorem dL_law_1097 : decode cL_law 1097 = .ok (.aload_n 0, 1) := by decide +kernel
theorem dL_law_1098 : decode cL_law 1098 = .ok (.iload_n 3, 1) := by decide +kernel
theorem dL_law_1099 : decode cL_law 1099 = .ok (.iconst 1, 1) := by decide +kernel
theorem dL_law_1100 : decode cL_law 1100 = .ok (.iadd, 1) := by decide +kernel
theorem dL_law_1101 : decode cL_law 1101 = .ok (.iaload, 1) := by decide +kernel
theorem dL_law_1102 : decode cL_law 1102 = .ok (.aload_n 0, 1) := by decide +kernel
theorem dL_law_1103 : decode cL_law 1103 = .ok (.iload_n 3, 1) := by decide +kernel
theorem dL_law_1104 : decode cL_law 1104 = .ok (.iconst 2, 1) := by decide +kernel
theorem dL_law_1105 : decode cL_law 1105 = .ok (.iadd, 1) := by decide +kernel
theorem dL_law_1106 : decode cL_law 1106 = .ok (.iaload, 1) := by decide +kernel
theorem dL_law_1107 : decode cL_law 1107 = .ok (.invokevirtual 124, 3) := by decide +kernel
theorem dL_law_1110 : decode cL_law 1110 = .ok (.aload_n 2, 1) := by decide +kernel
theorem dL_law_1111 : decode cL_law 1111 = .ok (.aload_n 0, 1) := by decide +kernel
theorem dL_law_1112 : decode cL_law 1112 = .ok (.iload_n 3, 1) := by decide +kernel
theorem dL_law_1113 : decode cL_law 1113 = .ok (.iconst 1, 1) := by decide +kernel
theorem dL_law_1114 : decode cL_law 1114 = .ok (.iadd, 1) := by decide +kernel
theorem dL_law_1115 : decode cL_law 1115 = .ok (.iaload, 1) := by decide +kernel
theorem dL_law_1116 : decode cL_law 1116 = .ok (.aload_n 0, 1) := by decide +kernel
theorem dL_law_1117 : decode cL_law 1117 = .ok (.iload_n 3, 1) := by decide +kernel
theorem dL_law_1118 : decode cL_law 1118 = .ok (.iconst 2, 1) := by decide +kernel
theorem dL_law_1119 : decode cL_law 1119 = .ok (.iadd, 1) := by decide +kernel
theorem dL_law_1120 : decode cL_law 1120 = .ok (.iaload, 1) := by decide +kernel
theorem dL_law_1121 : decode cL_law 1121 = .ok (.invokevirtual 127, 3) := by decide +kernel
theorem dL_law_1124 : decode cL_law 1124 = .ok (.if_icmp .eq 91, 3) := by decide +kernel
theorem dL_law_1127 : decode cL_law 1127 = .ok (.iconst 0, 1) := by decide +kernel
theorem dL_law_1128 : decode cL_law 1128 = .ok (.ireturn, 1) := by decide +kernel
theorem dL_law_1129 : decode cL_law 1129 = .ok (.aload_n 1, 1) := by decide +kernel
theorem dL_law_1130 : decode cL_law 1130 = .ok (.invokevirtual 128, 3) := by decide +kernel
theorem dL_law_1133 : decode cL_law 1133 = .ok (.aload_n 2, 1) := by decide +kernel
theorem dL_law_1134 : decode cL_law 1134 = .ok (.invokevirtual 131, 3) := by decide +kernel
theorem dL_law_1137 : decode cL_law 1137 = .ok (.if_icmp .eq 78, 3) := by decide +kernel
theorem dL_law_1140 : decode cL_law 1140 = .ok (.iconst 0, 1) := by decide +kernel
theorem dL_law_1141 : decode cL_law 1141 = .ok (.ireturn, 1) := by decide +kernel
theorem dL_law_1142 : decode cL_law 1142 = .ok (.aload_n 1, 1) := by decide +kernel
theorem dL_law_1143 : decode cL_law 1143 = .ok (.aload_n 0, 1) := by decide +kernel
theorem dL_law_1144 : decode cL_law 1144 = .ok (.iload_n 3, 1) := by decide +kernel
theorem dL_law_1145 : decode cL_law 1145 = .ok (.iconst 1, 1) := by decide +kernel
theorem dL_law_1146 : decode cL_law 1146 = .ok (.iadd, 1) := by decide +kernel
theorem dL_law_1147 : decode cL_law 1147 = .ok (.iaload, 1) := by decide +kernel
theorem dL_law_1148 : decode cL_law 1148 = .ok (.invokevirtual 132, 3) := by decide +kernel
theorem dL_law_1151 : decode cL_law 1151 = .ok (.aload_n 2, 1) := by decide +kernel
theorem dL_law_1152 : decode cL_law 1152 = .ok (.aload_n 0, 1) := by decide +kernel
theorem dL_law_1153 : decode cL_law 1153 = .ok (.iload_n 3, 1) := by decide +kernel
theorem dL_law_1154 : decode cL_law 1154 = .ok (.iconst 1, 1) := by decide +kernel
theorem dL_law_1155 : decode cL_law 1155 = .ok (.iadd, 1) := by decide +kernel
theorem dL_law_1156 : decode cL_law 1156 = .ok (.iaload, 1) := by decide +kernel
theorem dL_law_1157 : decode cL_law 1157 = .ok (.invokevirtual 135, 3) := by decide +kernel
theorem dL_law_1160 : decode cL_law 1160 = .ok (.if_icmp .eq 55, 3) := by decide +kernel
theorem dL_law_1163 : decode cL_law 1163 = .ok (.iconst 0, 1) := by decide +kernel
theorem dL_law_1164 : decode cL_law 1164 = .ok (.ireturn, 1) := by decide +kernel
theorem dL_law_1165 : decode cL_law 1165 = .ok (.aload_n 1, 1) := by decide +kernel
theorem dL_law_1166 : decode cL_law 1166 = .ok (.invokevirtual 136, 3) := by decide +kernel
theorem dL_law_1169 : decode cL_law 1169 = .ok (.aload_n 2, 1) := by decide +kernel
theorem dL_law_1170 : decode cL_law 1170 = .ok (.invokevirtual 139, 3) := by decide +kernel
theorem dL_law_1173 : decode cL_law 1173 = .ok (.if_icmp .eq 42, 3) := by decide +kernel
theorem dL_law_1176 : decode cL_law 1176 = .ok (.iconst 0, 1) := by decide +kernel
theorem dL_law_1177 : decode cL_law 1177 = .ok (.ireturn, 1) := by decide +kernel
theorem dL_law_1178 : decode cL_law 1178 = .ok (.aload_n 1, 1) := by decide +kernel
theorem dL_law_1179 : decode cL_law 1179 = .ok (.aload_n 0, 1) := by decide +kernel
theorem dL_law_1180 : decode cL_law 1180 = .ok (.iload_n 3, 1) := by decide +kernel
theorem dL_law_1181 : decode cL_law 1181 = .ok (.iconst 1, 1) := by decide +kernel
theorem dL_law_1182 : decode cL_law 1182 = .ok (.iadd, 1) := by decide +kernel
theorem dL_law_1183 : decode cL_law 1183 = .ok (.iaload, 1) := by decide +kernel
theorem dL_law_1184 : decode cL_law 1184 = .ok (.invokevirtual 140, 3) := by decide +kernel
theorem dL_law_1187 : decode cL_law 1187 = .ok (.aload_n 2, 1) := by decide +kernel
theorem dL_law_1188 : decode cL_law 1188 = .ok (.aload_n 0, 1) := by decide +kernel
theorem dL_law_1189 : decode cL_law 1189 = .ok (.iload_n 3, 1) := by decide +kernel
theorem dL_law_1190 : decode cL_law 1190 = .ok (.iconst 1, 1) := by decide +kernel
theorem dL_law_1191 : decode cL_law 1191 = .ok (.iadd, 1) := by decide +kernel
theorem dL_law_1192 : decode cL_law 1192 = .ok (.iaload, 1) := by decide +kernel
theorem dL_law_1193 : decode cL_law 1193 = .ok (.invokevirtual 143, 3) := by decide +kernel
theorem dL_law_1196 : decode cL_law 1196 = .ok (.if_icmp .eq 19, 3) := by decide +kernel
theorem dL_law_1199 : decode cL_law 1199 = .ok (.iconst 0, 1) := by decide +kernel
theorem dL_law_1200 : decode cL_law 1200 = .ok (.ireturn, 1) := by decide +kernel
theorem dL_law_1201 : decode cL_law 1201 = .ok (.aload_n 1, 1) := by decide +kernel
theorem dL_law_1202 : decode cL_law 1202 = .ok (.invokevirtual 144, 3) := by decide +kernel
theorem dL_law_1205 : decode cL_law 1205 = .ok (.aload_n 2, 1) := by decide +kernel
theorem dL_law_1206 : decode cL_law 1206 = .ok (.invokevirtual 148, 3) := by decide +kernel
theorem dL_law_1209 : decode cL_law 1209 = .ok (.lcmp, 1) := by decide +kernel
theorem dL_law_1210 : decode cL_law 1210 = .ok (.ifCond .eq 5, 3) := by decide +kernel
theorem dL_law_1213 : decode cL_law 1213 = .ok (.iconst 0, 1) := by decide +kernel
theorem dL_law_1214 : decode cL_law 1214 = .ok (.ireturn, 1) := by decide +kernel
theorem dL_law_1215 : decode cL_law 1215 = .ok (.iinc 3 6, 3) := by decide +kernel
theorem dL_law_1218 : decode cL_law 1218 = .ok (.goto (-1200), 3) := by decide +kernel
theorem dL_law_1221 : decode cL_law 1221 = .ok (.iconst 1, 1) := by decide +kernel
theorem dL_law_1222 : decode cL_law 1222 = .ok (.ireturn, 1) := by decide +kernel
abbrev vwCl : List vw_C := [(RJx4a65c, TJx4a65c, 3), (RX0, TX0, 6), (RX1, TX1, 4), (RX2, TX2, 5), (RX3, TX3, 6), (RX4, TX4, 2), (RX5, TX5, 3), (RX6, TX6, 1), (RX7, TX7, 1), (RX8, TX8, 14), (RX9, TX9, 27)]
end
section
/-! A heap by names: a cell's name is (code, number). Codes 0 .. 10 are the objects of vwCl, 12 .. 16 rows of references, 20 .. 59 rows of ints, 60 .. rows of booleans; 17, 18, 19 are cells that are not ours -/
abbrev Nm : Type := Nat × Nat
abbrev Hp : Type := (List Nm × (Nm → Nat → Option Nm) × (Nm → Nat)) × (Nm → Nat → Int32) × Nat × Nat
def gL (g : Hp) : List Nm := g.1.1
def gR (g : Hp) : Nm → Nat → Option Nm := g.1.2.1
def gN (g : Hp) : Nm → Nat := g.1.2.2
def gI (g : Hp) : Nm → Nat → Int32 := g.2.1
def gc (g : Hp) : Nat := g.2.2.1
def gs (g : Hp) : Nat := g.2.2.2
def isX (n : Nm) : Prop := n = (17, 0) ∨ n = (18, 0) ∨ n = (19, 0)
def okr (g : Hp) (r : Option Nm) : Prop := ∀ n, r = some n → n ∈ gL g ∨ isX n
abbrev SV : Type := Int32 ⊕ Int64 ⊕ Option Nm
abbrev sI (x : Int32) : SV := .inl x
abbrev sL (x : Int64) : SV := .inr (.inl x)
abbrev sR (r : Option Nm) : SV := .inr (.inr r)
def cv (ad : Nm → Nat) : SV → Value
  | .inl x => .int x
  | .inr (.inl x) => .long x
  | .inr (.inr r) => va_rf (r.map ad)
def sc : SV → Nat
  | .inr (.inl _) => 2
  | _ => 1
def okv (g : Hp) : SV → Prop
  | .inr (.inr r) => okr g r
  | _ => True
theorem cv_cat (ad : Nm → Nat) (v : SV) : (cv ad v).category = sc v := by
  rcases v with x | x | r
  · rfl
  · rfl
  · cases r <;> rfl
def flds : Nat → List Bool
  | 0 => [false, true, false]
  | 1 => [true, true, false, false, false, false]
  | 2 => [false, false, false, false]
  | 3 => [false, false, false, false, false]
  | 4 => [false, false, true, false, true, true]
  | 5 => [true, false]
  | 6 => [false, true, false]
  | 7 => [false]
  | 8 => [true]
  | 9 => [true, true, true, true, true, true, true, true, true, false, false, false, false, false]
  | 10 => [false, true, false, false, false, false, false, true, true, false, true, true, true, true, true, false, true, true, true, true, false, true, true, true, false, true, true]
  | _ => []
def fv (ad : Nm → Nat) (g : Hp) (n : Nm) (k : Nat) (b : Bool) : Value := if b = true then va_rf ((gR g n k).map ad) else .int (gI g n k)
def ent (cs : ClassId × ClassId × ClassId) (ad : Nm → Nat) (g : Hp) (n : Nm) : va_E :=
  if n.1 < 11 then .inr (n.1, (flds n.1).mapIdx (fv ad g n))
  else if n.1 < 20 then .inl (cs.2.2, gN g n, .inr (.inr (.inr (.inr (fun j => (gR g n j).map ad)))))
  else if n.1 < 60 then .inl (cs.1, gN g n, .inl (gI g n))
  else .inl (cs.2.1, gN g n, .inl (gI g n))
def wld (cs : ClassId × ClassId × ClassId) (ad : Nm → Nat) (g : Hp) : va_W := (gL g).map (fun n => (ad n, ent cs ad g n))
def tyl (cs : ClassId × ClassId × ClassId) : List (ClassId × FieldType) := [(cs.1, .int), (cs.2.1, .boolean), (cs.2.2, .object "java/lang/Object")]
theorem ent_o {cs : ClassId × ClassId × ClassId} {ad : Nm → Nat} {g : Hp} {n : Nm} (h : n.1 < 11) : ent cs ad g n = .inr (n.1, (flds n.1).mapIdx (fv ad g n)) := by simp [ent, h]
theorem ent_r {cs : ClassId × ClassId × ClassId} {ad : Nm → Nat} {g : Hp} {n : Nm} (h : 12 ≤ n.1) (h2 : n.1 < 17) : ent cs ad g n = .inl (cs.2.2, gN g n, .inr (.inr (.inr (.inr (fun j => (gR g n j).map ad))))) := by
  have a1 : ¬ n.1 < 11 := by omega
  have a2 : n.1 < 20 := by omega
  simp [ent, a1, a2]
theorem ent_i {cs : ClassId × ClassId × ClassId} {ad : Nm → Nat} {g : Hp} {n : Nm} (h : 20 ≤ n.1) (h2 : n.1 < 60) : ent cs ad g n = .inl (cs.1, gN g n, .inl (gI g n)) := by
  have a1 : ¬ n.1 < 11 := by omega
  have a2 : ¬ n.1 < 20 := by omega
  simp [ent, a1, a2, h2]
theorem ent_z {cs : ClassId × ClassId × ClassId} {ad : Nm → Nat} {g : Hp} {n : Nm} (h : 60 ≤ n.1) : ent cs ad g n = .inl (cs.2.1, gN g n, .inl (gI g n)) := by
  have a1 : ¬ n.1 < 11 := by omega
  have a2 : ¬ n.1 < 20 := by omega
  have a3 : ¬ n.1 < 60 := by omega
  simp [ent, a1, a2, a3]
theorem fv_get {ad : Nm → Nat} {g : Hp} {n : Nm} {k : Nat} {b : Bool} (h : (flds n.1)[k]? = some b) : ((flds n.1).mapIdx (fv ad g n))[k]? = some (fv ad g n k b) := by
  rw [List.getElem?_mapIdx, h]; rfl
theorem wat {cs : ClassId × ClassId × ClassId} {ad : Nm → Nat} {g : Hp} {n : Nm} (h : n ∈ gL g) : ∃ k : Nat, (gL g)[k]? = some n ∧ (wld cs ad g)[k]? = some (ad n, ent cs ad g n) := by
  obtain ⟨k, hk⟩ := List.getElem?_of_mem h
  exact ⟨k, hk, by simp [wld, hk]⟩
theorem winj {cs : ClassId × ClassId × ClassId} {ad : Nm → Nat} {g : Hp} {A : Nat → Prop} (hD : va_D A (wld cs ad g)) {n m : Nm} (hn : n ∈ gL g) (hm : m ∈ gL g) (he : ad n = ad m) : n = m := by
  obtain ⟨k, h1, h2⟩ := wat (cs := cs) (ad := ad) hn
  obtain ⟨j, h3, h4⟩ := wat (cs := cs) (ad := ad) hm
  have := hD.1 k j _ _ h2 h4 he
  subst this
  exact Option.some.inj (h1.symm.trans h3)
theorem wset {cs : ClassId × ClassId × ClassId} {ad : Nm → Nat} {g g1 : Hp} {A : Nat → Prop} (hD : va_D A (wld cs ad g)) {n : Nm} {k : Nat} {e : va_E} (hk : (gL g)[k]? = some n) (hL : gL g1 = gL g) (he : ent cs ad g1 n = e) (ho : ∀ m, m ≠ n → ent cs ad g1 m = ent cs ad g m) : (wld cs ad g).set k (ad n, e) = wld cs ad g1 := by
  apply List.ext_getElem?
  intro j
  have hlt : k < (gL g).length := (List.getElem?_eq_some_iff.mp hk).1
  rw [List.getElem?_set]
  simp only [wld, hL, List.length_map, List.getElem?_map]
  by_cases hj : k = j
  · subst hj
    have hg := (List.getElem?_eq_some_iff.mp hk).2
    simp [hlt, hg, he]
  · rw [if_neg hj]
    cases hq : (gL g)[j]? with
    | none => rfl
    | some m =>
      have hm : m ≠ n := by
        intro e2
        subst e2
        have h1 : (wld cs ad g)[k]? = some (ad m, ent cs ad g m) := by simp [wld, hk]
        have h2 : (wld cs ad g)[j]? = some (ad m, ent cs ad g m) := by simp [wld, hq]
        exact hj (hD.1 k j _ _ h1 h2 rfl)
      simp [ho m hm]
def setI (g : Hp) (n : Nm) (k : Nat) (v : Int32) : Hp := (g.1, (fun m j => if m = n ∧ j = k then v else gI g m j), g.2.2)
def setR (g : Hp) (n : Nm) (k : Nat) (r : Option Nm) : Hp := ((gL g, (fun m j => if m = n ∧ j = k then r else gR g m j), gN g), g.2)
def newN (g : Hp) (n : Nm) (len sz : Nat) : Hp := ((gL g ++ [n], (fun m j => if m = n then none else gR g m j), (fun m => if m = n then len else gN g m)), (fun m j => if m = n then 0 else gI g m j), gc g + 1, gs g + sz)
def cpI (g : Hp) (a : Nm) (sp : Nat) (b : Nm) (dp n : Nat) : Hp := (g.1, (fun m j => if m = b then va_cpy (gI g a) (gI g b) sp dp n j else gI g m j), g.2.2)
def cpR (g : Hp) (a : Nm) (sp : Nat) (b : Nm) (dp n : Nat) : Hp := ((gL g, (fun m j => if m = b then va_cpy (gR g a) (gR g b) sp dp n j else gR g m j), gN g), g.2)
/-- what a cell refers to is there -/
def Cl (g : Hp) : Prop := ∀ m ∈ gL g, ∀ k, okr g (gR g m k)
def Mn (g g1 : Hp) : Prop := gc g ≤ gc g1 ∧ gs g ≤ gs g1 ∧ ∀ n ∈ gL g, n ∈ gL g1
theorem Mn.rf (g : Hp) : Mn g g := ⟨Nat.le_refl _, Nat.le_refl _, fun _ h => h⟩
theorem Mn.tr {a b c : Hp} (h : Mn a b) (h2 : Mn b c) : Mn a c := ⟨Nat.le_trans h.1 h2.1, Nat.le_trans h.2.1 h2.2.1, fun n hn => h2.2.2 n (h.2.2 n hn)⟩
theorem okr.mn {g g1 : Hp} (h : Mn g g1) {r : Option Nm} (hr : okr g r) : okr g1 r := fun n hn => (hr n hn).elim (fun q => Or.inl (h.2.2 n q)) Or.inr
theorem okv.mn {g g1 : Hp} (h : Mn g g1) {v : SV} (hv : okv g v) : okv g1 v := by
  rcases v with x | x | r
  · trivial
  · trivial
  · exact okr.mn h hv
/-! the steps, as plain functions -/
def getI (r : Option Nm) (c k : Nat) (g : Hp) : Option Int32 := match r with
  | some n => if n.1 = c then some (gI g n k) else none
  | none => none
def getR (r : Option Nm) (c k : Nat) (g : Hp) : Option (Option Nm) := match r with
  | some n => if n.1 = c then some (gR g n k) else none
  | none => none
def putI (r : Option Nm) (c k : Nat) (v : Int32) (g : Hp) : Option Hp := match r with
  | some n => if n.1 = c then some (setI g n k v) else none
  | none => none
def putZ (r : Option Nm) (c k : Nat) (v : Int32) (g : Hp) : Option Hp := match r with
  | some n => if n.1 = c ∧ (v = 0 ∨ v = 1) then some (setI g n k v) else none
  | none => none
def putR (r : Option Nm) (c k : Nat) (v : Option Nm) (g : Hp) : Option Hp := match r with
  | some n => if n.1 = c then some (setR g n k v) else none
  | none => none
noncomputable def aldI (r : Option Nm) (i : Int32) (g : Hp) : Option Int32 := by
  classical exact match r with
  | some n => if (20 ≤ n.1 ∧ n.1 < 60) ∧ vp_in i (gN g n) then some (gI g n i.toNatClampNeg) else none
  | none => none
noncomputable def aldZ (r : Option Nm) (i : Int32) (g : Hp) : Option Int32 := by
  classical exact match r with
  | some n => if 60 ≤ n.1 ∧ vp_in i (gN g n) then some (gI g n i.toNatClampNeg) else none
  | none => none
noncomputable def aldR (r : Option Nm) (i : Int32) (g : Hp) : Option (Option Nm) := by
  classical exact match r with
  | some n => if (12 ≤ n.1 ∧ n.1 < 17) ∧ vp_in i (gN g n) then some (gR g n i.toNatClampNeg) else none
  | none => none
noncomputable def astI (r : Option Nm) (i v : Int32) (g : Hp) : Option Hp := by
  classical exact match r with
  | some n => if (20 ≤ n.1 ∧ n.1 < 60) ∧ vp_in i (gN g n) then some (setI g n i.toNatClampNeg v) else none
  | none => none
noncomputable def astZ (r : Option Nm) (i v : Int32) (g : Hp) : Option Hp := by
  classical exact match r with
  | some n => if 60 ≤ n.1 ∧ vp_in i (gN g n) then some (setI g n i.toNatClampNeg (vp_nar .boolean v)) else none
  | none => none
noncomputable def astR (r : Option Nm) (i : Int32) (v : Option Nm) (g : Hp) : Option Hp := by
  classical exact match r, v with
  | some n, some w => if (12 ≤ n.1 ∧ n.1 < 17) ∧ vp_in i (gN g n) ∧ w.1 < 11 then some (setR g n i.toNatClampNeg (some w)) else none
  | _, _ => none
def alen (r : Option Nm) (g : Hp) : Option Int32 := match r with
  | some n => if n = (17, 0) then some 0 else if (12 ≤ n.1 ∧ n.1 < 17) ∨ 20 ≤ n.1 then some (Int32.ofNat (gN g n)) else none
  | none => none
noncomputable def mkO (n : Nm) (c : Nat) (g : Hp) : Option (Option Nm × Hp) := by
  classical exact if n.1 = c ∧ n ∉ gL g then some (some n, newN g n 0 (flds c).length) else none
noncomputable def mkI (n : Nm) (len : Int32) (g : Hp) : Option (Option Nm × Hp) := by
  classical exact if (20 ≤ n.1 ∧ n.1 < 60) ∧ n ∉ gL g ∧ ¬ len < 0 ∧ len.toNatClampNeg ≤ 100000 then some (some n, newN g n len.toNatClampNeg len.toNatClampNeg) else none
noncomputable def mkZ (n : Nm) (len : Int32) (g : Hp) : Option (Option Nm × Hp) := by
  classical exact if 60 ≤ n.1 ∧ n ∉ gL g ∧ ¬ len < 0 ∧ len.toNatClampNeg ≤ 100000 then some (some n, newN g n len.toNatClampNeg len.toNatClampNeg) else none
noncomputable def mkR (n : Nm) (len : Int32) (g : Hp) : Option (Option Nm × Hp) := by
  classical exact if (12 ≤ n.1 ∧ n.1 < 17) ∧ n ∉ gL g ∧ ¬ len < 0 ∧ len.toNatClampNeg ≤ 100000 then some (some n, newN g n len.toNatClampNeg len.toNatClampNeg) else none
noncomputable def cpyI (a : Option Nm) (sp : Int32) (b : Option Nm) (dp n : Int32) (g : Hp) : Option Hp := by
  classical exact match a, b with
  | some u, some v => if ((20 ≤ u.1 ∧ u.1 < 60) ∧ (20 ≤ v.1 ∧ v.1 < 60)) ∧ (¬ sp < 0 ∧ ¬ dp < 0 ∧ ¬ n < 0) ∧ sp.toNatClampNeg + n.toNatClampNeg ≤ gN g u ∧ dp.toNatClampNeg + n.toNatClampNeg ≤ gN g v then some (cpI g u sp.toNatClampNeg v dp.toNatClampNeg n.toNatClampNeg) else none
  | _, _ => none
noncomputable def cpyR (a : Option Nm) (sp : Int32) (b : Option Nm) (dp n : Int32) (g : Hp) : Option Hp := by
  classical exact match a, b with
  | some u, some v => if ((12 ≤ u.1 ∧ u.1 < 17) ∧ (12 ≤ v.1 ∧ v.1 < 17)) ∧ (¬ sp < 0 ∧ ¬ dp < 0 ∧ ¬ n < 0) ∧ sp.toNatClampNeg + n.toNatClampNeg ≤ gN g u ∧ dp.toNatClampNeg + n.toNatClampNeg ≤ gN g v ∧ (∀ i, i < n.toNatClampNeg → ∀ w, gR g u (sp.toNatClampNeg + i) = some w → w.1 < 11) then some (cpR g u sp.toNatClampNeg v dp.toNatClampNeg n.toNatClampNeg) else none
  | _, _ => none
def ick {α : Type} (r : Option Nm) (c : Nat) (pr : Option α) : Option α := match r with
  | some n => if n.1 = c then pr else none
  | none => none
def cst {α : Type} (r : Option Nm) (c : Nat) (pr : Option α) : Option α := match r with
  | some n => if n.1 = c then pr else none
  | none => pr
def csA {α : Type} (r : Option Nm) (pr : Option α) : Option α := match r with
  | some n => if 12 ≤ n.1 ∧ n.1 < 17 then pr else none
  | none => none
noncomputable def acm {α : Type} (r q : Option Nm) (g : Hp) (a b : Option α) : Option α := by
  classical exact if r = q then a else if (∀ n, r = some n → n ∈ gL g ∨ n = (17, 0)) ∧ (∀ n, q = some n → n ∈ gL g ∨ n = (17, 0)) then b else none
def rtZ (x : Int32) (g : Hp) : Option (Int32 × Hp) := if x = 0 ∨ x = 1 then some (x, g) else none
end
section
/-! words of the tables that stay true as the machine runs -/
def isNw : Cond → Bool
  | .fieldLinkNest _ _ _ _ _ _ => true
  | .methodLinkNest _ _ _ _ => true
  | .castable _ _ => true
  | _ => false
def okW (w : Cond) : Bool := goodWord w || isNw w
def TB (s : State) : Prop := ∀ w ∈ lw_tbl, okW w = true → ∀ args : Array Value, w.before args s = true
theorem TB.warm {s U : State} (h : TB s) (hW : s.WarmedH U.vm) : TB U := by
  intro w hw hok args
  have h0 := h w hw hok
  unfold okW at hok
  rw [Bool.or_eq_true] at hok
  rcases hok with hg | hn
  · exact word_at hW (good_of_word hg) (h0 #[])
  · cases w <;> first | (simp [isNw] at hn; done) | exact va_Nw.use rfl (va_Nw.warmF hW (va_Nw.of rfl (h0 #[]))) | exact va_Nw.use rfl (va_Nw.warmM hW (va_Nw.of rfl (h0 #[]))) | exact va_Nw.use rfl (va_Nw.warmC hW (va_Nw.of rfl (h0 #[])))
def EX (ad : Nm → Nat) (A : Nat → Prop) (U : State) (H : Heap) : Prop :=
  va_Z "java/util/ArrayList" "DEFAULTCAPACITY_EMPTY_ELEMENTDATA" "[Ljava/lang/Object;" (.ref (ad (17, 0))) A U H ∧ (∃ f, va_T (.object "java/lang/Object") (ad (17, 0)) 0 f A U H) ∧ va_Mi "[Ljava/lang/Object;" (ad (19, 0)) U ∧ va_AO "java/lang/Object" U ∧ va_Dc U
theorem EX.moved {ad : Nm → Nat} {A : Nat → Prop} {u U : State} {H : Heap} (hvm : u.vm.Alike U.vm) (h : EX ad A u H) : EX ad A U H := by
  obtain ⟨h1, ⟨f, h2⟩, h3, h4, h5⟩ := h
  exact ⟨h1.moved hvm, ⟨f, h2.moved hvm⟩, h3.moved hvm, h4.moved hvm, h5.moved hvm⟩
theorem EX.kept {ad : Nm → Nat} {A : Nat → Prop} {U : State} {H H1 : Heap} (h : EX ad A U H) (hq : ∀ a : Nat, a < H.size → ¬ A a → H1[a]? = H[a]?) : EX ad A U H1 := by
  obtain ⟨h1, ⟨f, h2⟩, h3⟩ := h
  exact ⟨h1.kept hq, ⟨f, h2.kept hq⟩, h3⟩
theorem EX.narrow {ad : Nm → Nat} {A B : Nat → Prop} {U : State} {H : Heap} (h : EX ad A U H) (hAB : ∀ q, B q → A q) : EX ad B U H := by
  obtain ⟨h1, ⟨f, h2⟩, h3⟩ := h
  exact ⟨h1.narrow hAB, ⟨f, h2.narrow hAB⟩, h3⟩
theorem EX.ad {ad ad2 : Nm → Nat} {A : Nat → Prop} {U : State} {H : Heap} (h : EX ad A U H) (h17 : ad2 (17, 0) = ad (17, 0)) (h19 : ad2 (19, 0) = ad (19, 0)) : EX ad2 A U H := by
  obtain ⟨h1, ⟨f, h2⟩, h3, h4⟩ := h
  exact ⟨by rw [h17]; exact h1, ⟨f, by rw [h17]; exact h2⟩, by rw [h19]; exact h3, h4⟩
/-! where a method stands -/
abbrev Xt (ρ : Type) : Type := (Program × Launch × Env × State × MethodId × Array Value × List Frame × Method × Code) × (va_G × (ClassId × ClassId × ClassId) × (Nat → Prop)) × (Nm → Nat) × Hp × (Hp → Room) × (ρ → Hp → State → Prop)
def Gd {ρ : Type} (y : MethodName) (cc : ByteArray) (nL : Nat) (rt : Option FieldType) (rf rl : Nat) (X : Xt ρ) : Prop := match X with
  | ((p, _, _, s, m, _, _, meth, c), (D, cs, A), ad0, _, RF, _) =>
    p.tables.exec = Jvm.exec ∧ c.code = cc ∧ c.maxLocals = nL ∧ s.vm.findClass y.cls = some m.cls ∧ meth.sig.returnType = rt ∧ meth.locks = false ∧ meth.name = y.name ∧ TB s ∧ va_K D vwCl (tyl cs) s ∧ (∀ q : Nat, s.heap.size ≤ q → A q) ∧ EX ad0 A s s.heap ∧ ∀ g, (RF g).frames = rf ∧ (RF g).locals = rl
def Ag (g : Hp) (ad ad1 : Nm → Nat) : Prop := ∀ n, (n ∈ gL g ∨ isX n) → ad1 n = ad n
def lvm (ad : Nm → Nat) (lv : List (Nat × SV)) : List (Nat × Value) := lv.map (fun q => (q.1, cv ad q.2))
def stm (ad : Nm → Nat) (st : List SV) : List Value := st.map (cv ad)
def okl (g : Hp) (lv : List (Nat × SV)) : Prop := ∀ q ∈ lv, okv g q.2
def oks (g : Hp) (st : List SV) : Prop := ∀ v ∈ st, okv g v
theorem okl.mn {g g1 : Hp} {lv : List (Nat × SV)} (h : Mn g g1) (hv : okl g lv) : okl g1 lv := fun q hq => (hv q hq).mn h
theorem oks.mn {g g1 : Hp} {st : List SV} (h : Mn g g1) (hv : oks g st) : oks g1 st := fun q hq => (hv q hq).mn h
theorem oks.cons {g : Hp} {st : List SV} {v : SV} (hv : okv g v) (h : oks g st) : oks g (v :: st) := fun w hw => (List.mem_cons.mp hw).elim (fun e => e ▸ hv) (h w)
theorem oks.tail {g : Hp} {st : List SV} {v : SV} (h : oks g (v :: st)) : oks g st := fun w hw => h w (List.mem_cons_of_mem _ hw)
theorem oks.head {g : Hp} {st : List SV} {v : SV} (h : oks g (v :: st)) : okv g v := h v List.mem_cons_self
theorem cv_ag {g : Hp} {ad ad1 : Nm → Nat} (h : Ag g ad ad1) {v : SV} (hv : okv g v) : cv ad1 v = cv ad v := by
  rcases v with x | x | r
  · rfl
  · rfl
  · cases r with
    | none => rfl
    | some n =>
      show va_rf (some (ad1 n)) = va_rf (some (ad n))
      rw [h n (hv n rfl)]
theorem stm_ag {g : Hp} {ad ad1 : Nm → Nat} (h : Ag g ad ad1) {st : List SV} (hv : oks g st) : stm ad1 st = stm ad st := List.map_congr_left fun v hq => cv_ag h (hv v hq)
theorem lvm_ag {g : Hp} {ad ad1 : Nm → Nat} (h : Ag g ad ad1) {lv : List (Nat × SV)} (hv : okl g lv) : lvm ad1 lv = lvm ad lv := List.map_congr_left fun q hq => by rw [cv_ag h (hv q hq)]
def J {ρ : Type} (y : MethodName) (cc : ByteArray) (nL : Nat) (rt : Option FieldType) (rf rl : Nat) (X : Xt ρ) (g : Hp) (pc : Nat) (lv : List (Nat × SV)) (st : List SV) (pr : Option (ρ × Hp)) : Prop := match X with
  | ((p, l, e, s, m, args, below, meth, c), (D, cs, A), ad0, g0, RF, QF) =>
    ∀ (r : ρ) (g' : Hp), pr = some (r, g') → Mn g g' ∧ (Gd y cc nL rt rf rl X → Mn g0 g → gc g' - gc g0 ≤ (RF g').cells ∧ gs g' - gs g0 ≤ (RF g').slots →
      ∀ (ad : Nm → Nat) (H : Heap) (locs : List Loc) (ls : Array Slot), Ag g0 ad0 ad → va_P D vwCl (wld cs ad g) H → va_D A (wld cs ad g) → va_S A s.heap H locs → lv_has ls nL (lvm ad lv) → okl g lv → oks g st → Cl g →
        W p l e (RF g') s m args below meth c H locs (gc g - gc g0) (gs g - gs g0) (QF r g') (F0 m pc ls (stm ad st)))
section STP
variable {ρ : Type} {y : MethodName} {cc : ByteArray} {nL : Nat} {rt : Option FieldType} {rf rl : Nat} {X : Xt ρ} {g : Hp} {pc : Nat} {lv lv' : List (Nat × SV)} {st : List SV} {pr pr2 : Option (ρ × Hp)}
theorem J.eq (h : pr = pr2) (k : J y cc nL rt rf rl X g pc lv st pr2) : J y cc nL rt rf rl X g pc lv st pr := h ▸ k
theorem J.none : J y cc nL rt rf rl X g pc lv st none := by
  obtain ⟨⟨p, l, e, s, m, args, below, meth, c⟩, ⟨D, cs, A⟩, ad0, g0, RF, QF⟩ := X
  intro r g' h
  cases h
/-- fewer locals -/
theorem J.sub (ks : List Nat) (hl : ks.filterMap (fun k => lv[k]?) = lv') (k : J y cc nL rt rf rl X g pc lv' st pr) : J y cc nL rt rf rl X g pc lv st pr := by
  obtain ⟨⟨p, l, e, s, m, args, below, meth, c⟩, ⟨D, cs, A⟩, ad0, g0, RF, QF⟩ := X
  intro r g' h
  obtain ⟨a, b⟩ := k r g' h
  refine ⟨a, fun hG hM hc ad H locs ls h1 h2 h3 h4 h5 h6 h7 h0 => b hG hM hc ad H locs ls h1 h2 h3 h4 ?_ ?_ h7 h0⟩
  · refine lv_sub h5 ks ?_
    subst hl
    simp [lv_pick, lvm, List.map_filterMap]
  · intro q hq
    subst hl
    obtain ⟨i, -, hi⟩ := List.mem_filterMap.mp hq
    exact h6 q (List.mem_of_getElem? hi)
/-- a step that changes neither heap nor locals -/
theorem J.s {pc' : Nat} {st' : List SV} (hW : ∀ (p : Program) (l : Launch) (e : Env) (s : State) (m : MethodId) (args : Array Value) (below : List Frame) (meth : Method) (c : Code) (R : Room) (H : Heap) (locs : List Loc) (cells slots : Nat) (Q : State → Prop) (ad : Nm → Nat) (ls : Array Slot),
      p.tables.exec = Jvm.exec → c.code = cc → s.vm.findClass y.cls = some m.cls → TB s → lv_has ls nL (lvm ad lv) → W p l e R s m args below meth c H locs cells slots Q (F0 m pc' ls (stm ad st')) → W p l e R s m args below meth c H locs cells slots Q (F0 m pc ls (stm ad st)))
    (hok : okl g lv → oks g st → oks g st') (k : J y cc nL rt rf rl X g pc' lv st' pr) : J y cc nL rt rf rl X g pc lv st pr := by
  obtain ⟨⟨p, l, e, s, m, args, below, meth, c⟩, ⟨D, cs, A⟩, ad0, g0, RF, QF⟩ := X
  intro r g' h
  obtain ⟨a, b⟩ := k r g' h
  refine ⟨a, fun hG hM hc ad H locs ls h1 h2 h3 h4 h5 h6 h7 h0 => ?_⟩
  obtain ⟨x1, x2, x3, x4, x5, x6, x7, x8, x9⟩ := id hG
  exact hW p l e s m args below meth c _ H locs _ _ _ ad ls x1 x2 x4 x8 h5 (b hG hM hc ad H locs ls h1 h2 h3 h4 h5 h6 (hok h6 h7) h0)
/-- a store -/
theorem J.t {pc' : Nat} {st' : List SV} (hW : ∀ (p : Program) (l : Launch) (e : Env) (s : State) (m : MethodId) (args : Array Value) (below : List Frame) (meth : Method) (c : Code) (R : Room) (H : Heap) (locs : List Loc) (cells slots : Nat) (Q : State → Prop) (ad : Nm → Nat) (ls : Array Slot),
      p.tables.exec = Jvm.exec → c.code = cc → lv_has ls nL (lvm ad lv) → (∀ ls', lv_has ls' nL (lvm ad lv') → W p l e R s m args below meth c H locs cells slots Q (F0 m pc' ls' (stm ad st'))) → W p l e R s m args below meth c H locs cells slots Q (F0 m pc ls (stm ad st)))
    (hok : okl g lv → oks g st → okl g lv' ∧ oks g st') (k : J y cc nL rt rf rl X g pc' lv' st' pr) : J y cc nL rt rf rl X g pc lv st pr := by
  obtain ⟨⟨p, l, e, s, m, args, below, meth, c⟩, ⟨D, cs, A⟩, ad0, g0, RF, QF⟩ := X
  intro r g' h
  obtain ⟨a, b⟩ := k r g' h
  refine ⟨a, fun hG hM hc ad H locs ls h1 h2 h3 h4 h5 h6 h7 h0 => ?_⟩
  obtain ⟨x1, x2, -⟩ := id hG
  exact hW p l e s m args below meth c _ H locs _ _ _ ad ls x1 x2 h5 (fun ls' h8 => b hG hM hc ad H locs ls' h1 h2 h3 h4 h8 (hok h6 h7).1 (hok h6 h7).2 h0)
/-- a fork -/
theorem J.f {P : Prop} [Decidable P] {pt pf : Nat} {st' : List SV} {a b : Option (ρ × Hp)} (hW : ∀ (p : Program) (l : Launch) (e : Env) (s : State) (m : MethodId) (args : Array Value) (below : List Frame) (meth : Method) (c : Code) (R : Room) (H : Heap) (locs : List Loc) (cells slots : Nat) (Q : State → Prop) (ad : Nm → Nat) (ls : Array Slot),
      p.tables.exec = Jvm.exec → c.code = cc → (P → W p l e R s m args below meth c H locs cells slots Q (F0 m pt ls (stm ad st'))) → (¬ P → W p l e R s m args below meth c H locs cells slots Q (F0 m pf ls (stm ad st'))) → W p l e R s m args below meth c H locs cells slots Q (F0 m pc ls (stm ad st)))
    (hok : oks g st → oks g st') (hp : pr = if P then a else b) (kt : P → J y cc nL rt rf rl X g pt lv st' a) (kf : ¬ P → J y cc nL rt rf rl X g pf lv st' b) : J y cc nL rt rf rl X g pc lv st pr := by
  obtain ⟨⟨p, l, e, s, m, args, below, meth, c⟩, ⟨D, cs, A⟩, ad0, g0, RF, QF⟩ := X
  intro r g' h
  subst hp
  have hM : Mn g g' := by
    by_cases hP : P
    · rw [if_pos hP] at h; exact (kt hP r g' h).1
    · rw [if_neg hP] at h; exact (kf hP r g' h).1
  refine ⟨hM, fun hG hM hc ad H locs ls h1 h2 h3 h4 h5 h6 h7 h0 => ?_⟩
  obtain ⟨x1, x2, -⟩ := id hG
  refine hW p l e s m args below meth c _ H locs _ _ _ ad ls x1 x2 (fun hP => ?_) (fun hP => ?_)
  · rw [if_pos hP] at h
    exact (kt hP r g' h).2 hG hM hc ad H locs ls h1 h2 h3 h4 h5 h6 (hok h7) h0
  · rw [if_neg hP] at h
    exact (kf hP r g' h).2 hG hM hc ad H locs ls h1 h2 h3 h4 h5 h6 (hok h7) h0
end STP
end
section
/-! one row a kind of instruction -/
theorem oks.ci {g : Hp} {st : List SV} {x : Int32} (h : oks g st) : oks g (sI x :: st) := h.cons (v := sI x) trivial
theorem oks.cl {g : Hp} {st : List SV} {x : Int64} (h : oks g st) : oks g (sL x :: st) := h.cons (v := sL x) trivial
section RUL
variable {ρ : Type} {y : MethodName} {cc : ByteArray} {nL : Nat} {rt : Option FieldType} {rf rl : Nat} {X : Xt ρ} {g : Hp} {pc : Nat} {lv lv' : List (Nat × SV)} {st : List SV} {pr pr2 : Option (ρ × Hp)}
theorem j_iconst {n : Int} {v : Int32} (hd : decode cc pc = .ok (.iconst n, 1)) (hv : Int32.ofInt n = v) (k : J y cc nL rt rf rl X g (pc + 1) lv (sI v :: st) pr) : J y cc nL rt rf rl X g pc lv (st) pr :=
  J.s (fun _ _ _ _ _ _ _ _ _ _ _ _ _ _ _ ad ls hx hb hw htb hl K0 => lv_iconst hx hb hd hv K0) (fun _ h => h.ci) k
theorem j_bipush {n : Int} {v : Int32} (hd : decode cc pc = .ok (.bipush n, 2)) (hv : (Int8.ofInt n).toInt32 = v) (k : J y cc nL rt rf rl X g (pc + 2) lv (sI v :: st) pr) : J y cc nL rt rf rl X g pc lv (st) pr :=
  J.s (fun _ _ _ _ _ _ _ _ _ _ _ _ _ _ _ ad ls hx hb hw htb hl K0 => lv_bipush hx hb hd hv K0) (fun _ h => h.ci) k
theorem j_sipush {n : Int} {v : Int32} (hd : decode cc pc = .ok (.sipush n, 3)) (hv : (Int16.ofInt n).toInt32 = v) (k : J y cc nL rt rf rl X g (pc + 3) lv (sI v :: st) pr) : J y cc nL rt rf rl X g pc lv (st) pr :=
  J.s (fun _ _ _ _ _ _ _ _ _ _ _ _ _ _ _ ad ls hx hb hw htb hl K0 => lv_sipush hx hb hd hv K0) (fun _ h => h.ci) k
theorem j_lconst {n : Fin 2} {v : Int64} (hd : decode cc pc = .ok (.lconst n, 1)) (hv : Int64.ofNat (n : Nat) = v) (k : J y cc nL rt rf rl X g (pc + 1) lv (sL v :: st) pr) : J y cc nL rt rf rl X g pc lv (st) pr :=
  J.s (fun _ _ _ _ _ _ _ _ _ _ _ _ _ _ _ ad ls hx hb hw htb hl K0 => lv_lconst hx hb hd hv K0) (fun _ h => h.cl) k
theorem j_ldc {own : String} {ix : Nat} {v : Int32} (hd : decode cc pc = .ok (.ldc ix, 2)) (ho : own = y.cls) (hw0 : Cond.constant own ix v ∈ lw_tbl) (k : J y cc nL rt rf rl X g (pc + 2) lv (sI v :: st) pr) : J y cc nL rt rf rl X g pc lv (st) pr :=
  J.s (fun _ _ _ _ _ _ _ _ _ _ _ _ _ _ _ ad ls hx hb hw htb hl K0 => lv_ldc (own := own) hx hb (by rw [ho]; exact hw) (htb _ hw0 rfl _) hd K0) (fun _ h => h.ci) k
theorem j_ldcw {own : String} {ix : Nat} {v : Int32} (hd : decode cc pc = .ok (.ldc_w ix, 3)) (ho : own = y.cls) (hw0 : Cond.constant own ix v ∈ lw_tbl) (k : J y cc nL rt rf rl X g (pc + 3) lv (sI v :: st) pr) : J y cc nL rt rf rl X g pc lv (st) pr :=
  J.s (fun _ _ _ _ _ _ _ _ _ _ _ _ _ _ _ ad ls hx hb hw htb hl K0 => lv_ldcw (own := own) hx hb (by rw [ho]; exact hw) (htb _ hw0 rfl _) hd K0) (fun _ h => h.ci) k
theorem j_ldc2 {own : String} {ix : Nat} {v : Int64} (hd : decode cc pc = .ok (.ldc2_w ix, 3)) (ho : own = y.cls) (hw0 : Cond.constantLong own ix v ∈ lw_tbl) (k : J y cc nL rt rf rl X g (pc + 3) lv (sL v :: st) pr) : J y cc nL rt rf rl X g pc lv (st) pr :=
  J.s (fun _ _ _ _ _ _ _ _ _ _ _ _ _ _ _ ad ls hx hb hw htb hl K0 => lv_ldc2 (own := own) hx hb (by rw [ho]; exact hw) (htb _ hw0 rfl _) hd K0) (fun _ h => h.cl) k
theorem lvm_at {ad : Nm → Nat} {ls : Array Slot} {nL : Nat} {lv : List (Nat × SV)} (h : lv_has ls nL (lvm ad lv)) {k i : Nat} {v : SV} (hk : lv[k]? = some (i, v)) : ls[i]? = some (.val (cv ad v)) := lv_at h k (by simp [lvm, hk])
theorem okl_at {g : Hp} {lv : List (Nat × SV)} (h : okl g lv) {k i : Nat} {v : SV} (hk : lv[k]? = some (i, v)) : okv g v := h _ (List.mem_of_getElem? hk)
theorem j_iload_n (q : Nat) {kk : Fin 4} {i : Nat} {x : Int32} (hd : decode cc pc = .ok (.iload_n kk, 1)) (hi : (kk : Nat) = i) (hq : lv[q]? = some (i, sI x)) (k : J y cc nL rt rf rl X g (pc + 1) lv (sI x :: st) pr) : J y cc nL rt rf rl X g pc lv (st) pr :=
  J.s (fun _ _ _ _ _ _ _ _ _ _ _ _ _ _ _ ad ls hx hb hw htb hl K0 => lv_iload_n hx hb hd hi (lvm_at hl hq) K0) (fun _ h => h.ci) k
theorem j_iload (q : Nat) {i : Nat} {x : Int32} (hd : decode cc pc = .ok (.iload i, 2)) (hq : lv[q]? = some (i, sI x)) (k : J y cc nL rt rf rl X g (pc + 2) lv (sI x :: st) pr) : J y cc nL rt rf rl X g pc lv (st) pr :=
  J.s (fun _ _ _ _ _ _ _ _ _ _ _ _ _ _ _ ad ls hx hb hw htb hl K0 => lv_iload hx hb hd (lvm_at hl hq) K0) (fun _ h => h.ci) k
theorem j_lload_n (q : Nat) {kk : Fin 4} {i : Nat} {x : Int64} (hd : decode cc pc = .ok (.lload_n kk, 1)) (hi : (kk : Nat) = i) (hq : lv[q]? = some (i, sL x)) (k : J y cc nL rt rf rl X g (pc + 1) lv (sL x :: st) pr) : J y cc nL rt rf rl X g pc lv (st) pr :=
  J.s (fun _ _ _ _ _ _ _ _ _ _ _ _ _ _ _ ad ls hx hb hw htb hl K0 => lv_lload_n hx hb hd hi (lvm_at hl hq) K0) (fun _ h => h.cl) k
theorem j_lload (q : Nat) {i : Nat} {x : Int64} (hd : decode cc pc = .ok (.lload i, 2)) (hq : lv[q]? = some (i, sL x)) (k : J y cc nL rt rf rl X g (pc + 2) lv (sL x :: st) pr) : J y cc nL rt rf rl X g pc lv (st) pr :=
  J.s (fun _ _ _ _ _ _ _ _ _ _ _ _ _ _ _ ad ls hx hb hw htb hl K0 => lv_lload hx hb hd (lvm_at hl hq) K0) (fun _ h => h.cl) k
theorem j_aload_n (q : Nat) {kk : Fin 4} {i : Nat} {x : Option Nm} (hd : decode cc pc = .ok (.aload_n kk, 1)) (hi : (kk : Nat) = i) (hq : lv[q]? = some (i, sR x)) (k : J y cc nL rt rf rl X g (pc + 1) lv (sR x :: st) pr) : J y cc nL rt rf rl X g pc lv st pr := by
  refine J.s (fun _ _ _ _ _ _ _ _ _ _ _ _ _ _ _ ad ls hx hb hw htb hl K0 => ?_) (fun h2 h => h.cons (okl_at h2 hq)) k
  have h9 := lvm_at hl hq
  cases x with
  | none => exact lv_aload_nN hx hb hd hi h9 K0
  | some a => exact lv_aload_n hx hb hd hi h9 K0
theorem j_aload (q : Nat) {i : Nat} {x : Option Nm} (hd : decode cc pc = .ok (.aload i, 2)) (hq : lv[q]? = some (i, sR x)) (k : J y cc nL rt rf rl X g (pc + 2) lv (sR x :: st) pr) : J y cc nL rt rf rl X g pc lv st pr := by
  refine J.s (fun _ _ _ _ _ _ _ _ _ _ _ _ _ _ _ ad ls hx hb hw htb hl K0 => ?_) (fun h2 h => h.cons (okl_at h2 hq)) k
  have h9 := lvm_at hl hq
  cases x with
  | none => exact lv_aloadN hx hb hd h9 K0
  | some a => exact lv_aload hx hb hd h9 K0
theorem j_iadd {x z : Int32} (hd : decode cc pc = .ok (.iadd, 1)) (k : J y cc nL rt rf rl X g (pc + 1) lv (sI (x + z) :: st) pr) : J y cc nL rt rf rl X g pc lv (sI z :: sI x :: st) pr :=
  J.s (fun _ _ _ _ _ _ _ _ _ _ _ _ _ _ _ ad ls hx hb hw htb hl K0 => lv_iadd hx hb hd K0) (fun _ h => (h.tail.tail).ci) k
theorem j_isub {x z : Int32} (hd : decode cc pc = .ok (.isub, 1)) (k : J y cc nL rt rf rl X g (pc + 1) lv (sI (x - z) :: st) pr) : J y cc nL rt rf rl X g pc lv (sI z :: sI x :: st) pr :=
  J.s (fun _ _ _ _ _ _ _ _ _ _ _ _ _ _ _ ad ls hx hb hw htb hl K0 => lv_isub hx hb hd K0) (fun _ h => (h.tail.tail).ci) k
theorem j_imul {x z : Int32} (hd : decode cc pc = .ok (.imul, 1)) (k : J y cc nL rt rf rl X g (pc + 1) lv (sI (x * z) :: st) pr) : J y cc nL rt rf rl X g pc lv (sI z :: sI x :: st) pr :=
  J.s (fun _ _ _ _ _ _ _ _ _ _ _ _ _ _ _ ad ls hx hb hw htb hl K0 => lv_imul hx hb hd K0) (fun _ h => (h.tail.tail).ci) k
theorem j_iand {x z : Int32} (hd : decode cc pc = .ok (.iand, 1)) (k : J y cc nL rt rf rl X g (pc + 1) lv (sI (x &&& z) :: st) pr) : J y cc nL rt rf rl X g pc lv (sI z :: sI x :: st) pr :=
  J.s (fun _ _ _ _ _ _ _ _ _ _ _ _ _ _ _ ad ls hx hb hw htb hl K0 => lv_iand hx hb hd K0) (fun _ h => (h.tail.tail).ci) k
theorem j_ior {x z : Int32} (hd : decode cc pc = .ok (.ior, 1)) (k : J y cc nL rt rf rl X g (pc + 1) lv (sI (x ||| z) :: st) pr) : J y cc nL rt rf rl X g pc lv (sI z :: sI x :: st) pr :=
  J.s (fun _ _ _ _ _ _ _ _ _ _ _ _ _ _ _ ad ls hx hb hw htb hl K0 => lv_ior hx hb hd K0) (fun _ h => (h.tail.tail).ci) k
theorem j_ixor {x z : Int32} (hd : decode cc pc = .ok (.ixor, 1)) (k : J y cc nL rt rf rl X g (pc + 1) lv (sI (x ^^^ z) :: st) pr) : J y cc nL rt rf rl X g pc lv (sI z :: sI x :: st) pr :=
  J.s (fun _ _ _ _ _ _ _ _ _ _ _ _ _ _ _ ad ls hx hb hw htb hl K0 => lv_ixor hx hb hd K0) (fun _ h => (h.tail.tail).ci) k
theorem j_ishl {x z : Int32} (hd : decode cc pc = .ok (.ishl, 1)) (k : J y cc nL rt rf rl X g (pc + 1) lv (sI (x <<< (z &&& 31)) :: st) pr) : J y cc nL rt rf rl X g pc lv (sI z :: sI x :: st) pr :=
  J.s (fun _ _ _ _ _ _ _ _ _ _ _ _ _ _ _ ad ls hx hb hw htb hl K0 => lv_ishl hx hb hd K0) (fun _ h => (h.tail.tail).ci) k
theorem j_ishr {x z : Int32} (hd : decode cc pc = .ok (.ishr, 1)) (k : J y cc nL rt rf rl X g (pc + 1) lv (sI (x >>> (z &&& 31)) :: st) pr) : J y cc nL rt rf rl X g pc lv (sI z :: sI x :: st) pr :=
  J.s (fun _ _ _ _ _ _ _ _ _ _ _ _ _ _ _ ad ls hx hb hw htb hl K0 => lv_ishr hx hb hd K0) (fun _ h => (h.tail.tail).ci) k
theorem j_iushr {x z : Int32} (hd : decode cc pc = .ok (.iushr, 1)) (k : J y cc nL rt rf rl X g (pc + 1) lv (sI ((x.toUInt32 >>> (z.toUInt32 &&& Int32.toUInt32 31)).toInt32) :: st) pr) : J y cc nL rt rf rl X g pc lv (sI z :: sI x :: st) pr :=
  J.s (fun _ _ _ _ _ _ _ _ _ _ _ _ _ _ _ ad ls hx hb hw htb hl K0 => lv_iushr hx hb hd rfl K0) (fun _ h => (h.tail.tail).ci) k
theorem j_ineg {x : Int32} (hd : decode cc pc = .ok (.ineg, 1)) (k : J y cc nL rt rf rl X g (pc + 1) lv (sI (0 - x) :: st) pr) : J y cc nL rt rf rl X g pc lv (sI x :: st) pr :=
  J.s (fun _ _ _ _ _ _ _ _ _ _ _ _ _ _ _ ad ls hx hb hw htb hl K0 => lv_ineg hx hb hd K0) (fun _ h => (h.tail).ci) k
theorem j_ladd {x z : Int64} (hd : decode cc pc = .ok (.ladd, 1)) (k : J y cc nL rt rf rl X g (pc + 1) lv (sL (x + z) :: st) pr) : J y cc nL rt rf rl X g pc lv (sL z :: sL x :: st) pr :=
  J.s (fun _ _ _ _ _ _ _ _ _ _ _ _ _ _ _ ad ls hx hb hw htb hl K0 => lv_ladd hx hb hd K0) (fun _ h => (h.tail.tail).cl) k
theorem j_lsub {x z : Int64} (hd : decode cc pc = .ok (.lsub, 1)) (k : J y cc nL rt rf rl X g (pc + 1) lv (sL (x - z) :: st) pr) : J y cc nL rt rf rl X g pc lv (sL z :: sL x :: st) pr :=
  J.s (fun _ _ _ _ _ _ _ _ _ _ _ _ _ _ _ ad ls hx hb hw htb hl K0 => lv_lsub hx hb hd K0) (fun _ h => (h.tail.tail).cl) k
theorem j_lmul {x z : Int64} (hd : decode cc pc = .ok (.lmul, 1)) (k : J y cc nL rt rf rl X g (pc + 1) lv (sL (x * z) :: st) pr) : J y cc nL rt rf rl X g pc lv (sL z :: sL x :: st) pr :=
  J.s (fun _ _ _ _ _ _ _ _ _ _ _ _ _ _ _ ad ls hx hb hw htb hl K0 => lv_lmul hx hb hd K0) (fun _ h => (h.tail.tail).cl) k
theorem j_i2l {x : Int32} (hd : decode cc pc = .ok (.i2l, 1)) (k : J y cc nL rt rf rl X g (pc + 1) lv (sL x.toInt64 :: st) pr) : J y cc nL rt rf rl X g pc lv (sI x :: st) pr :=
  J.s (fun _ _ _ _ _ _ _ _ _ _ _ _ _ _ _ ad ls hx hb hw htb hl K0 => lv_i2l hx hb hd rfl K0) (fun _ h => (h.tail).cl) k
theorem j_l2i {x : Int64} (hd : decode cc pc = .ok (.l2i, 1)) (k : J y cc nL rt rf rl X g (pc + 1) lv (sI x.toInt32 :: st) pr) : J y cc nL rt rf rl X g pc lv (sL x :: st) pr :=
  J.s (fun _ _ _ _ _ _ _ _ _ _ _ _ _ _ _ ad ls hx hb hw htb hl K0 => lv_l2i hx hb hd rfl K0) (fun _ h => (h.tail).ci) k
theorem j_lcmp {x z : Int64} (hd : decode cc pc = .ok (.lcmp, 1)) (k : J y cc nL rt rf rl X g (pc + 1) lv (sI (lg_cmp x z) :: st) pr) : J y cc nL rt rf rl X g pc lv (sL z :: sL x :: st) pr :=
  J.s (fun _ _ _ _ _ _ _ _ _ _ _ _ _ _ _ ad ls hx hb hw htb hl K0 => W.lcmp hx hb hd K0) (fun _ h => (h.tail.tail).ci) k
theorem j_null (hd : decode cc pc = .ok (.aconst_null, 1)) (k : J y cc nL rt rf rl X g (pc + 1) lv (sR none :: st) pr) : J y cc nL rt rf rl X g pc lv (st) pr :=
  J.s (fun _ _ _ _ _ _ _ _ _ _ _ _ _ _ _ ad ls hx hb hw htb hl K0 => lv_null hx hb hd K0) (fun _ h => h.cons (v := sR none) (fun n hn => by cases hn)) k
theorem j_dup {v : SV} (hd : decode cc pc = .ok (.dup, 1)) (hv : sc v = 1) (k : J y cc nL rt rf rl X g (pc + 1) lv (v :: v :: st) pr) : J y cc nL rt rf rl X g pc lv (v :: st) pr :=
  J.s (fun _ _ _ _ _ _ _ _ _ _ _ _ _ _ _ ad ls hx hb hw htb hl K0 => lv_dup hx hb hd (by rw [cv_cat]; exact hv) K0) (fun _ h => h.cons h.head) k
theorem j_pop {v : SV} (hd : decode cc pc = .ok (.pop, 1)) (hv : sc v = 1) (k : J y cc nL rt rf rl X g (pc + 1) lv (st) pr) : J y cc nL rt rf rl X g pc lv (v :: st) pr :=
  J.s (fun _ _ _ _ _ _ _ _ _ _ _ _ _ _ _ ad ls hx hb hw htb hl K0 => lv_pop hx hb hd (by rw [cv_cat]; exact hv) K0) (fun _ h => h.tail) k
theorem j_dup2 {v u : SV} (hd : decode cc pc = .ok (.dup2, 1)) (hv : sc v = 1) (hu : sc u = 1) (k : J y cc nL rt rf rl X g (pc + 1) lv (v :: u :: v :: u :: st) pr) : J y cc nL rt rf rl X g pc lv (v :: u :: st) pr :=
  J.s (fun _ _ _ _ _ _ _ _ _ _ _ _ _ _ _ ad ls hx hb hw htb hl K0 => lv_dup2_11 hx hb hd (by rw [cv_cat]; exact hv) (by rw [cv_cat]; exact hu) K0) (fun _ h => (h.cons h.tail.head).cons h.head) k
theorem j_dup_x1 {v u : SV} (hd : decode cc pc = .ok (.dup_x1, 1)) (hv : sc v = 1) (hu : sc u = 1) (k : J y cc nL rt rf rl X g (pc + 1) lv (v :: u :: v :: st) pr) : J y cc nL rt rf rl X g pc lv (v :: u :: st) pr :=
  J.s (fun _ _ _ _ _ _ _ _ _ _ _ _ _ _ _ ad ls hx hb hw htb hl K0 => lv_dup_x1 hx hb hd (by rw [cv_cat]; exact hv) (by rw [cv_cat]; exact hu) K0) (fun _ h => ((h.tail.tail.cons h.head).cons h.tail.head).cons h.head) k
theorem j_idiv {x z : Int32} {F : Int32 → Option (ρ × Hp)} (hd : decode cc pc = .ok (.idiv, 1)) (hp : pr = (if z = 0 then none else F (x / z))) (k : J y cc nL rt rf rl X g (pc + 1) lv (sI (x / z) :: st) (F (x / z))) : J y cc nL rt rf rl X g pc lv (sI z :: sI x :: st) pr := by
  by_cases hz : z = 0
  · rw [hp, if_pos hz]; exact J.none
  · rw [hp, if_neg hz]; exact J.s (fun _ _ _ _ _ _ _ _ _ _ _ _ _ _ _ ad ls hx hb hw htb hl K0 => lv_idiv hx hb hd hz K0) (fun _ h => (h.tail.tail).ci) k
theorem j_irem {x z : Int32} {F : Int32 → Option (ρ × Hp)} (hd : decode cc pc = .ok (.irem, 1)) (hp : pr = (if z = 0 then none else F (x - x / z * z))) (k : J y cc nL rt rf rl X g (pc + 1) lv (sI (x - x / z * z) :: st) (F (x - x / z * z))) : J y cc nL rt rf rl X g pc lv (sI z :: sI x :: st) pr := by
  by_cases hz : z = 0
  · rw [hp, if_pos hz]; exact J.none
  · rw [hp, if_neg hz]; exact J.s (fun _ _ _ _ _ _ _ _ _ _ _ _ _ _ _ ad ls hx hb hw htb hl K0 => lv_irem hx hb hd hz K0) (fun _ h => (h.tail.tail).ci) k
theorem j_ldiv {x z : Int64} {F : Int64 → Option (ρ × Hp)} (hd : decode cc pc = .ok (.ldiv, 1)) (hp : pr = (if z = 0 then none else F (x / z))) (k : J y cc nL rt rf rl X g (pc + 1) lv (sL (x / z) :: st) (F (x / z))) : J y cc nL rt rf rl X g pc lv (sL z :: sL x :: st) pr := by
  by_cases hz : z = 0
  · rw [hp, if_pos hz]; exact J.none
  · rw [hp, if_neg hz]; exact J.s (fun _ _ _ _ _ _ _ _ _ _ _ _ _ _ _ ad ls hx hb hw htb hl K0 => lv_ldiv hx hb hd hz K0) (fun _ h => (h.tail.tail).cl) k
def lvs (i c : Nat) (v : SV) (lv : List (Nat × SV)) : List (Nat × SV) := (i, v) :: lv.filter (fun q => !(q.1 == i) && ((c == 1 || !(q.1 == i + 1)) && !(q.1 + 1 == i && sc q.2 == 2)))
theorem lvs_1 (ad : Nm → Nat) (i : Nat) (v : SV) (lv : List (Nat × SV)) : (i, cv ad v) :: (lvm ad lv).filter (fun q => !(q.1 == i) && !(q.1 + 1 == i && q.2.category == 2)) = lvm ad (lvs i 1 v lv) := by
  simp only [lvs, lvm, List.map_cons, List.filter_map]
  congr 2
  apply List.filter_congr
  intro q _
  simp [Function.comp, cv_cat]
theorem lvs_2 (ad : Nm → Nat) (i : Nat) (v : SV) (lv : List (Nat × SV)) : (i, cv ad v) :: (lvm ad lv).filter (fun q => !(q.1 == i) && (!(q.1 == i + 1) && !(q.1 + 1 == i && q.2.category == 2))) = lvm ad (lvs i 2 v lv) := by
  simp only [lvs, lvm, List.map_cons, List.filter_map]
  congr 2
  apply List.filter_congr
  intro q _
  simp [Function.comp, cv_cat]
theorem okl_lvs {g : Hp} {i c : Nat} {v : SV} {lv : List (Nat × SV)} (h : okl g lv) (hv : okv g v) : okl g (lvs i c v lv) := fun q hq => (List.mem_cons.mp hq).elim (fun e => e ▸ hv) (fun h2 => h q ((List.mem_filter.mp h2).1))
theorem j_istore_n {kk0 : Fin 4} {i : Nat} {x : Int32} (hd : decode cc pc = .ok (.istore_n kk0, 1)) (hi : (kk0 : Nat) = i) (hn : i < nL) (hl : lvs i 1 (sI x) lv = lv') (k : J y cc nL rt rf rl X g (pc + 1) lv' st pr) : J y cc nL rt rf rl X g pc lv (sI x :: st) pr :=
  J.t (fun _ _ _ _ _ _ _ _ _ _ _ _ _ _ _ ad ls hx hb h9 kk => lv_istore_n hx hb hd hi h9 hn (by rw [← hl]; exact lvs_1 ad i (sI x) lv) kk) (fun h1 h2 => ⟨hl ▸ okl_lvs h1 h2.head, h2.tail⟩) k
theorem j_istore {i : Nat} {x : Int32} (hd : decode cc pc = .ok (.istore i, 2)) (hn : i < nL) (hl : lvs i 1 (sI x) lv = lv') (k : J y cc nL rt rf rl X g (pc + 2) lv' st pr) : J y cc nL rt rf rl X g pc lv (sI x :: st) pr :=
  J.t (fun _ _ _ _ _ _ _ _ _ _ _ _ _ _ _ ad ls hx hb h9 kk => lv_istore hx hb hd h9 hn (by rw [← hl]; exact lvs_1 ad i (sI x) lv) kk) (fun h1 h2 => ⟨hl ▸ okl_lvs h1 h2.head, h2.tail⟩) k
theorem j_lstore_n {kk0 : Fin 4} {i : Nat} {x : Int64} (hd : decode cc pc = .ok (.lstore_n kk0, 1)) (hi : (kk0 : Nat) = i) (hn : i + 1 < nL) (hl : lvs i 2 (sL x) lv = lv') (k : J y cc nL rt rf rl X g (pc + 1) lv' st pr) : J y cc nL rt rf rl X g pc lv (sL x :: st) pr :=
  J.t (fun _ _ _ _ _ _ _ _ _ _ _ _ _ _ _ ad ls hx hb h9 kk => lv_lstore_n hx hb hd hi h9 hn (by rw [← hl]; exact lvs_2 ad i (sL x) lv) kk) (fun h1 h2 => ⟨hl ▸ okl_lvs h1 h2.head, h2.tail⟩) k
theorem j_lstore {i : Nat} {x : Int64} (hd : decode cc pc = .ok (.lstore i, 2)) (hn : i + 1 < nL) (hl : lvs i 2 (sL x) lv = lv') (k : J y cc nL rt rf rl X g (pc + 2) lv' st pr) : J y cc nL rt rf rl X g pc lv (sL x :: st) pr :=
  J.t (fun _ _ _ _ _ _ _ _ _ _ _ _ _ _ _ ad ls hx hb h9 kk => lv_lstore hx hb hd h9 hn (by rw [← hl]; exact lvs_2 ad i (sL x) lv) kk) (fun h1 h2 => ⟨hl ▸ okl_lvs h1 h2.head, h2.tail⟩) k
theorem j_astore_n {kk0 : Fin 4} {i : Nat} {x : Option Nm} (hd : decode cc pc = .ok (.astore_n kk0, 1)) (hi : (kk0 : Nat) = i) (hn : i < nL) (hl : lvs i 1 (sR x) lv = lv') (k : J y cc nL rt rf rl X g (pc + 1) lv' st pr) : J y cc nL rt rf rl X g pc lv (sR x :: st) pr := by
  refine J.t (fun _ _ _ _ _ _ _ _ _ _ _ _ _ _ _ ad ls hx hb h9 kk => ?_) (fun h1 h2 => ⟨hl ▸ okl_lvs h1 h2.head, h2.tail⟩) k
  have e := lvs_1 ad i (sR x) lv
  rw [hl] at e
  cases x with
  | none => exact lv_astore_nN hx hb hd hi h9 hn e kk
  | some a => exact lv_astore_n hx hb hd hi h9 hn e kk
theorem j_astore {i : Nat} {x : Option Nm} (hd : decode cc pc = .ok (.astore i, 2)) (hn : i < nL) (hl : lvs i 1 (sR x) lv = lv') (k : J y cc nL rt rf rl X g (pc + 2) lv' st pr) : J y cc nL rt rf rl X g pc lv (sR x :: st) pr := by
  refine J.t (fun _ _ _ _ _ _ _ _ _ _ _ _ _ _ _ ad ls hx hb h9 kk => ?_) (fun h1 h2 => ⟨hl ▸ okl_lvs h1 h2.head, h2.tail⟩) k
  have e := lvs_1 ad i (sR x) lv
  rw [hl] at e
  cases x with
  | none => exact lv_astoreN hx hb hd h9 hn e kk
  | some a => exact lv_astore hx hb hd h9 hn e kk
theorem j_iinc (q : Nat) {i : Nat} {n : Int} {x v : Int32} (hd : decode cc pc = .ok (.iinc i n, 3)) (hq : lv[q]? = some (i, sI x)) (hv : x + Int32.ofInt n = v) (hn : i < nL) (hl : lvs i 1 (sI v) lv = lv') (k : J y cc nL rt rf rl X g (pc + 3) lv' st pr) : J y cc nL rt rf rl X g pc lv st pr :=
  J.t (fun _ _ _ _ _ _ _ _ _ _ _ _ _ _ _ ad ls hx hb h9 kk => lv_iinc (k := q) hx hb hd h9 (by simp [lvm, hq, cv]) hv hn (by rw [← hl]; exact lvs_1 ad i (sI v) lv) kk) (fun h1 h2 => ⟨hl ▸ okl_lvs h1 trivial, h2⟩) k
theorem j_if_eq {x : Int32} {off : Int} {tgt : Nat} {a b : Option (ρ × Hp)} (hd : decode cc pc = .ok (.ifCond .eq off, 3)) (ht : (pc : Int) + off = (tgt : Int)) (hp : pr = if x = 0 then a else b) (kt : x = 0 → J y cc nL rt rf rl X g tgt lv st a) (kf : ¬ x = 0 → J y cc nL rt rf rl X g (pc + 3) lv st b) : J y cc nL rt rf rl X g pc lv (sI x :: st) pr :=
  J.f (P := x = 0) (fun _ _ _ _ _ _ _ _ _ _ _ _ _ _ _ ad ls hx hb h1 h2 => lv_if_eq hx hb hd ht h1 h2) (fun h => h.tail) hp kt kf
theorem j_icmp_eq {x z : Int32} {off : Int} {tgt : Nat} {a b : Option (ρ × Hp)} (hd : decode cc pc = .ok (.if_icmp .eq off, 3)) (ht : (pc : Int) + off = (tgt : Int)) (hp : pr = if x = z then a else b) (kt : x = z → J y cc nL rt rf rl X g tgt lv st a) (kf : ¬ x = z → J y cc nL rt rf rl X g (pc + 3) lv st b) : J y cc nL rt rf rl X g pc lv (sI z :: sI x :: st) pr :=
  J.f (P := x = z) (fun _ _ _ _ _ _ _ _ _ _ _ _ _ _ _ ad ls hx hb h1 h2 => lv_icmp_eq hx hb hd ht h1 h2) (fun h => h.tail.tail) hp kt kf
theorem j_if_ne {x : Int32} {off : Int} {tgt : Nat} {a b : Option (ρ × Hp)} (hd : decode cc pc = .ok (.ifCond .ne off, 3)) (ht : (pc : Int) + off = (tgt : Int)) (hp : pr = if x = 0 then b else a) (kt : ¬ x = 0 → J y cc nL rt rf rl X g tgt lv st a) (kf : x = 0 → J y cc nL rt rf rl X g (pc + 3) lv st b) : J y cc nL rt rf rl X g pc lv (sI x :: st) pr :=
  J.f (P := x = 0) (fun _ _ _ _ _ _ _ _ _ _ _ _ _ _ _ ad ls hx hb h1 h2 => lv_if_ne hx hb hd ht h2 h1) (fun h => h.tail) hp kf kt
theorem j_icmp_ne {x z : Int32} {off : Int} {tgt : Nat} {a b : Option (ρ × Hp)} (hd : decode cc pc = .ok (.if_icmp .ne off, 3)) (ht : (pc : Int) + off = (tgt : Int)) (hp : pr = if x = z then b else a) (kt : ¬ x = z → J y cc nL rt rf rl X g tgt lv st a) (kf : x = z → J y cc nL rt rf rl X g (pc + 3) lv st b) : J y cc nL rt rf rl X g pc lv (sI z :: sI x :: st) pr :=
  J.f (P := x = z) (fun _ _ _ _ _ _ _ _ _ _ _ _ _ _ _ ad ls hx hb h1 h2 => lv_icmp_ne hx hb hd ht h2 h1) (fun h => h.tail.tail) hp kf kt
theorem j_if_lt {x : Int32} {off : Int} {tgt : Nat} {a b : Option (ρ × Hp)} (hd : decode cc pc = .ok (.ifCond .lt off, 3)) (ht : (pc : Int) + off = (tgt : Int)) (hp : pr = if x < 0 then a else b) (kt : x < 0 → J y cc nL rt rf rl X g tgt lv st a) (kf : ¬ x < 0 → J y cc nL rt rf rl X g (pc + 3) lv st b) : J y cc nL rt rf rl X g pc lv (sI x :: st) pr :=
  J.f (P := x < 0) (fun _ _ _ _ _ _ _ _ _ _ _ _ _ _ _ ad ls hx hb h1 h2 => lv_if_lt hx hb hd ht h1 h2) (fun h => h.tail) hp kt kf
theorem j_icmp_lt {x z : Int32} {off : Int} {tgt : Nat} {a b : Option (ρ × Hp)} (hd : decode cc pc = .ok (.if_icmp .lt off, 3)) (ht : (pc : Int) + off = (tgt : Int)) (hp : pr = if x < z then a else b) (kt : x < z → J y cc nL rt rf rl X g tgt lv st a) (kf : ¬ x < z → J y cc nL rt rf rl X g (pc + 3) lv st b) : J y cc nL rt rf rl X g pc lv (sI z :: sI x :: st) pr :=
  J.f (P := x < z) (fun _ _ _ _ _ _ _ _ _ _ _ _ _ _ _ ad ls hx hb h1 h2 => lv_icmp_lt hx hb hd ht h1 h2) (fun h => h.tail.tail) hp kt kf
theorem j_if_ge {x : Int32} {off : Int} {tgt : Nat} {a b : Option (ρ × Hp)} (hd : decode cc pc = .ok (.ifCond .ge off, 3)) (ht : (pc : Int) + off = (tgt : Int)) (hp : pr = if 0 ≤ x then a else b) (kt : 0 ≤ x → J y cc nL rt rf rl X g tgt lv st a) (kf : ¬ 0 ≤ x → J y cc nL rt rf rl X g (pc + 3) lv st b) : J y cc nL rt rf rl X g pc lv (sI x :: st) pr :=
  J.f (P := 0 ≤ x) (fun _ _ _ _ _ _ _ _ _ _ _ _ _ _ _ ad ls hx hb h1 h2 => lv_if_ge hx hb hd ht h1 h2) (fun h => h.tail) hp kt kf
theorem j_icmp_ge {x z : Int32} {off : Int} {tgt : Nat} {a b : Option (ρ × Hp)} (hd : decode cc pc = .ok (.if_icmp .ge off, 3)) (ht : (pc : Int) + off = (tgt : Int)) (hp : pr = if z ≤ x then a else b) (kt : z ≤ x → J y cc nL rt rf rl X g tgt lv st a) (kf : ¬ z ≤ x → J y cc nL rt rf rl X g (pc + 3) lv st b) : J y cc nL rt rf rl X g pc lv (sI z :: sI x :: st) pr :=
  J.f (P := z ≤ x) (fun _ _ _ _ _ _ _ _ _ _ _ _ _ _ _ ad ls hx hb h1 h2 => lv_icmp_ge hx hb hd ht h1 h2) (fun h => h.tail.tail) hp kt kf
theorem j_if_gt {x : Int32} {off : Int} {tgt : Nat} {a b : Option (ρ × Hp)} (hd : decode cc pc = .ok (.ifCond .gt off, 3)) (ht : (pc : Int) + off = (tgt : Int)) (hp : pr = if 0 < x then a else b) (kt : 0 < x → J y cc nL rt rf rl X g tgt lv st a) (kf : ¬ 0 < x → J y cc nL rt rf rl X g (pc + 3) lv st b) : J y cc nL rt rf rl X g pc lv (sI x :: st) pr :=
  J.f (P := 0 < x) (fun _ _ _ _ _ _ _ _ _ _ _ _ _ _ _ ad ls hx hb h1 h2 => lv_if_gt hx hb hd ht h1 h2) (fun h => h.tail) hp kt kf
theorem j_icmp_gt {x z : Int32} {off : Int} {tgt : Nat} {a b : Option (ρ × Hp)} (hd : decode cc pc = .ok (.if_icmp .gt off, 3)) (ht : (pc : Int) + off = (tgt : Int)) (hp : pr = if z < x then a else b) (kt : z < x → J y cc nL rt rf rl X g tgt lv st a) (kf : ¬ z < x → J y cc nL rt rf rl X g (pc + 3) lv st b) : J y cc nL rt rf rl X g pc lv (sI z :: sI x :: st) pr :=
  J.f (P := z < x) (fun _ _ _ _ _ _ _ _ _ _ _ _ _ _ _ ad ls hx hb h1 h2 => lv_icmp_gt hx hb hd ht h1 h2) (fun h => h.tail.tail) hp kt kf
theorem j_if_le {x : Int32} {off : Int} {tgt : Nat} {a b : Option (ρ × Hp)} (hd : decode cc pc = .ok (.ifCond .le off, 3)) (ht : (pc : Int) + off = (tgt : Int)) (hp : pr = if x ≤ 0 then a else b) (kt : x ≤ 0 → J y cc nL rt rf rl X g tgt lv st a) (kf : ¬ x ≤ 0 → J y cc nL rt rf rl X g (pc + 3) lv st b) : J y cc nL rt rf rl X g pc lv (sI x :: st) pr :=
  J.f (P := x ≤ 0) (fun _ _ _ _ _ _ _ _ _ _ _ _ _ _ _ ad ls hx hb h1 h2 => lv_if_le hx hb hd ht h1 h2) (fun h => h.tail) hp kt kf
theorem j_icmp_le {x z : Int32} {off : Int} {tgt : Nat} {a b : Option (ρ × Hp)} (hd : decode cc pc = .ok (.if_icmp .le off, 3)) (ht : (pc : Int) + off = (tgt : Int)) (hp : pr = if x ≤ z then a else b) (kt : x ≤ z → J y cc nL rt rf rl X g tgt lv st a) (kf : ¬ x ≤ z → J y cc nL rt rf rl X g (pc + 3) lv st b) : J y cc nL rt rf rl X g pc lv (sI z :: sI x :: st) pr :=
  J.f (P := x ≤ z) (fun _ _ _ _ _ _ _ _ _ _ _ _ _ _ _ ad ls hx hb h1 h2 => lv_icmp_le hx hb hd ht h1 h2) (fun h => h.tail.tail) hp kt kf
theorem j_goto {off : Int} {tgt : Nat} (hd : decode cc pc = .ok (.goto off, 3)) (ht : (pc : Int) + off = (tgt : Int)) (k : J y cc nL rt rf rl X g tgt lv st pr) : J y cc nL rt rf rl X g pc lv st pr :=
  J.s (fun _ _ _ _ _ _ _ _ _ _ _ _ _ _ _ ad ls hx hb hw htb hl K0 => lv_goto hx hb hd ht K0) (fun _ h => h) k
end RUL
end
section
/-! what the tables say of a field, by the place in the constant pool -/
def FLK (own : String) (ix c k : Nat) (b : Bool) : Prop := ∃ (C : String) (T : u_T) (N : Nat) (ref : String), (vwCl[c]? = some (C, T, N) ∧ k < N ∧ (flds c)[k]? = some b ∧ c < 11) ∧ (∀ w ∈ u_ws C T N, w ∈ lw_tbl ∧ okW w = true) ∧
  ((Cond.fieldLink own ix ref (T k).2.1 (T k).2.2.1 ∈ lw_tbl ∧ okW (Cond.fieldLink own ix ref (T k).2.1 (T k).2.2.1) = true) ∨ ∃ host, Cond.fieldLinkNest own ix ref (T k).2.1 (T k).2.2.1 host ∈ lw_tbl) ∧ (ref = (T k).1 ∨ (Cond.sameField ref (T k).1 (T k).2.1 (T k).2.2.1 ∈ lw_tbl ∧ okW (Cond.sameField ref (T k).1 (T k).2.1 (T k).2.2.1) = true))
def FLT (c k : Nat) (ty : FieldType) : Prop := ∃ (C : String) (T : u_T) (N : Nat) (t0 : Nat → FieldType), vwCl[c]? = some (C, T, N) ∧ parseFieldDescriptor (T k).2.2.1 = some ty ∧ (∀ k, k < N → parseFieldDescriptor (T k).2.2.1 = some (t0 k)) ∧ (∀ a, a < N → ∀ b, b < N → a ≠ b → (T a).2.1 ≠ (T b).2.1)
/-- a field that may be written: not final, or by its own constructor -/
def FLW (y : MethodName) (own : String) (ix c k : Nat) : Prop := ∃ (C : String) (T : u_T) (N : Nat), vwCl[c]? = some (C, T, N) ∧ ((T k).2.2.2 = false ∨ ((T k).2.2.2 = true ∧ y.name = "<init>" ∧ (T k).1 = y.cls ∧ Cond.fieldLink own ix (T k).1 (T k).2.1 (T k).2.2.1 ∈ lw_tbl ∧ okW (Cond.fieldLink own ix (T k).1 (T k).2.1 (T k).2.2.1) = true))
theorem okr_in {g : Hp} {n : Nm} (h : okv g (sR (some n))) (h1 : n.1 < 17 ∨ 20 ≤ n.1) : n ∈ gL g := by
  rcases h n rfl with h2 | h2
  · exact h2
  · rcases h2 with e | e | e <;> subst e <;> rcases h1 with h1 | h1 <;> exact absurd h1 (by decide)
theorem Cl.setR {g : Hp} {n : Nm} {k : Nat} {r : Option Nm} (h : Cl g) (hr : okv g (sR r)) : Cl (setR g n k r) := by
  intro m hm j
  show okr g (if m = n ∧ j = k then r else gR g m j)
  split
  · exact hr
  · exact h m hm j
section HRU
variable {ρ : Type} {y : MethodName} {cc : ByteArray} {nL : Nat} {rt : Option FieldType} {rf rl : Nat} {X : Xt ρ} {g : Hp} {pc : Nat} {lv lv' : List (Nat × SV)} {st : List SV} {pr pr2 : Option (ρ × Hp)}
/-- a step that reads the heap -/
theorem J.r {pc' : Nat} {st' : List SV} (hW : ∀ (p : Program) (l : Launch) (e : Env) (s : State) (m : MethodId) (args : Array Value) (below : List Frame) (meth : Method) (c : Code) (R : Room) (H : Heap) (locs : List Loc) (cells slots : Nat) (Q : State → Prop) (D : va_G) (cs : ClassId × ClassId × ClassId) (A : Nat → Prop) (ad : Nm → Nat) (ls : Array Slot),
      p.tables.exec = Jvm.exec → c.code = cc → ls.size = nL → c.maxLocals = nL → s.vm.findClass y.cls = some m.cls → TB s → va_K D vwCl (tyl cs) s → EX ad A s s.heap → R.frames = rf ∧ R.locals = rl → cells ≤ R.cells ∧ slots ≤ R.slots → va_P D vwCl (wld cs ad g) H → va_D A (wld cs ad g) → va_S A s.heap H locs → okl g lv → oks g st → W p l e R s m args below meth c H locs cells slots Q (F0 m pc' ls (stm ad st')) → W p l e R s m args below meth c H locs cells slots Q (F0 m pc ls (stm ad st)))
    (hok : Cl g → oks g st → oks g st') (k : J y cc nL rt rf rl X g pc' lv st' pr) : J y cc nL rt rf rl X g pc lv st pr := by
  obtain ⟨⟨p, l, e, s, m, args, below, meth, c⟩, ⟨D, cs, A⟩, ad0, g0, RF, QF⟩ := X
  intro r g' h
  obtain ⟨a, b⟩ := k r g' h
  refine ⟨a, fun hG hM hc ad H locs ls h1 h2 h3 h4 h5 h6 h7 h0 => ?_⟩
  obtain ⟨x1, x2, x3, x4, x5, x6, x7, x8, x9, x10, x11, x12⟩ := id hG
  have hcc : gc g - gc g0 ≤ (RF g').cells ∧ gs g - gs g0 ≤ (RF g').slots := ⟨Nat.le_trans (Nat.sub_le_sub_right a.1 _) hc.1, Nat.le_trans (Nat.sub_le_sub_right a.2.1 _) hc.2⟩
  exact hW p l e s m args below meth c _ H locs _ _ _ D cs A ad ls x1 x2 h5.1 x3 x4 x8 x9 (x11.ad (h1 _ (Or.inr (Or.inl rfl))) (h1 _ (Or.inr (Or.inr (Or.inr rfl))))) (x12 g') hcc h2 h3 h4 h6 h7 (b hG hM hc ad H locs ls h1 h2 h3 h4 h5 h6 (hok h0 h7) h0)
/-- a step that writes the heap: the world behind it is another one -/
theorem J.w {pc' : Nat} {st' : List SV} {g1 : Hp} (hW : ∀ (p : Program) (l : Launch) (e : Env) (s : State) (m : MethodId) (args : Array Value) (below : List Frame) (meth : Method) (c : Code) (R : Room) (H : Heap) (locs : List Loc) (cells slots : Nat) (Q : State → Prop) (D : va_G) (cs : ClassId × ClassId × ClassId) (A : Nat → Prop) (ad : Nm → Nat) (ls : Array Slot),
      p.tables.exec = Jvm.exec → c.code = cc → ls.size = nL → c.maxLocals = nL → s.vm.findClass y.cls = some m.cls → meth.name = y.name → TB s → va_K D vwCl (tyl cs) s → EX ad A s s.heap → R.frames = rf ∧ R.locals = rl → cells ≤ R.cells ∧ slots ≤ R.slots → va_P D vwCl (wld cs ad g) H → va_D A (wld cs ad g) → va_S A s.heap H locs → okl g lv → oks g st →
      (∀ H1 locs1, va_P D vwCl (wld cs ad g1) H1 → va_D A (wld cs ad g1) → va_S A s.heap H1 locs1 → W p l e R s m args below meth c H1 locs1 cells slots Q (F0 m pc' ls (stm ad st'))) → W p l e R s m args below meth c H locs cells slots Q (F0 m pc ls (stm ad st)))
    (hL : gL g1 = gL g) (hcs : gc g1 = gc g ∧ gs g1 = gs g) (hcl : Cl g → oks g st → Cl g1) (hok : oks g st → oks g st') (k : J y cc nL rt rf rl X g1 pc' lv st' pr) : J y cc nL rt rf rl X g pc lv st pr := by
  obtain ⟨⟨p, l, e, s, m, args, below, meth, c⟩, ⟨D, cs, A⟩, ad0, g0, RF, QF⟩ := X
  intro r g' h
  obtain ⟨a, b⟩ := k r g' h
  have hM1 : Mn g g1 := ⟨Nat.le_of_eq hcs.1.symm, Nat.le_of_eq hcs.2.symm, fun n hn => by rw [hL]; exact hn⟩
  have a' := hM1.tr a
  refine ⟨a', fun hG hM hc ad H locs ls h1 h2 h3 h4 h5 h6 h7 h0 => ?_⟩
  obtain ⟨x1, x2, x3, x4, x5, x6, x7, x8, x9, x10, x11, x12⟩ := id hG
  have hcc : gc g - gc g0 ≤ (RF g').cells ∧ gs g - gs g0 ≤ (RF g').slots := ⟨Nat.le_trans (Nat.sub_le_sub_right a'.1 _) hc.1, Nat.le_trans (Nat.sub_le_sub_right a'.2.1 _) hc.2⟩
  have hk := b hG (hM.tr hM1) hc ad
  rw [hcs.1, hcs.2] at hk
  exact hW p l e s m args below meth c _ H locs _ _ _ D cs A ad ls x1 x2 h5.1 x3 x4 x7 x8 x9 (x11.ad (h1 _ (Or.inr (Or.inl rfl))) (h1 _ (Or.inr (Or.inr (Or.inr rfl))))) (x12 g') hcc h2 h3 h4 h6 h7 (fun H1 locs1 q2 q3 q4 => hk H1 locs1 ls h1 q2 q3 q4 h5 (h6.mn hM1) ((hok h7).mn hM1) (hcl h0 h7))
/-- the same, where the step needs that the heap is closed -/
theorem J.wc {pc' : Nat} {st' : List SV} {g1 : Hp} (hW : ∀ (p : Program) (l : Launch) (e : Env) (s : State) (m : MethodId) (args : Array Value) (below : List Frame) (meth : Method) (c : Code) (R : Room) (H : Heap) (locs : List Loc) (cells slots : Nat) (Q : State → Prop) (D : va_G) (cs : ClassId × ClassId × ClassId) (A : Nat → Prop) (ad : Nm → Nat) (ls : Array Slot),
      p.tables.exec = Jvm.exec → c.code = cc → ls.size = nL → c.maxLocals = nL → s.vm.findClass y.cls = some m.cls → meth.name = y.name → TB s → va_K D vwCl (tyl cs) s → EX ad A s s.heap → R.frames = rf ∧ R.locals = rl → cells ≤ R.cells ∧ slots ≤ R.slots → va_P D vwCl (wld cs ad g) H → va_D A (wld cs ad g) → va_S A s.heap H locs → okl g lv → oks g st → Cl g →
      (∀ H1 locs1, va_P D vwCl (wld cs ad g1) H1 → va_D A (wld cs ad g1) → va_S A s.heap H1 locs1 → W p l e R s m args below meth c H1 locs1 cells slots Q (F0 m pc' ls (stm ad st'))) → W p l e R s m args below meth c H locs cells slots Q (F0 m pc ls (stm ad st)))
    (hL : gL g1 = gL g) (hcs : gc g1 = gc g ∧ gs g1 = gs g) (hcl : Cl g → oks g st → Cl g1) (hok : oks g st → oks g st') (k : J y cc nL rt rf rl X g1 pc' lv st' pr) : J y cc nL rt rf rl X g pc lv st pr := by
  obtain ⟨⟨p, l, e, s, m, args, below, meth, c⟩, ⟨D, cs, A⟩, ad0, g0, RF, QF⟩ := X
  intro r g' h
  obtain ⟨a, b⟩ := k r g' h
  have hM1 : Mn g g1 := ⟨Nat.le_of_eq hcs.1.symm, Nat.le_of_eq hcs.2.symm, fun n hn => by rw [hL]; exact hn⟩
  have a' := hM1.tr a
  refine ⟨a', fun hG hM hc ad H locs ls h1 h2 h3 h4 h5 h6 h7 h0 => ?_⟩
  obtain ⟨x1, x2, x3, x4, x5, x6, x7, x8, x9, x10, x11, x12⟩ := id hG
  have hcc : gc g - gc g0 ≤ (RF g').cells ∧ gs g - gs g0 ≤ (RF g').slots := ⟨Nat.le_trans (Nat.sub_le_sub_right a'.1 _) hc.1, Nat.le_trans (Nat.sub_le_sub_right a'.2.1 _) hc.2⟩
  have hk := b hG (hM.tr hM1) hc ad
  rw [hcs.1, hcs.2] at hk
  exact hW p l e s m args below meth c _ H locs _ _ _ D cs A ad ls x1 x2 h5.1 x3 x4 x7 x8 x9 (x11.ad (h1 _ (Or.inr (Or.inl rfl))) (h1 _ (Or.inr (Or.inr (Or.inr rfl))))) (x12 g') hcc h2 h3 h4 h6 h7 h0 (fun H1 locs1 q2 q3 q4 => hk H1 locs1 ls h1 q2 q3 q4 h5 (h6.mn hM1) ((hok h7).mn hM1) (hcl h0 h7))
theorem va_getL {p : Program} {l : Launch} {e : Env} {s : State} {m : MethodId} {args : Array Value} {below : List Frame} {meth : Method} {c : Code} {R : Room} {H : Heap} {locs : List Loc} {cells slots : Nat} {Q : State → Prop} {D : va_G} {cs : ClassId × ClassId × ClassId} {ad : Nm → Nat} {ls : Array Slot} {rest : List Value} {own : String} {ix cd k : Nat} {b : Bool} {n : Nm}
    (hF : FLK own ix cd k b) (ho : own = y.cls) (hx : p.tables.exec = Jvm.exec) (hb : c.code = cc) (hw : s.vm.findClass y.cls = some m.cls) (htb : TB s) (hK : va_K D vwCl (tyl cs) s) (hP : va_P D vwCl (wld cs ad g) H) (hn : n.1 = cd) (hin : n ∈ gL g) (hd : decode cc pc = .ok (.getfield ix, 3))
    (kk : W p l e R s m args below meth c H locs cells slots Q (F0 m (pc + 3) ls (fv ad g n k b :: rest))) : W p l e R s m args below meth c H locs cells slots Q (F0 m pc ls (.ref (ad n) :: rest)) := by
  obtain ⟨C, T, N, ref, ⟨h1, h2, h3, h4⟩, h5, h6, h7⟩ := hF
  subst hn
  obtain ⟨q, hq, he⟩ := wat (cs := cs) (ad := ad) hin
  rw [ent_o h4] at he
  have hsame : ∀ x, s.fieldFound? (T k).1 (T k).2.1 (T k).2.2.1 = some x → s.fieldFound? ref (T k).2.1 (T k).2.2.1 = some x := by
    rcases h7 with e | ⟨e, eo⟩
    · rw [e]; exact fun _ h => h
    · exact fun x h => u_same (htb _ e eo args) x h
  rcases h6 with ⟨h6, h6o⟩ | ⟨host, h6⟩
  · exact va_get (Ts := u_ws C T N) hx hb (fun w hw2 => htb w (h5 w hw2).1 (h5 w hw2).2 args) (fun _ h => h) (by rw [ho]; exact hw) hK hP q he h1 k h2 (htb _ h6 h6o args) hsame (fv_get h3) hd kk
  · exact va_getN (Ts := u_ws C T N) hx hb (fun w hw2 => htb w (h5 w hw2).1 (h5 w hw2).2 args) (fun _ h => h) (by rw [ho]; exact hw) hK hP q he h1 k h2 (htb _ h6 (by simp [okW, isNw]) args) hsame (fv_get h3) hd kk
theorem j_getI {own : String} {ix c k : Nat} {r : Option Nm} {F : Int32 → Option (ρ × Hp)} (hd : decode cc pc = .ok (.getfield ix, 3)) (hF : FLK own ix c k false) (ho : own = y.cls) (hp : pr = (getI r c k g).bind F) (kk : ∀ x, J y cc nL rt rf rl X g (pc + 3) lv (sI x :: st) (F x)) : J y cc nL rt rf rl X g pc lv (sR r :: st) pr := by
  subst hp
  cases r with
  | none => exact J.none
  | some n =>
    by_cases hn : n.1 = c
    · have e : (getI (some n) c k g).bind F = F (gI g n k) := by simp [getI, hn]
      refine J.eq e (J.r (fun p l e s m args below meth c0 R H locs cells slots Q D cs A ad ls hx hb hz hml hw htb hK hE hR hC hP hD hS hol hos K0 => ?_) (fun _ h => h.tail.ci) (kk (gI g n k)))
      have hc : c < 11 := by obtain ⟨C, T, N, ref, ⟨_, _, _, h4⟩, _⟩ := hF; exact h4
      exact va_getL hF ho hx hb hw htb hK hP hn (okr_in hos.head (Or.inl (by omega))) hd K0
    · have e : (getI (some n) c k g).bind F = none := by simp [getI, hn]
      exact J.eq e J.none
theorem j_getR {own : String} {ix c k : Nat} {r : Option Nm} {F : Option Nm → Option (ρ × Hp)} (hd : decode cc pc = .ok (.getfield ix, 3)) (hF : FLK own ix c k true) (ho : own = y.cls) (hp : pr = (getR r c k g).bind F) (kk : ∀ x, J y cc nL rt rf rl X g (pc + 3) lv (sR x :: st) (F x)) : J y cc nL rt rf rl X g pc lv (sR r :: st) pr := by
  subst hp
  cases r with
  | none => exact J.none
  | some n =>
    by_cases hn : n.1 = c
    · have hc : c < 11 := by obtain ⟨C, T, N, ref, ⟨_, _, _, h4⟩, _⟩ := hF; exact h4
      have e : (getR (some n) c k g).bind F = F (gR g n k) := by simp [getR, hn]
      refine J.eq e (J.r (fun p l e s m args below meth c0 R H locs cells slots Q D cs A ad ls hx hb hz hml hw htb hK hE hR hC hP hD hS hol hos K0 => ?_) (fun h0 h => h.tail.cons (v := sR (gR g n k)) (h0 n (okr_in h.head (Or.inl (by omega))) k)) (kk (gR g n k)))
      exact va_getL hF ho hx hb hw htb hK hP hn (okr_in hos.head (Or.inl (by omega))) hd K0
    · have e : (getR (some n) c k g).bind F = none := by simp [getR, hn]
      exact J.eq e J.none
theorem ent_setI {cs : ClassId × ClassId × ClassId} {ad : Nm → Nat} {g : Hp} {n m : Nm} {k : Nat} {v : Int32} (h : m ≠ n) : ent cs ad (setI g n k v) m = ent cs ad g m := by
  have e1 : gI (setI g n k v) m = gI g m := by funext j; simp [setI, gI, h]
  have e2 : gR (setI g n k v) = gR g := rfl
  have e3 : gN (setI g n k v) = gN g := rfl
  have e4 : fv ad (setI g n k v) m = fv ad g m := by funext j b; simp only [fv, e1, e2]
  simp only [ent, e1, e2, e3, e4]
theorem ent_setR {cs : ClassId × ClassId × ClassId} {ad : Nm → Nat} {g : Hp} {n m : Nm} {k : Nat} {v : Option Nm} (h : m ≠ n) : ent cs ad (setR g n k v) m = ent cs ad g m := by
  have e1 : gI (setR g n k v) = gI g := rfl
  have e2 : gR (setR g n k v) m = gR g m := by funext j; simp [setR, gR, h]
  have e3 : gN (setR g n k v) = gN g := rfl
  have e4 : fv ad (setR g n k v) m = fv ad g m := by funext j b; simp only [fv, e1, e2]
  simp only [ent, e1, e2, e3, e4]
theorem fs_setI {ad : Nm → Nat} {g : Hp} {n : Nm} {k : Nat} {v : Int32} (h : (flds n.1)[k]? = some false) : ((flds n.1).mapIdx (fv ad g n)).set k (.int v) = (flds n.1).mapIdx (fv ad (setI g n k v) n) := by
  apply List.ext_getElem?
  intro j
  have hk := (List.getElem?_eq_some_iff.mp h).1
  rw [List.getElem?_set]
  by_cases hj : k = j
  · subst hj
    simp only [List.length_mapIdx, hk, if_true, List.getElem?_mapIdx, h, Option.map_some]
    simp [fv, setI, gI]
  · rw [if_neg hj, List.getElem?_mapIdx, List.getElem?_mapIdx]
    congr 1
    funext b
    have : ¬ j = k := fun q => hj q.symm
    simp [fv, setI, gI, gR, this]
theorem fs_setR {ad : Nm → Nat} {g : Hp} {n : Nm} {k : Nat} {v : Option Nm} (h : (flds n.1)[k]? = some true) : ((flds n.1).mapIdx (fv ad g n)).set k (va_rf (v.map ad)) = (flds n.1).mapIdx (fv ad (setR g n k v) n) := by
  apply List.ext_getElem?
  intro j
  have hk := (List.getElem?_eq_some_iff.mp h).1
  rw [List.getElem?_set]
  by_cases hj : k = j
  · subst hj
    simp only [List.length_mapIdx, hk, if_true, List.getElem?_mapIdx, h, Option.map_some]
    simp [fv, setR, gR]
  · rw [if_neg hj, List.getElem?_mapIdx, List.getElem?_mapIdx]
    congr 1
    funext b
    have : ¬ j = k := fun q => hj q.symm
    simp [fv, setR, gI, gR, this]
theorem va_putL {p : Program} {l : Launch} {e : Env} {s : State} {m : MethodId} {args : Array Value} {below : List Frame} {meth : Method} {c : Code} {R : Room} {H : Heap} {locs : List Loc} {cells slots : Nat} {Q : State → Prop} {D : va_G} {cs : ClassId × ClassId × ClassId} {A : Nat → Prop} {ad : Nm → Nat} {ls : Array Slot} {rest : List Value} {own : String} {ix cd k : Nat} {b : Bool} {ty : FieldType} {n : Nm} {v : Value} {g1 : Hp}
    (hF : FLK own ix cd k b) (hT : FLT cd k ty) (hV : FLW y own ix cd k) (ho : own = y.cls) (hx : p.tables.exec = Jvm.exec) (hb : c.code = cc) (hw : s.vm.findClass y.cls = some m.cls) (hnm : meth.name = y.name) (htb : TB s) (hK : va_K D vwCl (tyl cs) s) (hP : va_P D vwCl (wld cs ad g) H) (hD : va_D A (wld cs ad g)) (hS : va_S A s.heap H locs) (hn : n.1 = cd) (hin : n ∈ gL g)
    (hnv : narrow ty v = v) (hfit : fits ty v = true) (hL : gL g1 = gL g) (hself : ((flds n.1).mapIdx (fv ad g n)).set k v = (flds n.1).mapIdx (fv ad g1 n)) (hoth : ∀ m, m ≠ n → ent cs ad g1 m = ent cs ad g m) (hd : decode cc pc = .ok (.putfield ix, 3))
    (kk : ∀ H1 locs1, va_P D vwCl (wld cs ad g1) H1 → va_D A (wld cs ad g1) → va_S A s.heap H1 locs1 → W p l e R s m args below meth c H1 locs1 cells slots Q (F0 m (pc + 3) ls rest)) : W p l e R s m args below meth c H locs cells slots Q (F0 m pc ls (v :: .ref (ad n) :: rest)) := by
  obtain ⟨C, T, N, ref, ⟨h1, h2, h3, h4⟩, h5, h6, h7⟩ := hF
  obtain ⟨C', T', N', t0, a1, a2, a3, a4⟩ := hT
  cases (h1.symm.trans a1)
  obtain ⟨C', T', N', b1, b2⟩ := hV
  cases (h1.symm.trans b1)
  subst hn
  obtain ⟨q, hq, he⟩ := wat (cs := cs) (ad := ad) hin
  have hset := wset (cs := cs) (ad := ad) hD hq hL (e := .inr (n.1, (flds n.1).mapIdx (fv ad g1 n))) (ent_o h4) hoth
  rw [← hself] at hset
  rw [ent_o h4] at he
  have hlen : k < ((flds n.1).mapIdx (fv ad g n)).length := by rw [List.length_mapIdx]; exact (List.getElem?_eq_some_iff.mp h3).1
  have hsame : ∀ x, s.fieldFound? (T k).1 (T k).2.1 (T k).2.2.1 = some x → s.fieldFound? ref (T k).2.1 (T k).2.2.1 = some x := by
    rcases h7 with e | ⟨e, eo⟩
    · rw [e]; exact fun _ h => h
    · exact fun x h => u_same (htb _ e eo args) x h
  have kk2 : ∀ (H1 : Heap) (locs1 : List Loc), va_P D vwCl ((wld cs ad g).set q (ad n, .inr (n.1, ((flds n.1).mapIdx (fv ad g n)).set k v))) H1 → va_D A ((wld cs ad g).set q (ad n, .inr (n.1, ((flds n.1).mapIdx (fv ad g n)).set k v))) → va_S A s.heap H1 locs1 → W p l e R s m args below meth c H1 locs1 cells slots Q (F0 m (pc + 3) ls rest) := by
    rw [hset]
    exact kk
  rcases b2 with b2 | ⟨b2, b3, b4, b5, b6⟩
  · rcases h6 with ⟨h6, h6o⟩ | ⟨host, h6⟩
    · exact va_put (Ts := u_ws C T N) (own := own) hx hb (fun w hw2 => htb w (h5 w hw2).1 (h5 w hw2).2 args) (fun _ h => h) t0 a3 a4 (by rw [ho]; exact hw) hK hP hD hS q he h1 k h2 (htb _ h6 h6o args) hsame b2 a2 hnv hfit hlen hd kk2
    · exact va_putN (Ts := u_ws C T N) (own := own) hx hb (fun w hw2 => htb w (h5 w hw2).1 (h5 w hw2).2 args) (fun _ h => h) t0 a3 a4 (by rw [ho]; exact hw) hK hP hD hS q he h1 k h2 (htb _ h6 (by simp [okW, isNw]) args) hsame b2 a2 hnv hfit hlen hd kk2
  · exact va_putF (Ts := u_ws C T N) (own := own) hx hb (fun w hw2 => htb w (h5 w hw2).1 (h5 w hw2).2 args) (fun _ h => h) t0 a3 a4 (by rw [ho]; exact hw) hK hP hD hS q he h1 k h2 (htb _ b5 b6 args) (fun _ h => h) b2 (hnm.trans b3) (b4.trans ho.symm) a2 hnv hfit hlen hd kk2
theorem j_putI {own : String} {ix c k : Nat} {r : Option Nm} {x : Int32} {F : Hp → Option (ρ × Hp)} (hd : decode cc pc = .ok (.putfield ix, 3)) (hF : FLK own ix c k false) (hT : FLT c k .int) (hV : FLW y own ix c k) (ho : own = y.cls) (hp : pr = (putI r c k x g).bind F) (kk : ∀ g1, J y cc nL rt rf rl X g1 (pc + 3) lv st (F g1)) : J y cc nL rt rf rl X g pc lv (sI x :: sR r :: st) pr := by
  subst hp
  cases r with
  | none => exact J.none
  | some n =>
    by_cases hn : n.1 = c
    · have e : (putI (some n) c k x g).bind F = F (setI g n k x) := by simp [putI, hn]
      refine J.eq e (J.w (g1 := setI g n k x) (fun p l e s m args below meth c0 R H locs cells slots Q D cs A ad ls hx hb hz hml hw hnm htb hK hE hR hC hP hD hS hol hos K0 => ?_) rfl ⟨rfl, rfl⟩ (fun h0 _ => h0) (fun h => h.tail.tail) (kk (setI g n k x)))
      have hc : c < 11 := by obtain ⟨C, T, N, ref, ⟨_, _, _, h4⟩, _⟩ := hF; exact h4
      have hf : (flds n.1)[k]? = some false := by obtain ⟨C, T, N, ref, ⟨_, _, h3, _⟩, _⟩ := hF; rw [hn]; exact h3
      exact va_putL (g1 := setI g n k x) hF hT hV ho hx hb hw hnm htb hK hP hD hS hn (okr_in hos.tail.head (Or.inl (by omega))) rfl rfl rfl (fs_setI hf) (fun m hm => ent_setI hm) hd K0
    · have e : (putI (some n) c k x g).bind F = none := by simp [putI, hn]
      exact J.eq e J.none
theorem j_putZ {own : String} {ix c k : Nat} {r : Option Nm} {x : Int32} {F : Hp → Option (ρ × Hp)} (hd : decode cc pc = .ok (.putfield ix, 3)) (hF : FLK own ix c k false) (hT : FLT c k .boolean) (hV : FLW y own ix c k) (ho : own = y.cls) (hp : pr = (putZ r c k x g).bind F) (kk : ∀ g1, J y cc nL rt rf rl X g1 (pc + 3) lv st (F g1)) : J y cc nL rt rf rl X g pc lv (sI x :: sR r :: st) pr := by
  subst hp
  cases r with
  | none => exact J.none
  | some n =>
    by_cases hn : n.1 = c ∧ (x = 0 ∨ x = 1)
    · have e : (putZ (some n) c k x g).bind F = F (setI g n k x) := by simp [putZ, hn]
      refine J.eq e (J.w (g1 := setI g n k x) (fun p l e s m args below meth c0 R H locs cells slots Q D cs A ad ls hx hb hz hml hw hnm htb hK hE hR hC hP hD hS hol hos K0 => ?_) rfl ⟨rfl, rfl⟩ (fun h0 _ => h0) (fun h => h.tail.tail) (kk (setI g n k x)))
      have hc : c < 11 := by obtain ⟨C, T, N, ref, ⟨_, _, _, h4⟩, _⟩ := hF; exact h4
      have hf : (flds n.1)[k]? = some false := by obtain ⟨C, T, N, ref, ⟨_, _, h3, _⟩, _⟩ := hF; rw [hn.1]; exact h3
      have h01 : narrow .boolean (.int x) = .int x ∧ fits .boolean (.int x) = true := by rcases hn.2 with e1 | e1 <;> subst e1 <;> decide
      exact va_putL (g1 := setI g n k x) hF hT hV ho hx hb hw hnm htb hK hP hD hS hn.1 (okr_in hos.tail.head (Or.inl (by omega))) h01.1 h01.2 rfl (fs_setI hf) (fun m hm => ent_setI hm) hd K0
    · have e : (putZ (some n) c k x g).bind F = none := by simp [putZ, hn]
      exact J.eq e J.none
theorem j_putR {own : String} {ix c k : Nat} {r x : Option Nm} {ty : FieldType} {F : Hp → Option (ρ × Hp)} (hd : decode cc pc = .ok (.putfield ix, 3)) (hF : FLK own ix c k true) (hT : FLT c k ty) (hty : refKind ty = true) (hV : FLW y own ix c k) (ho : own = y.cls) (hp : pr = (putR r c k x g).bind F) (kk : ∀ g1, J y cc nL rt rf rl X g1 (pc + 3) lv st (F g1)) : J y cc nL rt rf rl X g pc lv (sR x :: sR r :: st) pr := by
  subst hp
  cases r with
  | none => exact J.none
  | some n =>
    by_cases hn : n.1 = c
    · have e : (putR (some n) c k x g).bind F = F (setR g n k x) := by simp [putR, hn]
      refine J.eq e (J.w (g1 := setR g n k x) (fun p l e s m args below meth c0 R H locs cells slots Q D cs A ad ls hx hb hz hml hw hnm htb hK hE hR hC hP hD hS hol hos K0 => ?_) rfl ⟨rfl, rfl⟩ (fun h0 h => Cl.setR h0 h.head) (fun h => h.tail.tail) (kk (setR g n k x)))
      have hc : c < 11 := by obtain ⟨C, T, N, ref, ⟨_, _, _, h4⟩, _⟩ := hF; exact h4
      have hf : (flds n.1)[k]? = some true := by obtain ⟨C, T, N, ref, ⟨_, _, h3, _⟩, _⟩ := hF; rw [hn]; exact h3
      have h01 : narrow ty (va_rf (x.map ad)) = va_rf (x.map ad) ∧ fits ty (va_rf (x.map ad)) = true := by
        cases ty <;> first | (exact absurd hty (by decide)) | (cases x <;> exact ⟨rfl, rfl⟩)
      exact va_putL (g1 := setR g n k x) hF hT hV ho hx hb hw hnm htb hK hP hD hS hn (okr_in hos.tail.head (Or.inl (by omega))) h01.1 h01.2 rfl (fs_setR hf) (fun m hm => ent_setR hm) hd K0
    · have e : (putR (some n) c k x g).bind F = none := by simp [putR, hn]
      exact J.eq e J.none
/-! rows -/
theorem j_aldI {r : Option Nm} {i : Int32} {F : Int32 → Option (ρ × Hp)} (hd : decode cc pc = .ok (.iaload, 1)) (hp : pr = (aldI r i g).bind F) (kk : ∀ x, J y cc nL rt rf rl X g (pc + 1) lv (sI x :: st) (F x)) : J y cc nL rt rf rl X g pc lv (sI i :: sR r :: st) pr := by
  subst hp
  cases r with
  | none => exact J.none
  | some n =>
    by_cases hn : (20 ≤ n.1 ∧ n.1 < 60) ∧ vp_in i (gN g n)
    · have e : (aldI (some n) i g).bind F = F (gI g n i.toNatClampNeg) := by simp [aldI, hn]
      refine J.eq e (J.r (fun p l e s m args below meth c0 R H locs cells slots Q D cs A ad ls hx hb hz hml hw htb hK hE hR hC hP hD hS hol hos K0 => ?_) (fun _ h => h.tail.tail.ci) (kk _))
      obtain ⟨q, hq, he⟩ := wat (cs := cs) (ad := ad) (okr_in hos.tail.head (Or.inr hn.1.1))
      rw [ent_i hn.1.1 hn.1.2] at he
      exact va_iald hx hb hK hP q 0 he rfl hn.2 hd K0
    · have e : (aldI (some n) i g).bind F = none := by simp [aldI, hn]
      exact J.eq e J.none
theorem j_aldZ {r : Option Nm} {i : Int32} {F : Int32 → Option (ρ × Hp)} (hd : decode cc pc = .ok (.baload, 1)) (hp : pr = (aldZ r i g).bind F) (kk : ∀ x, J y cc nL rt rf rl X g (pc + 1) lv (sI x :: st) (F x)) : J y cc nL rt rf rl X g pc lv (sI i :: sR r :: st) pr := by
  subst hp
  cases r with
  | none => exact J.none
  | some n =>
    by_cases hn : 60 ≤ n.1 ∧ vp_in i (gN g n)
    · have e : (aldZ (some n) i g).bind F = F (gI g n i.toNatClampNeg) := by simp [aldZ, hn]
      refine J.eq e (J.r (fun p l e s m args below meth c0 R H locs cells slots Q D cs A ad ls hx hb hz hml hw htb hK hE hR hC hP hD hS hol hos K0 => ?_) (fun _ h => h.tail.tail.ci) (kk _))
      obtain ⟨q, hq, he⟩ := wat (cs := cs) (ad := ad) (okr_in hos.tail.head (Or.inr (by omega)))
      rw [ent_z hn.1] at he
      exact va_zald hx hb hK hP q 1 he rfl hn.2 hd K0
    · have e : (aldZ (some n) i g).bind F = none := by simp [aldZ, hn]
      exact J.eq e J.none
theorem j_aldR {r : Option Nm} {i : Int32} {F : Option Nm → Option (ρ × Hp)} (hd : decode cc pc = .ok (.aaload, 1)) (hp : pr = (aldR r i g).bind F) (kk : ∀ x, J y cc nL rt rf rl X g (pc + 1) lv (sR x :: st) (F x)) : J y cc nL rt rf rl X g pc lv (sI i :: sR r :: st) pr := by
  subst hp
  cases r with
  | none => exact J.none
  | some n =>
    by_cases hn : (12 ≤ n.1 ∧ n.1 < 17) ∧ vp_in i (gN g n)
    · have e : (aldR (some n) i g).bind F = F (gR g n i.toNatClampNeg) := by simp [aldR, hn]
      refine J.eq e (J.r (fun p l e s m args below meth c0 R H locs cells slots Q D cs A ad ls hx hb hz hml hw htb hK hE hR hC hP hD hS hol hos K0 => ?_) (fun h0 h => h.tail.tail.cons (v := sR (gR g n i.toNatClampNeg)) (h0 n (okr_in h.tail.head (Or.inl hn.1.2)) _)) (kk _))
      obtain ⟨q, hq, he⟩ := wat (cs := cs) (ad := ad) (okr_in hos.tail.head (Or.inl hn.1.2))
      rw [ent_r hn.1.1 hn.1.2] at he
      exact va_aldq hx hb hK hP q 2 he rfl hn.2 hd K0
    · have e : (aldR (some n) i g).bind F = none := by simp [aldR, hn]
      exact J.eq e J.none
theorem j_alen {r : Option Nm} {F : Int32 → Option (ρ × Hp)} (hd : decode cc pc = .ok (.arraylength, 1)) (hp : pr = (alen r g).bind F) (kk : ∀ x, J y cc nL rt rf rl X g (pc + 1) lv (sI x :: st) (F x)) : J y cc nL rt rf rl X g pc lv (sR r :: st) pr := by
  subst hp
  cases r with
  | none => exact J.none
  | some n =>
    by_cases h17 : n = (17, 0)
    · have e : (alen (some n) g).bind F = F 0 := by simp [alen, h17]
      refine J.eq e (J.r (fun p l e s m args below meth c0 R H locs cells slots Q D cs A ad ls hx hb hz hml hw htb hK hE hR hC hP hD hS hol hos K0 => ?_) (fun _ h => h.tail.ci) (kk _))
      obtain ⟨f, hT⟩ := hE.2.1
      subst h17
      exact va_tlen (v := 0) hx hb hT hS rfl hd K0
    · by_cases hn : (12 ≤ n.1 ∧ n.1 < 17) ∨ 20 ≤ n.1
      · have e : (alen (some n) g).bind F = F (Int32.ofNat (gN g n)) := by simp [alen, h17, hn]
        refine J.eq e (J.r (fun p l e s m args below meth c0 R H locs cells slots Q D cs A ad ls hx hb hz hml hw htb hK hE hR hC hP hD hS hol hos K0 => ?_) (fun _ h => h.tail.ci) (kk _))
        obtain ⟨q, hq, he⟩ := wat (cs := cs) (ad := ad) (okr_in hos.head (by omega))
        by_cases h1 : n.1 < 17
        · rw [ent_r (by omega) h1] at he
          exact va_alen hx hb hK hP q 2 he rfl rfl hd K0
        · by_cases h2 : n.1 < 60
          · rw [ent_i (by omega) h2] at he
            exact va_alen hx hb hK hP q 0 he rfl rfl hd K0
          · rw [ent_z (by omega)] at he
            exact va_alen hx hb hK hP q 1 he rfl rfl hd K0
      · have e : (alen (some n) g).bind F = none := by simp [alen, h17, hn]
        exact J.eq e J.none
theorem gI_self (g : Hp) (n : Nm) (k : Nat) (v : Int32) : gI (setI g n k v) n = upd (gI g n) k v := by funext j; simp [setI, gI, upd]
theorem j_astI {r : Option Nm} {i x : Int32} {F : Hp → Option (ρ × Hp)} (hd : decode cc pc = .ok (.iastore, 1)) (hp : pr = (astI r i x g).bind F) (kk : ∀ g1, J y cc nL rt rf rl X g1 (pc + 1) lv st (F g1)) : J y cc nL rt rf rl X g pc lv (sI x :: sI i :: sR r :: st) pr := by
  subst hp
  cases r with
  | none => exact J.none
  | some n =>
    by_cases hn : (20 ≤ n.1 ∧ n.1 < 60) ∧ vp_in i (gN g n)
    · have e : (astI (some n) i x g).bind F = F (setI g n i.toNatClampNeg x) := by simp [astI, hn]
      refine J.eq e (J.w (g1 := setI g n i.toNatClampNeg x) (fun p l e s m args below meth c0 R H locs cells slots Q D cs A ad ls hx hb hz hml hw hnm htb hK hE hR hC hP hD hS hol hos K0 => ?_) rfl ⟨rfl, rfl⟩ (fun h0 _ => h0) (fun h => h.tail.tail.tail) (kk _))
      obtain ⟨q, hq, he⟩ := wat (cs := cs) (ad := ad) (okr_in hos.tail.tail.head (Or.inr hn.1.1))
      have hset := wset (cs := cs) (ad := ad) (g1 := setI g n i.toNatClampNeg x) hD hq rfl (ent_i hn.1.1 hn.1.2) (fun m hm => ent_setI hm)
      rw [ent_i hn.1.1 hn.1.2] at he
      rw [gI_self] at hset
      exact va_iast hx hb hK hP hD hS q 0 he rfl hn.2 hd (by rw [← hset] at K0; exact K0)
    · have e : (astI (some n) i x g).bind F = none := by simp [astI, hn]
      exact J.eq e J.none
theorem j_astZ {r : Option Nm} {i x : Int32} {F : Hp → Option (ρ × Hp)} (hd : decode cc pc = .ok (.bastore, 1)) (hp : pr = (astZ r i x g).bind F) (kk : ∀ g1, J y cc nL rt rf rl X g1 (pc + 1) lv st (F g1)) : J y cc nL rt rf rl X g pc lv (sI x :: sI i :: sR r :: st) pr := by
  subst hp
  cases r with
  | none => exact J.none
  | some n =>
    by_cases hn : 60 ≤ n.1 ∧ vp_in i (gN g n)
    · have e : (astZ (some n) i x g).bind F = F (setI g n i.toNatClampNeg (vp_nar .boolean x)) := by simp [astZ, hn]
      refine J.eq e (J.w (g1 := setI g n i.toNatClampNeg (vp_nar .boolean x)) (fun p l e s m args below meth c0 R H locs cells slots Q D cs A ad ls hx hb hz hml hw hnm htb hK hE hR hC hP hD hS hol hos K0 => ?_) rfl ⟨rfl, rfl⟩ (fun h0 _ => h0) (fun h => h.tail.tail.tail) (kk _))
      obtain ⟨q, hq, he⟩ := wat (cs := cs) (ad := ad) (okr_in hos.tail.tail.head (Or.inr (by omega)))
      have hset := wset (cs := cs) (ad := ad) (g1 := setI g n i.toNatClampNeg (vp_nar .boolean x)) hD hq rfl (ent_z hn.1) (fun m hm => ent_setI hm)
      rw [ent_z hn.1] at he
      rw [gI_self] at hset
      exact va_zast hx hb hK hP hD hS q 1 he rfl hn.2 hd (by rw [← hset] at K0; exact K0)
    · have e : (astZ (some n) i x g).bind F = none := by simp [astZ, hn]
      exact J.eq e J.none
end HRU
end
section
/-! making cells -/
def upn (f : Nm → Nat) (n : Nm) (q : Nat) : Nm → Nat := fun m => if m = n then q else f m
theorem wnew {cs : ClassId × ClassId × ClassId} {ad : Nm → Nat} {g : Hp} {n : Nm} {len sz q : Nat} (h0 : Cl g) (hn : n ∉ gL g) (hx : ¬ isX n) : wld cs (upn ad n q) (newN g n len sz) = wld cs ad g ++ [(q, ent cs (upn ad n q) (newN g n len sz) n)] := by
  have e1 : gL (newN g n len sz) = gL g ++ [n] := rfl
  unfold wld
  rw [e1, List.map_append]
  congr 1
  · apply List.map_congr_left
    intro m hm
    have hmn : m ≠ n := fun e => hn (e ▸ hm)
    have a1 : upn ad n q m = ad m := by simp [upn, hmn]
    have a2 : gI (newN g n len sz) m = gI g m := by funext j; simp [newN, gI, hmn]
    have a3 : ∀ j, gR (newN g n len sz) m j = gR g m j := fun j => by simp [newN, gR, hmn]
    have a4 : gN (newN g n len sz) m = gN g m := by simp [newN, gN, hmn]
    have a5 : ∀ j, (gR (newN g n len sz) m j).map (upn ad n q) = (gR g m j).map ad := fun j => by
      rw [a3 j]
      cases hr : gR g m j with
      | none => rfl
      | some w =>
        have hw : w ≠ n := by
          intro e
          rcases h0 m hm j w hr with h | h
          · exact hn (e ▸ h)
          · exact hx (e ▸ h)
        simp [upn, hw]
    have a6 : fv (upn ad n q) (newN g n len sz) m = fv ad g m := by funext j b; simp only [fv, a2, a5]
    rw [a1]
    simp only [ent, a2, a4, a5, a6]
  · simp [upn]
theorem Cl.newN {g : Hp} {n : Nm} {len sz : Nat} (h : Cl g) : Cl (newN g n len sz) := by
  intro m hm j w hw
  have e : gR (_root_.Jvm.Pilot.CFirstSecondsLaw_law_r1976_987aac.newN g n len sz) m j = if m = n then none else gR g m j := rfl
  rw [e] at hw
  split at hw
  · cases hw
  · rename_i hmn
    have hm2 : m ∈ gL g ++ [n] := hm
    rcases List.mem_append.mp hm2 with h2 | h2
    · rcases h m h2 j w hw with h3 | h3
      · exact Or.inl (List.mem_append_left _ h3)
      · exact Or.inr h3
    · exact absurd (List.mem_singleton.mp h2) hmn
def FLN (own : String) (ix c : Nat) : Prop := ∃ (C : String) (T : u_T) (N : Nat) (ty : Nat → FieldType), (vwCl[c]? = some (C, T, N) ∧ c < 11 ∧ N = (flds c).length) ∧ (∀ k, k < N → parseFieldDescriptor (T k).2.2.1 = some (ty k)) ∧ (∀ j, j < N → ∀ b, (flds c)[j]? = some b → defaultValue (ty j) = if b = true then .null else .int 0) ∧ (∀ w ∈ u_ws C T N, w ∈ lw_tbl ∧ okW w = true) ∧
  (Cond.classLink own ix C ∈ lw_tbl ∧ okW (Cond.classLink own ix C) = true) ∧ (Cond.instantiable C N ∈ lw_tbl ∧ okW (Cond.instantiable C N) = true) ∧ (Cond.initialized C ∈ lw_tbl ∧ okW (Cond.initialized C) = true)
section MRU
variable {ρ : Type} {y : MethodName} {cc : ByteArray} {nL : Nat} {rt : Option FieldType} {rf rl : Nat} {X : Xt ρ} {g : Hp} {pc : Nat} {lv lv' : List (Nat × SV)} {st : List SV} {pr pr2 : Option (ρ × Hp)}
theorem J.n {pc' : Nat} {st' : List SV} {n : Nm} {len sz : Nat} (hn : n ∉ gL g) (hnx : ¬ isX n) (hW : ∀ (p : Program) (l : Launch) (e : Env) (s : State) (m : MethodId) (args : Array Value) (below : List Frame) (meth : Method) (c : Code) (R : Room) (H : Heap) (locs : List Loc) (cells slots : Nat) (Q : State → Prop) (D : va_G) (cs : ClassId × ClassId × ClassId) (A : Nat → Prop) (ad : Nm → Nat) (ls : Array Slot),
      p.tables.exec = Jvm.exec → c.code = cc → s.vm.findClass y.cls = some m.cls → TB s → va_K D vwCl (tyl cs) s → EX ad A s s.heap → (∀ q : Nat, s.heap.size ≤ q → A q) → cells + 1 ≤ R.cells ∧ slots + sz ≤ R.slots → va_P D vwCl (wld cs ad g) H → va_D A (wld cs ad g) → va_S A s.heap H locs →
      (∀ q H1, va_P D vwCl (wld cs ad g ++ [(q, ent cs (upn ad n q) (newN g n len sz) n)]) H1 → va_D A (wld cs ad g ++ [(q, ent cs (upn ad n q) (newN g n len sz) n)]) → va_S A s.heap H1 locs → W p l e R s m args below meth c H1 locs (cells + 1) (slots + sz) Q (F0 m pc' ls (.ref q :: stm ad st'))) → W p l e R s m args below meth c H locs cells slots Q (F0 m pc ls (stm ad st)))
    (hok : oks g st → oks g st') (k : J y cc nL rt rf rl X (newN g n len sz) pc' lv (sR (some n) :: st') pr) : J y cc nL rt rf rl X g pc lv st pr := by
  obtain ⟨⟨p, l, e, s, m, args, below, meth, c⟩, ⟨D, cs, A⟩, ad0, g0, RF, QF⟩ := X
  intro r g' h
  obtain ⟨a, b⟩ := k r g' h
  have hM1 : Mn g (newN g n len sz) := ⟨Nat.le_succ _, Nat.le_add_right _ _, fun w hw => List.mem_append_left _ hw⟩
  have a' := hM1.tr a
  refine ⟨a', fun hG hM hc ad H locs ls h1 h2 h3 h4 h5 h6 h7 h0 => ?_⟩
  obtain ⟨x1, x2, x3, x4, x5, x6, x7, x8, x9, x10, x11, x12⟩ := id hG
  have b1 : gc (newN g n len sz) = gc g + 1 := rfl
  have b2 : gs (newN g n len sz) = gs g + sz := rfl
  have hcc : gc g - gc g0 + 1 ≤ (RF g').cells ∧ gs g - gs g0 + sz ≤ (RF g').slots := by
    have c1 := a.1
    have c2 := a.2.1
    rw [b1] at c1
    rw [b2] at c2
    have c3 := hM.1
    have c4 := hM.2.1
    constructor
    · refine Nat.le_trans ?_ hc.1; omega
    · refine Nat.le_trans ?_ hc.2; omega
  refine hW p l e s m args below meth c _ H locs _ _ _ D cs A ad ls x1 x2 x4 x8 x9 (x11.ad (h1 _ (Or.inr (Or.inl rfl))) (h1 _ (Or.inr (Or.inr (Or.inr rfl))))) x10 hcc h2 h3 h4 (fun q H1 q2 q3 q4 => ?_)
  rw [← wnew h0 hn hnx] at q2 q3
  have hag : Ag g ad (upn ad n q) := fun w hw => by
    have : w ≠ n := fun e => hw.elim (fun z => hn (e ▸ z)) (fun z => hnx (e ▸ z))
    simp [upn, this]
  have hag0 : Ag g0 ad0 (upn ad n q) := fun w hw => by
    rw [hag w (hw.elim (fun z => Or.inl (hM.2.2 w z)) Or.inr)]
    exact h1 w hw
  have hk := b hG (hM.tr hM1) hc (upn ad n q) H1 locs ls hag0 q2 q3 q4 (by rw [lvm_ag hag h6]; exact h5) (h6.mn hM1) (((hok h7).mn hM1).cons (v := sR (some n)) (fun w hw => by cases hw; exact Or.inl (List.mem_append_right _ List.mem_cons_self))) h0.newN
  have e1 : stm (upn ad n q) (sR (some n) :: st') = .ref q :: stm ad st' := by
    show va_rf (some (upn ad n q n)) :: stm (upn ad n q) st' = _
    rw [stm_ag hag (hok h7)]
    simp [upn, va_rf]
  rw [e1, b1, b2] at hk
  have e2 : gc g + 1 - gc g0 = gc g - gc g0 + 1 := by have := hM.1; omega
  have e3 : gs g + sz - gs g0 = gs g - gs g0 + sz := by have := hM.2.1; omega
  rw [e2, e3] at hk
  exact hk
theorem notX_lt {n : Nm} (h : n.1 < 17) : ¬ isX n := by rintro (e | e | e) <;> subst e <;> exact absurd h (by decide)
theorem notX_ge {n : Nm} (h : 20 ≤ n.1) : ¬ isX n := by rintro (e | e | e) <;> subst e <;> exact absurd h (by decide)
theorem j_mkO {own : String} {ix c : Nat} {n : Nm} {F : Option Nm × Hp → Option (ρ × Hp)} (hd : decode cc pc = .ok (.new ix, 3)) (hF : FLN own ix c) (ho : own = y.cls) (hp : pr = (mkO n c g).bind F) (kk : ∀ r g1, J y cc nL rt rf rl X g1 (pc + 3) lv (sR r :: st) (F (r, g1))) : J y cc nL rt rf rl X g pc lv st pr := by
  subst hp
  obtain ⟨C, T, N, ty, ⟨a1, a2, a3⟩, a4, a5, a6, a7, a8, a9⟩ := hF
  by_cases hn : n.1 = c ∧ n ∉ gL g
  · have e : (mkO n c g).bind F = F (some n, newN g n 0 (flds c).length) := by simp [mkO, hn]
    refine J.eq e (J.n hn.2 (notX_lt (by omega)) (fun p l e s m args below meth c0 R H locs cells slots Q D cs A ad ls hx hb hw htb hK hE hA hC hP hD hS K0 => ?_) (fun h => h) (kk _ _))
    have hent : ∀ q, ent cs (upn ad n q) (newN g n 0 (flds c).length) n = .inr (c, (flds c).mapIdx (fun _ b => if b = true then .null else .int 0)) := by
      intro q
      rw [ent_o (by omega), hn.1]
      congr 2
      congr 1
      funext k b
      simp [fv, newN, gI, gR, va_rf]
    simp only [hent] at K0
    subst a3
    exact va_new (Ts := u_ws C T (flds c).length) hx hb (fun w hw2 => htb w (a6 w hw2).1 (a6 w hw2).2 args) (fun _ h => h) ty a4 (by rw [ho]; exact hw) (htb _ a7.1 a7.2 args) (htb _ a8.1 a8.2 args) (htb _ a9.1 a9.2 args) hK hP hD hS hA a1 (fun j hj => by
      have hb2 := List.getElem?_eq_getElem hj
      rw [a5 j hj _ hb2]
      simp [vp_V, List.getD_eq_getElem?_getD, List.getElem?_mapIdx, hb2]) hC.1 hC.2 hd K0
  · have e : (mkO n c g).bind F = none := by simp only [mkO, if_neg hn, Option.bind_none]
    exact J.eq e J.none
theorem j_mkI {n : Nm} {len : Int32} {F : Option Nm × Hp → Option (ρ × Hp)} (hd : decode cc pc = .ok (.newarray .int, 2)) (hw0 : Cond.arrayClass .int ∈ lw_tbl) (hp : pr = (mkI n len g).bind F) (kk : ∀ r g1, J y cc nL rt rf rl X g1 (pc + 2) lv (sR r :: st) (F (r, g1))) : J y cc nL rt rf rl X g pc lv (sI len :: st) pr := by
  subst hp
  by_cases hn : (20 ≤ n.1 ∧ n.1 < 60) ∧ n ∉ gL g ∧ ¬ len < 0 ∧ len.toNatClampNeg ≤ 100000
  · have e : (mkI n len g).bind F = F (some n, newN g n len.toNatClampNeg len.toNatClampNeg) := by simp only [mkI, if_pos hn, Option.bind_some]
    refine J.eq e (J.n hn.2.1 (notX_ge hn.1.1) (fun p l e s m args below meth c0 R H locs cells slots Q D cs A ad ls hx hb hw htb hK hE hA hC hP hD hS K0 => ?_) (fun h => h.tail) (kk _ _))
    have hent : ∀ q, ent cs (upn ad n q) (newN g n len.toNatClampNeg len.toNatClampNeg) n = .inl (cs.1, len.toNatClampNeg, .inl (fun _ => 0)) := by
      intro q
      rw [ent_i hn.1.1 hn.1.2]
      simp [newN, gI, gN]
    simp only [hent] at K0
    refine va_newa (atype := .int) (ty := .int) (a0 := (len.toNatClampNeg, .inl (fun _ => 0))) hx hb (htb _ hw0 rfl args) rfl hK hP hD hS hA (fun _ => rfl) hn.2.2.1 rfl (by have := hn.2.2.2; have e : componentBytes FieldType.int = 4 := rfl; rw [e]; omega) hC.1 hC.2 hd (fun q cA H1 k1 k2 k3 k4 => ?_)
    have e1 : va_RA s cs.1 .int := (hK.2 0 _ rfl).2
    have e2 : va_RA s cA .int := (k1.2 3 _ rfl).2
    have e3 : cA = cs.1 := Option.some.inj (e2.symm.trans e1)
    subst e3
    exact K0 q H1 k2 k3 k4
  · have e : (mkI n len g).bind F = none := by simp only [mkI, if_neg hn, Option.bind_none]
    exact J.eq e J.none
theorem j_mkZ {n : Nm} {len : Int32} {F : Option Nm × Hp → Option (ρ × Hp)} (hd : decode cc pc = .ok (.newarray .boolean, 2)) (hw0 : Cond.arrayClass .boolean ∈ lw_tbl) (hp : pr = (mkZ n len g).bind F) (kk : ∀ r g1, J y cc nL rt rf rl X g1 (pc + 2) lv (sR r :: st) (F (r, g1))) : J y cc nL rt rf rl X g pc lv (sI len :: st) pr := by
  subst hp
  by_cases hn : 60 ≤ n.1 ∧ n ∉ gL g ∧ ¬ len < 0 ∧ len.toNatClampNeg ≤ 100000
  · have e : (mkZ n len g).bind F = F (some n, newN g n len.toNatClampNeg len.toNatClampNeg) := by simp only [mkZ, if_pos hn, Option.bind_some]
    refine J.eq e (J.n hn.2.1 (notX_ge (by omega)) (fun p l e s m args below meth c0 R H locs cells slots Q D cs A ad ls hx hb hw htb hK hE hA hC hP hD hS K0 => ?_) (fun h => h.tail) (kk _ _))
    have hent : ∀ q, ent cs (upn ad n q) (newN g n len.toNatClampNeg len.toNatClampNeg) n = .inl (cs.2.1, len.toNatClampNeg, .inl (fun _ => 0)) := by
      intro q
      rw [ent_z hn.1]
      simp [newN, gI, gN]
    simp only [hent] at K0
    refine va_newa (atype := .boolean) (ty := .boolean) (a0 := (len.toNatClampNeg, .inl (fun _ => 0))) hx hb (htb _ hw0 rfl args) rfl hK hP hD hS hA (fun _ => rfl) hn.2.2.1 rfl (by have := hn.2.2.2; have e : componentBytes FieldType.boolean = 1 := rfl; rw [e]; omega) hC.1 hC.2 hd (fun q cA H1 k1 k2 k3 k4 => ?_)
    have e1 : va_RA s cs.2.1 .boolean := (hK.2 1 _ rfl).2
    have e2 : va_RA s cA .boolean := (k1.2 3 _ rfl).2
    have e3 : cA = cs.2.1 := Option.some.inj (e2.symm.trans e1)
    subst e3
    exact K0 q H1 k2 k3 k4
  · have e : (mkZ n len g).bind F = none := by simp only [mkZ, if_neg hn, Option.bind_none]
    exact J.eq e J.none
theorem j_mkR {own : String} {ix : Nat} {n : Nm} {len : Int32} {F : Option Nm × Hp → Option (ρ × Hp)} (hd : decode cc pc = .ok (.anewarray ix, 3)) (ho : own = y.cls) (hw0 : Cond.classLink own ix "java/lang/Object" ∈ lw_tbl) (hp : pr = (mkR n len g).bind F) (kk : ∀ r g1, J y cc nL rt rf rl X g1 (pc + 3) lv (sR r :: st) (F (r, g1))) : J y cc nL rt rf rl X g pc lv (sI len :: st) pr := by
  subst hp
  by_cases hn : (12 ≤ n.1 ∧ n.1 < 17) ∧ n ∉ gL g ∧ ¬ len < 0 ∧ len.toNatClampNeg ≤ 100000
  · have e : (mkR n len g).bind F = F (some n, newN g n len.toNatClampNeg len.toNatClampNeg) := by simp only [mkR, if_pos hn, Option.bind_some]
    refine J.eq e (J.n hn.2.1 (notX_lt hn.1.2) (fun p l e s m args below meth c0 R H locs cells slots Q D cs A ad ls hx hb hw htb hK hE hA hC hP hD hS K0 => ?_) (fun h => h.tail) (kk _ _))
    have hent : ∀ q, ent cs (upn ad n q) (newN g n len.toNatClampNeg len.toNatClampNeg) n = .inl (cs.2.2, len.toNatClampNeg, .inr (.inr (.inr (.inr (fun _ => none))))) := by
      intro q
      rw [ent_r hn.1.1 hn.1.2]
      simp [newN, gR, gN]
    simp only [hent] at K0
    refine va_newq (own := own) (C := "java/lang/Object") hx hb (by rw [ho]; exact hw) (htb _ hw0 rfl args) hE.2.2.2.1 hK hP hD hS hA hn.2.2.1 rfl (by have := hn.2.2.2; omega) hC.1 hC.2 hd (fun q cA H1 k1 k2 k3 k4 => ?_)
    obtain ⟨_, _, _, _, _, e1⟩ : va_RA s cs.2.2 (.object "java/lang/Object") := (hK.2 2 _ rfl).2
    obtain ⟨_, _, _, _, _, e2⟩ : va_RA s cA (.object "java/lang/Object") := (k1.2 3 _ rfl).2
    have e3 : cA = cs.2.2 := Option.some.inj (e2.symm.trans e1)
    subst e3
    exact K0 q H1 k2 k3 k4
  · have e : (mkR n len g).bind F = none := by simp only [mkR, if_neg hn, Option.bind_none]
    exact J.eq e J.none
end MRU
end
section
/-! stores of references, copies, tests of kinds, what the machine's own library does -/
def oC : Nat → String
  | 0 => "java/util/ArrayList"
  | 1 => "FirstSeconds$Heap"
  | 2 => "FirstSeconds$Message"
  | 3 => "FirstSeconds$Pick"
  | 4 => "FirstSeconds$Quake"
  | 5 => "FirstSeconds$Row"
  | 6 => "FirstSeconds$Station"
  | 7 => "FirstSeconds$Town"
  | 8 => "FirstSeconds$Travels"
  | 9 => "FirstSeconds"
  | _ => "FirstSecondsModel"
theorem vwCl_at : ∀ c, c < 11 → ∃ q : vw_C, vwCl[c]? = some q ∧ q.1 = oC c := by
  intro c hc
  rcases (show c = 0 ∨ c = 1 ∨ c = 2 ∨ c = 3 ∨ c = 4 ∨ c = 5 ∨ c = 6 ∨ c = 7 ∨ c = 8 ∨ c = 9 ∨ c = 10 by omega) with e | e | e | e | e | e | e | e | e | e | e <;> subst e <;> exact ⟨_, rfl, by decide +kernel⟩
theorem castO : ∀ c, c < 11 → Cond.castable (oC c) "java/lang/Object" ∈ lw_tbl := by
  intro c hc
  rcases (show c = 0 ∨ c = 1 ∨ c = 2 ∨ c = 3 ∨ c = 4 ∨ c = 5 ∨ c = 6 ∨ c = 7 ∨ c = 8 ∨ c = 9 ∨ c = 10 by omega) with e | e | e | e | e | e | e | e | e | e | e <;> subst e <;> decide +kernel
theorem anyO {cs : ClassId × ClassId × ClassId} {ad : Nm → Nat} {g : Hp} {s : State} {H : Heap} {D : va_G} {n : Nm} (htb : TB s) (hK : va_K D vwCl (tyl cs) s) (hP : va_P D vwCl (wld cs ad g) H) (hn : n ∈ gL g) (hc : n.1 < 11) : va_Any "java/lang/Object" s H (ad n) := by
  obtain ⟨q, hq, he⟩ := wat (cs := cs) (ad := ad) hn
  rw [ent_o hc] at he
  obtain ⟨w, h1, h2⟩ := vwCl_at n.1 hc
  have hcast := htb _ (castO n.1 hc) rfl #[]
  rw [← h2] at hcast
  obtain ⟨a, b, c1, c2, c3⟩ := Cond.castable_spec hcast
  refine va_rAny hK hP he h1 (fun comp c0 e1 e2 => ?_)
  cases e1.symm.trans c2
  cases e2.symm.trans c1
  exact c3
theorem ent_cpI {cs : ClassId × ClassId × ClassId} {ad : Nm → Nat} {g : Hp} {a b m : Nm} {sp dp n : Nat} (h : m ≠ b) : ent cs ad (cpI g a sp b dp n) m = ent cs ad g m := by
  have e1 : gI (cpI g a sp b dp n) m = gI g m := by funext j; simp [cpI, gI, h]
  have e2 : gR (cpI g a sp b dp n) = gR g := rfl
  have e3 : gN (cpI g a sp b dp n) = gN g := rfl
  have e4 : fv ad (cpI g a sp b dp n) m = fv ad g m := by funext j b; simp only [fv, e1, e2]
  simp only [ent, e1, e2, e3, e4]
theorem ent_cpR {cs : ClassId × ClassId × ClassId} {ad : Nm → Nat} {g : Hp} {a b m : Nm} {sp dp n : Nat} (h : m ≠ b) : ent cs ad (cpR g a sp b dp n) m = ent cs ad g m := by
  have e1 : gI (cpR g a sp b dp n) = gI g := rfl
  have e2 : gR (cpR g a sp b dp n) m = gR g m := by funext j; simp [cpR, gR, h]
  have e3 : gN (cpR g a sp b dp n) = gN g := rfl
  have e4 : fv ad (cpR g a sp b dp n) m = fv ad g m := by funext j b; simp only [fv, e1, e2]
  simp only [ent, e1, e2, e3, e4]
theorem cpy_map {α β : Type} (h : α → β) (f g : Nat → α) (sp dp n : Nat) : (fun j => h (va_cpy f g sp dp n j)) = va_cpy (fun j => h (f j)) (fun j => h (g j)) sp dp n := by
  funext j
  simp only [va_cpy]
  split <;> rfl
theorem Cl.cpR {g : Hp} {a b : Nm} {sp dp n : Nat} (h : Cl g) (ha : a ∈ gL g) : Cl (cpR g a sp b dp n) := by
  intro m hm j
  show okr g (if m = b then va_cpy (gR g a) (gR g b) sp dp n j else gR g m j)
  split
  · rename_i e
    subst e
    simp only [va_cpy]
    split
    · exact h a ha _
    · exact h m hm j
  · exact h m hm j
section ORU
variable {ρ : Type} {y : MethodName} {cc : ByteArray} {nL : Nat} {rt : Option FieldType} {rf rl : Nat} {X : Xt ρ} {g : Hp} {pc : Nat} {lv lv' : List (Nat × SV)} {st : List SV} {pr pr2 : Option (ρ × Hp)}
theorem j_astR {r v : Option Nm} {i : Int32} {F : Hp → Option (ρ × Hp)} (hd : decode cc pc = .ok (.aastore, 1)) (hp : pr = (astR r i v g).bind F) (kk : ∀ g1, J y cc nL rt rf rl X g1 (pc + 1) lv st (F g1)) : J y cc nL rt rf rl X g pc lv (sR v :: sI i :: sR r :: st) pr := by
  subst hp
  cases r with
  | none => exact J.none
  | some n =>
    cases v with
    | none => exact J.none
    | some w =>
      by_cases hn : (12 ≤ n.1 ∧ n.1 < 17) ∧ vp_in i (gN g n) ∧ w.1 < 11
      · have e : (astR (some n) i (some w) g).bind F = F (setR g n i.toNatClampNeg (some w)) := by simp only [astR, if_pos hn, Option.bind_some]
        refine J.eq e (J.w (g1 := setR g n i.toNatClampNeg (some w)) (fun p l e s m args below meth c0 R H locs cells slots Q D cs A ad ls hx hb hz hml hw hnm htb hK hE hR hC hP hD hS hol hos K0 => ?_) rfl ⟨rfl, rfl⟩ (fun h0 h => Cl.setR h0 h.head) (fun h => h.tail.tail.tail) (kk _))
        have hwin := okr_in hos.head (Or.inl (by omega))
        obtain ⟨q, hq, he⟩ := wat (cs := cs) (ad := ad) (okr_in hos.tail.tail.head (Or.inl hn.1.2))
        have hset := wset (cs := cs) (ad := ad) (g1 := setR g n i.toNatClampNeg (some w)) hD hq rfl (ent_r hn.1.1 hn.1.2) (fun m hm => ent_setR hm)
        rw [ent_r hn.1.1 hn.1.2] at he
        have e9 : (fun j => (gR (setR g n i.toNatClampNeg (some w)) n j).map ad) = va_up (fun j => (gR g n j).map ad) i.toNatClampNeg (some (ad w)) := by
          funext j
          simp only [setR, gR, va_up]
          by_cases hj : j = i.toNatClampNeg <;> simp [hj]
        have e8 : gN (setR g n i.toNatClampNeg (some w)) n = gN g n := rfl
        rw [e9, e8] at hset
        exact va_astqM hx hb hK hP hD hS q 2 he rfl (anyO htb hK hP hwin hn.2.2) hn.2.1 hd (by rw [← hset] at K0; exact K0)
      · have e : (astR (some n) i (some w) g).bind F = none := by simp only [astR, if_neg hn, Option.bind_none]
        exact J.eq e J.none
def FLA (own : String) (ix : Nat) : Prop := (Cond.methodLink own ix arraycopyName ∈ lw_tbl ∧ okW (Cond.methodLink own ix arraycopyName) = true) ∧ (Cond.native arraycopyName ∈ lw_tbl ∧ okW (Cond.native arraycopyName) = true) ∧ (Cond.static arraycopyName ∈ lw_tbl ∧ okW (Cond.static arraycopyName) = true) ∧ (Cond.initialized "java/lang/System" ∈ lw_tbl ∧ okW (Cond.initialized "java/lang/System") = true)
theorem stm_cat (ad : Nm → Nat) (st : List SV) : ((stm ad st).map fun v => v.category) = st.map sc := by
  simp only [stm, List.map_map]
  exact List.map_congr_left fun v _ => cv_cat ad v
theorem j_cpyI {own : String} {ix : Nat} {a b : Option Nm} {sp dp n : Int32} {F : Hp → Option (ρ × Hp)} (hd : decode cc pc = .ok (.invokestatic ix, 3)) (hF : FLA own ix) (ho : own = y.cls) (hr : 1 ≤ rf ∧ (st.map sc).sum + (nativeFrameWords "java/lang/System" "arraycopy" 5 + 11) ≤ rl) (hp : pr = (cpyI a sp b dp n g).bind F) (kk : ∀ g1, J y cc nL rt rf rl X g1 (pc + 3) lv st (F g1)) : J y cc nL rt rf rl X g pc lv (sI n :: sI dp :: sR b :: sI sp :: sR a :: st) pr := by
  subst hp
  cases a with
  | none => exact J.none
  | some u =>
    cases b with
    | none => exact J.none
    | some v =>
      by_cases hn : ((20 ≤ u.1 ∧ u.1 < 60) ∧ (20 ≤ v.1 ∧ v.1 < 60)) ∧ (¬ sp < 0 ∧ ¬ dp < 0 ∧ ¬ n < 0) ∧ sp.toNatClampNeg + n.toNatClampNeg ≤ gN g u ∧ dp.toNatClampNeg + n.toNatClampNeg ≤ gN g v
      · have e : (cpyI (some u) sp (some v) dp n g).bind F = F (cpI g u sp.toNatClampNeg v dp.toNatClampNeg n.toNatClampNeg) := by simp only [cpyI, if_pos hn, Option.bind_some]
        refine J.eq e (J.w (g1 := cpI g u sp.toNatClampNeg v dp.toNatClampNeg n.toNatClampNeg) (fun p l e s m args below meth c0 R H locs cells slots Q D cs A ad ls hx hb hz hml hw hnm htb hK hE hR hC hP hD hS hol hos K0 => ?_) rfl ⟨rfl, rfl⟩ (fun h0 h => h0) (fun h => h.tail.tail.tail.tail.tail) (kk _))
        have hu := okr_in hos.tail.tail.tail.tail.head (Or.inr hn.1.1.1)
        have hv := okr_in hos.tail.tail.head (Or.inr hn.1.2.1)
        obtain ⟨q, hq, he⟩ := wat (cs := cs) (ad := ad) hv
        obtain ⟨q0, hq0, he0⟩ := wat (cs := cs) (ad := ad) hu
        have hset := wset (cs := cs) (ad := ad) (g1 := cpI g u sp.toNatClampNeg v dp.toNatClampNeg n.toNatClampNeg) hD hq rfl (ent_i hn.1.2.1 hn.1.2.2) (fun m hm => ent_cpI hm)
        rw [ent_i hn.1.2.1 hn.1.2.2] at he
        rw [ent_i hn.1.1.1 hn.1.1.2] at he0
        have e9 : gI (cpI g u sp.toNatClampNeg v dp.toNatClampNeg n.toNatClampNeg) v = va_cpy (gI g u) (gI g v) sp.toNatClampNeg dp.toNatClampNeg n.toNatClampNeg := by
          funext j; simp [cpI, gI]
        have e8 : gN (cpI g u sp.toNatClampNeg v dp.toNatClampNeg n.toNatClampNeg) v = gN g v := rfl
        rw [e9, e8] at hset
        exact va_copyi (own := own) (ty := .int) hx hb (hml.trans hz.symm) (by rw [ho]; exact hw) (htb _ hF.1.1 hF.1.2 args) (htb _ hF.2.1.1 hF.2.1.2 args) (htb _ hF.2.2.1.1 hF.2.2.1.2 args) (htb _ hF.2.2.2.1 hF.2.2.2.2 args) hK hP hD hS q0 q 0 0 he0 he rfl rfl rfl hn.2.1.1 hn.2.1.2.1 hn.2.1.2.2 hn.2.2.1 hn.2.2.2 (fun _ _ => rfl) (by rw [hR.1]; exact hr.1) (by rw [hR.2]; have := hr.2; rw [← stm_cat ad st] at this; exact this) hd (by rw [← hset] at K0; exact K0)
      · have e : (cpyI (some u) sp (some v) dp n g).bind F = none := by simp only [cpyI, if_neg hn, Option.bind_none]
        exact J.eq e J.none
theorem j_cpyR {own : String} {ix : Nat} {a b : Option Nm} {sp dp n : Int32} {F : Hp → Option (ρ × Hp)} (hd : decode cc pc = .ok (.invokestatic ix, 3)) (hF : FLA own ix) (ho : own = y.cls) (hr : 1 ≤ rf ∧ (st.map sc).sum + (nativeFrameWords "java/lang/System" "arraycopy" 5 + 11) ≤ rl) (hp : pr = (cpyR a sp b dp n g).bind F) (kk : ∀ g1, J y cc nL rt rf rl X g1 (pc + 3) lv st (F g1)) : J y cc nL rt rf rl X g pc lv (sI n :: sI dp :: sR b :: sI sp :: sR a :: st) pr := by
  subst hp
  cases a with
  | none => exact J.none
  | some u =>
    cases b with
    | none => exact J.none
    | some v =>
      by_cases hn : ((12 ≤ u.1 ∧ u.1 < 17) ∧ (12 ≤ v.1 ∧ v.1 < 17)) ∧ (¬ sp < 0 ∧ ¬ dp < 0 ∧ ¬ n < 0) ∧ sp.toNatClampNeg + n.toNatClampNeg ≤ gN g u ∧ dp.toNatClampNeg + n.toNatClampNeg ≤ gN g v ∧ (∀ i, i < n.toNatClampNeg → ∀ w, gR g u (sp.toNatClampNeg + i) = some w → w.1 < 11)
      · have e : (cpyR (some u) sp (some v) dp n g).bind F = F (cpR g u sp.toNatClampNeg v dp.toNatClampNeg n.toNatClampNeg) := by simp only [cpyR, if_pos hn, Option.bind_some]
        refine J.eq e (J.wc (g1 := cpR g u sp.toNatClampNeg v dp.toNatClampNeg n.toNatClampNeg) (fun p l e s m args below meth c0 R H locs cells slots Q D cs A ad ls hx hb hz hml hw hnm htb hK hE hR hC hP hD hS hol hos h0 K0 => ?_) rfl ⟨rfl, rfl⟩ (fun h0 h => Cl.cpR h0 (okr_in h.tail.tail.tail.tail.head (Or.inl hn.1.1.2))) (fun h => h.tail.tail.tail.tail.tail) (kk _))
        have hu := okr_in hos.tail.tail.tail.tail.head (Or.inl hn.1.1.2)
        have hv := okr_in hos.tail.tail.head (Or.inl hn.1.2.2)
        obtain ⟨q, hq, he⟩ := wat (cs := cs) (ad := ad) hv
        obtain ⟨q0, hq0, he0⟩ := wat (cs := cs) (ad := ad) hu
        have hset := wset (cs := cs) (ad := ad) (g1 := cpR g u sp.toNatClampNeg v dp.toNatClampNeg n.toNatClampNeg) hD hq rfl (ent_r hn.1.2.1 hn.1.2.2) (fun m hm => ent_cpR hm)
        rw [ent_r hn.1.2.1 hn.1.2.2] at he
        rw [ent_r hn.1.1.1 hn.1.1.2] at he0
        have e9 : (fun j => (gR (cpR g u sp.toNatClampNeg v dp.toNatClampNeg n.toNatClampNeg) v j).map ad) = va_cpy (fun j => (gR g u j).map ad) (fun j => (gR g v j).map ad) sp.toNatClampNeg dp.toNatClampNeg n.toNatClampNeg := by
          rw [← cpy_map (fun r : Option Nm => r.map ad)]
          funext j; simp [cpR, gR]
        have e8 : gN (cpR g u sp.toNatClampNeg v dp.toNatClampNeg n.toNatClampNeg) v = gN g v := rfl
        rw [e9, e8] at hset
        refine va_copyM (own := own) (E1 := "java/lang/Object") hx hb (hml.trans hz.symm) (by rw [ho]; exact hw) (htb _ hF.1.1 hF.1.2 args) (htb _ hF.2.1.1 hF.2.1.2 args) (htb _ hF.2.2.1.1 hF.2.2.1.2 args) (htb _ hF.2.2.2.1 hF.2.2.2.2 args) hK hP hD hS q0 q 2 2 he0 he rfl rfl hn.2.1.1 hn.2.1.2.1 hn.2.1.2.2 hn.2.2.1 hn.2.2.2.1 (fun i hi z hz2 => ?_) (by rw [hR.1]; exact hr.1) (by rw [hR.2]; have := hr.2; rw [← stm_cat ad st] at this; exact this) hd (by rw [← hset] at K0; exact K0)
        cases hw2 : gR g u (sp.toNatClampNeg + i) with
        | none => rw [hw2] at hz2; cases hz2
        | some w =>
          rw [hw2] at hz2
          cases hz2
          have hc := hn.2.2.2.2 i hi w hw2
          exact anyO htb hK hP ((h0 u hu _ w hw2).elim (fun z => z) (fun z => absurd z (notX_lt (by omega)))) hc
      · have e : (cpyR (some u) sp (some v) dp n g).bind F = none := by simp only [cpyR, if_neg hn, Option.bind_none]
        exact J.eq e J.none
end ORU
end
section
/-! the empty row of the lists, kinds, casts, switches, Math -/
def gclas (r : Option Nm) : Option (Option Nm) := match r with
  | some n => if 12 ≤ n.1 ∧ n.1 < 17 then some (some (19, 0)) else none
  | none => none
def nnl {α : Type} (r : Option Nm) (pr : Option α) : Option α := match r with
  | some _ => pr
  | none => none
def imax (x z : Int32) : Int32 := if x < z then z else x
def imin (x z : Int32) : Int32 := if z < x then z else x
def iabs (x : Int32) : Int32 := if 0 ≤ x then x else 0 - x
def tsw {α : Type} (x : Int32) : List Int32 → List (Option α) → Option α → Option α
  | k :: ks, a :: as, d => if x = k then a else tsw x ks as d
  | _, _, d => d
def FLM (own : String) (ix : Nat) (nm : MethodName) (cd : ByteArray) (n : Nat) : Prop := (Cond.methodLink own ix nm ∈ lw_tbl ∧ okW (Cond.methodLink own ix nm) = true) ∧ (Cond.static nm ∈ lw_tbl ∧ okW (Cond.static nm) = true) ∧ (Cond.initialized "java/lang/Math" ∈ lw_tbl ∧ okW (Cond.initialized "java/lang/Math") = true) ∧ (Cond.code nm cd n (some .int) ∈ lw_tbl ∧ okW (Cond.code nm cd n (some .int)) = true)
def FLI (own : String) (ix : Nat) : Prop := (Cond.methodLink own ix objectInit ∈ lw_tbl ∧ okW (Cond.methodLink own ix objectInit) = true) ∧ (Cond.instanceMethod objectInit ∈ lw_tbl ∧ okW (Cond.instanceMethod objectInit) = true) ∧ (Cond.code objectInit ⟨#[0xb1]⟩ 1 none ∈ lw_tbl ∧ okW (Cond.code objectInit ⟨#[0xb1]⟩ 1 none) = true)
def gcN : MethodName := ⟨"java/lang/Object", "getClass", "()Ljava/lang/Class;"⟩
def FLG (own : String) (ix : Nat) : Prop := (Cond.methodLink own ix gcN ∈ lw_tbl ∧ okW (Cond.methodLink own ix gcN) = true) ∧ (Cond.selects "[Ljava/lang/Object;" gcN gcN ∈ lw_tbl ∧ okW (Cond.selects "[Ljava/lang/Object;" gcN gcN) = true) ∧ (Cond.instanceMethod gcN ∈ lw_tbl ∧ okW (Cond.instanceMethod gcN) = true) ∧ (Cond.native gcN ∈ lw_tbl ∧ okW (Cond.native gcN) = true)
section XRU
variable {ρ : Type} {y : MethodName} {cc : ByteArray} {nL : Nat} {rt : Option FieldType} {rf rl : Nat} {X : Xt ρ} {g : Hp} {pc : Nat} {lv lv' : List (Nat × SV)} {st : List SV} {pr pr2 : Option (ρ × Hp)}
def allJ {ρ : Type} (y : MethodName) (cc : ByteArray) (nL : Nat) (rt : Option FieldType) (rf rl : Nat) (X : Xt ρ) (g : Hp) (lv : List (Nat × SV)) (st : List SV) : List Nat → List (Option (ρ × Hp)) → Prop
  | t :: ts, a :: as => J y cc nL rt rf rl X g t lv st a ∧ allJ y cc nL rt rf rl X g lv st ts as
  | [], [] => True
  | _, _ => False
theorem allJ_at : ∀ (ts : List Nat) (as : List (Option (ρ × Hp))) (ks : List Int32) (D : Option (ρ × Hp)) (x : Int32), allJ y cc nL rt rf rl X g lv st ts as → ks.length = ts.length → (∃ j : Nat, ks[j]? = some x ∧ (∀ i : Nat, i < j → ks[i]? ≠ some x) ∧ ∃ t, ts[j]? = some t ∧ J y cc nL rt rf rl X g t lv st (tsw x ks as D)) ∨ ((∀ k ∈ ks, x ≠ k) ∧ tsw x ks as D = D)
  | [], [], ks, D, x, _, hl => by
    have : ks = [] := List.length_eq_zero_iff.mp hl
    subst this
    exact Or.inr ⟨fun _ h => absurd h List.not_mem_nil, rfl⟩
  | [], _ :: _, _, _, _, h, _ => h.elim
  | _ :: _, [], _, _, _, h, _ => h.elim
  | t :: ts, a :: as, ks, D, x, h, hl => by
    cases ks with
    | nil => simp at hl
    | cons k ks =>
      by_cases hx : x = k
      · refine Or.inl ⟨0, by simp [hx], fun i hi => absurd hi (Nat.not_lt_zero i), t, rfl, ?_⟩
        have e : tsw x (k :: ks) (a :: as) D = a := by simp [tsw, hx]
        rw [e]
        exact h.1
      · have e : tsw x (k :: ks) (a :: as) D = tsw x ks as D := by simp [tsw, hx]
        rw [e]
        rcases allJ_at ts as ks D x h.2 (by simpa using hl) with ⟨j, h1, h2, t', h3, h4⟩ | ⟨h1, h2⟩
        · refine Or.inl ⟨j + 1, by simpa using h1, fun i hi => ?_, t', by simpa using h3, h4⟩
          cases i with
          | zero => simpa using fun q : k = x => hx q.symm
          | succ i => simpa using h2 i (by omega)
        · exact Or.inr ⟨fun k' hk => (List.mem_cons.mp hk).elim (fun q => q ▸ hx) (h1 k'), h2⟩
theorem j_tsw {dflt lo hi : Int} {offs : Array Int} {len td : Nat} {x : Int32} {ks : List Int32} {ts : List Nat} {as : List (Option (ρ × Hp))} {D : Option (ρ × Hp)} (hd : decode cc pc = .ok (.tableswitch dflt lo hi offs, len)) (h1 : ks.map (fun k => k.toInt) = (List.range ks.length).map (fun j : Nat => lo + (j : Int))) (h2 : hi = lo + (ks.length : Int) - 1) (h3 : offs.toList.map (fun o => (pc : Int) + o) = ts.map (fun t : Nat => (t : Int))) (h4 : ks.length = ts.length) (h5 : (pc : Int) + dflt = (td : Int)) (hp : pr = tsw x ks as D) (kD : J y cc nL rt rf rl X g td lv st D) (kk : allJ y cc nL rt rf rl X g lv st ts as) : J y cc nL rt rf rl X g pc lv (sI x :: st) pr := by
  subst hp
  have hkey : ∀ j, j < ks.length → ∀ k, ks[j]? = some k → k.toInt = lo + (j : Int) := by
    intro j hj k hk
    have e := congrArg (fun l : List Int => l[j]?) h1
    have hk2 := (List.getElem?_eq_some_iff.mp hk).2
    simpa [List.getElem?_map, hk2, hj] using e
  rcases allJ_at ts as ks D x kk h4 with ⟨j, a1, a2, t, a3, a4⟩ | ⟨a1, a2⟩
  · refine J.s (pc' := t) (st' := st) (fun _ _ _ _ _ _ _ _ _ _ _ _ _ _ _ ad ls hx hb hw htb hl K0 => ?_) (fun _ h => h.tail) a4
    have hj : j < ks.length := (List.getElem?_eq_some_iff.mp a1).1
    have hv := hkey j hj x a1
    have ho : offs[j]? = some ((t : Int) - pc) := by
      have e := congrArg (fun l : List Int => l[j]?) h3
      simp only [List.getElem?_map, a3, Option.map_some, Array.getElem?_toList] at e
      cases hq : offs[j]? with
      | none => rw [hq] at e; cases e
      | some o => rw [hq] at e; simp at e; congr 1; omega
    exact lv_tableIn (off := (t : Int) - pc) (tgt := t) hx hb hd (by omega) (by omega) (by rw [hv]; have : (lo + (j : Int) - lo).toNat = j := by omega
                                                                                           rw [this]; exact ho) (by omega) K0
  · rw [a2]
    refine J.s (pc' := td) (st' := st) (fun _ _ _ _ _ _ _ _ _ _ _ _ _ _ _ ad ls hx hb hw htb hl K0 => ?_) (fun _ h => h.tail) kD
    refine lv_tableOut hx hb hd ?_ h5 K0
    by_cases q1 : x.toInt < lo
    · exact Or.inl q1
    · right
      by_cases q2 : hi < x.toInt
      · exact q2
      · exfalso
        have hj : (x.toInt - lo).toNat < ks.length := by omega
        have hk := List.getElem?_eq_getElem hj
        have hv := hkey _ hj _ hk
        have : x = ks[(x.toInt - lo).toNat] := Int32.toInt_inj.mp (by rw [hv]; omega)
        exact a1 _ (List.getElem_mem hj) this
theorem j_gdef {own : String} {ix : Nat} (hd : decode cc pc = .ok (.getstatic ix, 3)) (ho : own = y.cls) (hw0 : Cond.fieldLink own ix "java/util/ArrayList" "DEFAULTCAPACITY_EMPTY_ELEMENTDATA" "[Ljava/lang/Object;" ∈ lw_tbl) (k : J y cc nL rt rf rl X g (pc + 3) lv (sR (some (17, 0)) :: st) pr) : J y cc nL rt rf rl X g pc lv st pr :=
  J.r (fun p l e s m args below meth c0 R H locs cells slots Q D cs A ad ls hx hb hz hml hw htb hK hE hR hC hP hD hS hol hos K0 => va_gets (own := own) hx hb hE.1 hS (by rw [ho]; exact hw) (htb _ hw0 rfl args) (fun _ h => h) hd K0) (fun _ h => h.cons (v := sR (some (17, 0))) (fun n hn => by cases hn; exact Or.inr (Or.inl rfl))) k
theorem j_ldcC {own : String} {ix : Nat} (hd : decode cc pc = .ok (.ldc ix, 2)) (ho : own = y.cls) (hw0 : Cond.classLink own ix "[Ljava/lang/Object;" ∈ lw_tbl) (k : J y cc nL rt rf rl X g (pc + 2) lv (sR (some (19, 0)) :: st) pr) : J y cc nL rt rf rl X g pc lv st pr :=
  J.r (fun p l e s m args below meth c0 R H locs cells slots Q D cs A ad ls hx hb hz hml hw htb hK hE hR hC hP hD hS hol hos K0 => va_ldcM (own := own) hx hb (by rw [ho]; exact hw) (htb _ hw0 rfl args) hE.2.2.1 hd K0) (fun _ h => h.cons (v := sR (some (19, 0))) (fun n hn => by cases hn; exact Or.inr (Or.inr (Or.inr rfl)))) k
theorem j_gclas {own : String} {ix : Nat} {r : Option Nm} {F : Option Nm → Option (ρ × Hp)} (hd : decode cc pc = .ok (.invokevirtual ix, 3)) (hF : FLG own ix) (ho : own = y.cls) (hr : 1 ≤ rf ∧ (st.map sc).sum + 14 ≤ rl) (hp : pr = (gclas r).bind F) (kk : ∀ x, J y cc nL rt rf rl X g (pc + 3) lv (sR x :: st) (F x)) : J y cc nL rt rf rl X g pc lv (sR r :: st) pr := by
  subst hp
  cases r with
  | none => exact J.none
  | some n =>
    by_cases hn : 12 ≤ n.1 ∧ n.1 < 17
    · have e : (gclas (some n)).bind F = F (some (19, 0)) := by simp [gclas, hn]
      refine J.eq e (J.r (fun p l e s m args below meth c0 R H locs cells slots Q D cs A ad ls hx hb hz hml hw htb hK hE hR hC hP hD hS hol hos K0 => ?_) (fun _ h => h.tail.cons (v := sR (some (19, 0))) (fun n hn => by cases hn; exact Or.inr (Or.inr (Or.inr rfl)))) (kk _))
      obtain ⟨q, hq, he⟩ := wat (cs := cs) (ad := ad) (okr_in hos.head (Or.inl hn.2))
      rw [ent_r hn.1 hn.2] at he
      obtain ⟨_, _, _, _, _, e1⟩ : va_RA s cs.2.2 (.object "java/lang/Object") := (hK.2 2 _ rfl).2
      refine va_getC (own := own) (C := "[Ljava/lang/Object;") hx hb (hml.trans hz.symm) (by rw [ho]; exact hw) (htb _ hF.1.1 hF.1.2 args) (va_Dc.use hE.2.2.2.2) (htb _ hF.2.1.1 hF.2.1.2 args) (htb _ hF.2.2.1.1 hF.2.2.1.2 args) (htb _ hF.2.2.2.1 hF.2.2.2.2 args) hE.2.2.1 ⟨_, hP q _ he, rfl, ?_⟩ (by rw [hR.1]; exact hr.1) (by rw [hR.2]; have := hr.2; rw [← stm_cat ad st] at this; exact this) hd K0
      exact e1
    · have e : (gclas (some n)).bind F = none := by simp [gclas, hn]
      exact J.eq e J.none
theorem j_cst {own : String} {ix c : Nat} {r : Option Nm} {P : Option (ρ × Hp)} (hd : decode cc pc = .ok (.checkcast ix, 3)) (ho : own = y.cls) (hc : c < 11) (hw0 : Cond.classLink own ix (oC c) ∈ lw_tbl) (hp : pr = cst r c P) (kk : J y cc nL rt rf rl X g (pc + 3) lv (sR r :: st) P) : J y cc nL rt rf rl X g pc lv (sR r :: st) pr := by
  subst hp
  cases r with
  | none => exact J.s (fun _ _ _ _ _ _ _ _ _ _ _ _ _ _ _ ad ls hx hb hw htb hl K0 => lv_castN hx hb hd K0) (fun _ h => h) kk
  | some n =>
    by_cases hn : n.1 = c
    · have e : cst (some n) c P = P := by simp [cst, hn]
      refine J.eq e (J.r (fun p l e s m args below meth c0 R H locs cells slots Q D cs A ad ls hx hb hz hml hw htb hK hE hR hC hP hD hS hol hos K0 => ?_) (fun _ h => h) kk)
      obtain ⟨w, a1, a2⟩ := vwCl_at c hc
      obtain ⟨q, hq, he⟩ := wat (cs := cs) (ad := ad) (okr_in hos.head (Or.inl (by omega)))
      rw [ent_o (by omega), hn] at he
      have h3 := va_recv hK hP a1 he
      rw [a2] at h3
      have h4 := (hK.1 c w a1).2
      rw [a2] at h4
      exact va_castS (own := own) hx hb (by rw [ho]; exact hw) (htb _ hw0 rfl args) h4 h3 hd K0
    · have e : cst (some n) c P = none := by simp [cst, hn]
      exact J.eq e J.none
theorem j_csA {own : String} {ix : Nat} {r : Option Nm} {P : Option (ρ × Hp)} (hd : decode cc pc = .ok (.checkcast ix, 3)) (ho : own = y.cls) (hw0 : Cond.classLink own ix "[Ljava/lang/Object;" ∈ lw_tbl) (hp : pr = csA r P) (kk : J y cc nL rt rf rl X g (pc + 3) lv (sR r :: st) P) : J y cc nL rt rf rl X g pc lv (sR r :: st) pr := by
  subst hp
  cases r with
  | none => exact J.none
  | some n =>
    by_cases hn : 12 ≤ n.1 ∧ n.1 < 17
    · have e : csA (some n) P = P := by simp [csA, hn]
      refine J.eq e (J.r (fun p l e s m args below meth c0 R H locs cells slots Q D cs A ad ls hx hb hz hml hw htb hK hE hR hC hP hD hS hol hos K0 => ?_) (fun _ h => h) kk)
      obtain ⟨q, hq, he⟩ := wat (cs := cs) (ad := ad) (okr_in hos.head (Or.inl hn.2))
      rw [ent_r hn.1 hn.2] at he
      obtain ⟨_, _, _, _, _, e1⟩ : va_RA s cs.2.2 (.object "java/lang/Object") := (hK.2 2 _ rfl).2
      exact va_castA (own := own) (nm := "[Ljava/lang/Object;") hx hb (by rw [ho]; exact hw) (htb _ hw0 rfl args) hP q he e1 hd K0
    · have e : csA (some n) P = none := by simp [csA, hn]
      exact J.eq e J.none
theorem acm_ne {cs : ClassId × ClassId × ClassId} {ad : Nm → Nat} {A : Nat → Prop} {s : State} (hD : va_D A (wld cs ad g)) (hE : EX ad A s s.heap) {r q : Option Nm} (h : r ≠ q) (hr : ∀ n, r = some n → n ∈ gL g ∨ n = (17, 0)) (hq : ∀ n, q = some n → n ∈ gL g ∨ n = (17, 0)) : r.map ad ≠ q.map ad := by
  have hnA : ¬ A (ad (17, 0)) := by
    obtain ⟨f, cell, _, _, _, _, _, _, h7⟩ := hE.2.1
    exact h7
  have hin : ∀ n, n ∈ gL g → A (ad n) := fun n hn => by
    obtain ⟨k, _, he⟩ := wat (cs := cs) (ad := ad) hn
    exact hD.2 k _ he
  cases r with
  | none => cases q with
    | none => exact absurd rfl h
    | some m => exact fun e => by cases e
  | some n => cases q with
    | none => exact fun e => by cases e
    | some m =>
      intro e
      have e2 : ad n = ad m := by simpa using e
      rcases hr n rfl with h1 | h1 <;> rcases hq m rfl with h2 | h2
      · exact h (by rw [winj hD h1 h2 e2])
      · exact hnA (by rw [← h2, ← e2]; exact hin n h1)
      · exact hnA (by rw [← h1, e2]; exact hin m h2)
      · exact h (by rw [h1, h2])
theorem j_acmp_ne {r q : Option Nm} {off : Int} {tgt : Nat} {a b : Option (ρ × Hp)} (hd : decode cc pc = .ok (.if_acmp .ne off, 3)) (ht : (pc : Int) + off = (tgt : Int)) (hp : pr = acm r q g b a) (kt : J y cc nL rt rf rl X g tgt lv st a) (kf : J y cc nL rt rf rl X g (pc + 3) lv st b) : J y cc nL rt rf rl X g pc lv (sR q :: sR r :: st) pr := by
  subst hp
  by_cases h1 : r = q
  · have e : acm r q g b a = b := by simp only [acm, if_pos h1]
    refine J.eq e (J.s (fun _ _ _ _ _ _ _ _ _ _ _ _ _ _ _ ad ls hx hb hw htb hl K0 => ?_) (fun _ h => h.tail.tail) kf)
    exact lv_acmp_ne hx hb hd ht (fun z => absurd (by rw [h1]) z) (fun _ => K0)
  · by_cases h2 : (∀ n, r = some n → n ∈ gL g ∨ n = (17, 0)) ∧ (∀ n, q = some n → n ∈ gL g ∨ n = (17, 0))
    · have e : acm r q g b a = a := by simp only [acm, if_neg h1, if_pos h2]
      refine J.eq e (J.r (fun p l e s m args below meth c0 R H locs cells slots Q D cs A ad ls hx hb hz hml hw htb hK hE hR hC hP hD hS hol hos K0 => ?_) (fun _ h => h.tail.tail) kt)
      exact lv_acmp_ne hx hb hd ht (fun _ => K0) (fun z => absurd z (acm_ne hD hE h1 h2.1 h2.2))
    · have e : acm r q g b a = none := by simp only [acm, if_neg h1, if_neg h2]
      exact J.eq e J.none
theorem j_oinit {own : String} {ix : Nat} {r : Option Nm} {P : Option (ρ × Hp)} (hd : decode cc pc = .ok (.invokespecial ix, 3)) (hF : FLI own ix) (ho : own = y.cls) (hr : 1 ≤ rf ∧ (st.map sc).sum + 12 ≤ rl) (hp : pr = nnl r P) (kk : J y cc nL rt rf rl X g (pc + 3) lv st P) : J y cc nL rt rf rl X g pc lv (sR r :: st) pr := by
  subst hp
  cases r with
  | none => exact J.none
  | some n =>
    refine J.r (fun p l e s m args below meth c0 R H locs cells slots Q D cs A ad ls hx hb hz hml hw htb hK hE hR hC hP hD hS hol hos K0 => ?_) (fun _ h => h.tail) kk
    refine W.objInit (own := own) hx hb (by rw [ho]; exact hw) (htb _ hF.1.1 hF.1.2 args) (htb _ hF.2.1.1 hF.2.1.2 args) (htb _ hF.2.2.1 hF.2.2.2 args) rfl (hz.trans hml.symm) (a := ad n) (rest := stm ad st) rfl hd (by rw [hR.1]; exact hr.1) ?_ K0
    rw [hR.2]
    have := hr.2
    rw [← stm_cat ad st] at this
    have e : (F0 m pc ls (Value.ref (ad n) :: stm ad st)).monitorRoom = 0 := rfl
    show 2 * (F0 m pc ls (Value.ref (ad n) :: stm ad st)).monitorRoom + _ + 12 ≤ rl
    rw [e]
    omega
theorem j_max {own : String} {ix : Nat} {x z : Int32} (hd : decode cc pc = .ok (.invokestatic ix, 3)) (hF : FLM own ix Lib.Math.max.name Lib.Math.max.code 2) (ho : own = y.cls) (hr : 1 ≤ rf ∧ (st.map sc).sum + 13 ≤ rl) (kk : J y cc nL rt rf rl X g (pc + 3) lv (sI (imax x z) :: st) pr) : J y cc nL rt rf rl X g pc lv (sI z :: sI x :: st) pr :=
  J.r (fun p l e s m args below meth c0 R H locs cells slots Q D cs A ad ls hx hb hz hml hw htb hK hE hR hC hP hD hS hol hos K0 => va_mmax (own := own) hx hb (hml.trans hz.symm) (by rw [ho]; exact hw) (htb _ hF.1.1 hF.1.2 args) (htb _ hF.2.1.1 hF.2.1.2 args) (htb _ hF.2.2.1.1 hF.2.2.1.2 args) (htb _ hF.2.2.2.1 hF.2.2.2.2 args) (by rw [hR.1]; exact hr.1) (by rw [hR.2]; have := hr.2; rw [← stm_cat ad st] at this; exact this) hC.1 hC.2 hd K0) (fun _ h => h.tail.tail.ci) kk
theorem j_min {own : String} {ix : Nat} {x z : Int32} (hd : decode cc pc = .ok (.invokestatic ix, 3)) (hF : FLM own ix Lib.Math.min.name Lib.Math.min.code 2) (ho : own = y.cls) (hr : 1 ≤ rf ∧ (st.map sc).sum + 13 ≤ rl) (kk : J y cc nL rt rf rl X g (pc + 3) lv (sI (imin x z) :: st) pr) : J y cc nL rt rf rl X g pc lv (sI z :: sI x :: st) pr :=
  J.r (fun p l e s m args below meth c0 R H locs cells slots Q D cs A ad ls hx hb hz hml hw htb hK hE hR hC hP hD hS hol hos K0 => va_mmin (own := own) hx hb (hml.trans hz.symm) (by rw [ho]; exact hw) (htb _ hF.1.1 hF.1.2 args) (htb _ hF.2.1.1 hF.2.1.2 args) (htb _ hF.2.2.1.1 hF.2.2.1.2 args) (htb _ hF.2.2.2.1 hF.2.2.2.2 args) (by rw [hR.1]; exact hr.1) (by rw [hR.2]; have := hr.2; rw [← stm_cat ad st] at this; exact this) hC.1 hC.2 hd K0) (fun _ h => h.tail.tail.ci) kk
theorem j_abs {own : String} {ix : Nat} {x : Int32} (hd : decode cc pc = .ok (.invokestatic ix, 3)) (hF : FLM own ix Lib.Math.abs.name Lib.Math.abs.code 1) (ho : own = y.cls) (hr : 1 ≤ rf ∧ (st.map sc).sum + 13 ≤ rl) (kk : J y cc nL rt rf rl X g (pc + 3) lv (sI (iabs x) :: st) pr) : J y cc nL rt rf rl X g pc lv (sI x :: st) pr :=
  J.r (fun p l e s m args below meth c0 R H locs cells slots Q D cs A ad ls hx hb hz hml hw htb hK hE hR hC hP hD hS hol hos K0 => va_mabs (own := own) hx hb (hml.trans hz.symm) (by rw [ho]; exact hw) (htb _ hF.1.1 hF.1.2 args) (htb _ hF.2.1.1 hF.2.1.2 args) (htb _ hF.2.2.1.1 hF.2.2.1.2 args) (htb _ hF.2.2.2.1 hF.2.2.2.2 args) (by rw [hR.1]; exact hr.1) (by rw [hR.2]; have := hr.2; rw [← stm_cat ad st] at this; exact this) hC.1 hC.2 hd K0) (fun _ h => h.tail.ci) kk
end XRU
end
section
/-! contracts, calls, ends -/
def PcF (D : va_G) (cs : ClassId × ClassId × ClassId) (ad : Nm → Nat) (g : Hp) (sz : Nat) : State → Prop := fun U => U.heap.size = sz ∧ va_P D vwCl (wld cs ad g) U.heap ∧ va_D (fun _ => True) (wld cs ad g) ∧ va_K D vwCl (tyl cs) U ∧ TB U ∧ EX ad (va_A (wld cs ad g) sz) U U.heap
def QcF {ρ : Type} (D : va_G) (cs : ClassId × ClassId × ClassId) (ad : Nm → Nat) (g : Hp) (A : Nat → Prop) (ret : ρ → Option SV) (r : ρ) (g1 : Hp) : Array Value → State → Outcome → State → Prop := fun _ st o t =>
  (∃ ad1, o = .returned ((ret r).map (cv ad1)) ∧ (∀ v, ret r = some v → okv g1 v) ∧ Cl g1 ∧ Ag g ad ad1 ∧ va_P D vwCl (wld cs ad1 g1) t.heap ∧ va_D A (wld cs ad1 g1)) ∧ va_F A st t
/-- what a method does: where its function has an answer, the method gives it -/
def FM {ρ : Type} (y : MethodName) (cc : ByteArray) (nL : Nat) (rt : Option FieldType) (rf rl : Nat) (ret : ρ → Option SV) (as : List SV) (g : Hp) (pr : Option (ρ × Hp)) : Prop :=
  ∀ (r : ρ) (g1 : Hp), pr = some (r, g1) → (Program × Launch × Env × State × MethodId × Array Value × List Frame × Method × Code → Mn g g1) ∧ ∀ (l : Launch) (D : va_G) (cs : ClassId × ClassId × ClassId) (ad : Nm → Nat) (sz : Nat), oks g as → Cl g →
    Met l y [Cond.code y cc nL rt] { frames := rf, cells := gc g1 - gc g, slots := gs g1 - gs g, locals := rl } (va_Pc (stm ad as) (PcF D cs ad g sz)) (QcF D cs ad g (va_A (wld cs ad g) sz) ret r g1) (gc g1 - gc g) (gs g1 - gs g) (va_A (wld cs ad g) sz)
abbrev rtI : Int32 → Option SV := fun x => some (sI x)
abbrev rtL : Int64 → Option SV := fun x => some (sL x)
abbrev rtR : Option Nm → Option SV := fun x => some (sR x)
abbrev rtV : Unit → Option SV := fun _ => none
def IsM {ρ : Type} (ret : ρ → Option SV) (X : Xt ρ) : Prop := match X with
  | ((_, _, _, s, _, args, below, _, _), (D, cs, A), ad0, g0, RF, QF) => (∀ r g1, QF r g1 = MQ below (QcF D cs ad0 g0 A ret r g1) args s (gc g1 - gc g0) (gs g1 - gs g0) A)
def lva : Nat → List SV → List (Nat × SV)
  | _, [] => []
  | i, v :: vs => (i, v) :: lva (i + sc v) vs
theorem lva_lv (ad : Nm → Nat) : ∀ (as : List SV) (i : Nat), lv_args i (stm ad as) = lvm ad (lva i as)
  | [], _ => rfl
  | v :: vs, i => by
    have := lva_lv ad vs (i + sc v)
    show (i, cv ad v) :: lv_args (if (cv ad v).category = 2 then i + 2 else i + 1) (stm ad vs) = (i, cv ad v) :: lvm ad (lva (i + sc v) vs)
    rw [cv_cat, ← this]
    rcases v with x | x | x <;> simp [sc]
theorem lg_len (ad : Nm → Nat) : ∀ (as : List SV), (lg_sl (stm ad as)).length = (as.map sc).sum
  | [] => rfl
  | v :: vs => by
    have ih := lg_len ad vs
    have e : lg_sl (stm ad (v :: vs)) = (if (cv ad v).category = 2 then [.val (cv ad v), .second] else [.val (cv ad v)]) ++ lg_sl (stm ad vs) := rfl
    rw [e, List.length_append, ih, cv_cat]
    rcases v with x | x | x <;> simp [sc]
theorem va_D.freeA {cs : ClassId × ClassId × ClassId} {ad : Nm → Nat} {g : Hp} {A : Nat → Prop} {z sz : Nat} (hD : va_D A (wld cs ad g)) (hA : ∀ q : Nat, z ≤ q → A q) (hz : z ≤ sz) : ∀ q, va_A (wld cs ad g) sz q → A q := by
  rintro q (⟨k, e, h⟩ | h)
  · exact hD.2 k _ h
  · exact hA q (Nat.le_trans hz h)
theorem FM.entry {ρ : Type} {y : MethodName} {cc : ByteArray} {nL : Nat} {rt : Option FieldType} {rf rl : Nat} {ret : ρ → Option SV} {as : List SV} {g : Hp} {pr : Option (ρ × Hp)} (hy : plainName y.cls = true) (hn : (as.map sc).sum ≤ nL) (hJ : ∀ X : Xt ρ, IsM ret X → J y cc nL rt rf rl X g 0 (lva 0 as) [] pr) : FM y cc nL rt rf rl ret as g pr := by
  intro r g1 h
  refine ⟨fun b => (hJ (b, ((fun _ => 0, fun _ _ => 0), (0, 0, 0), fun _ => True), (fun _ => 0), g, (fun _ => { frames := 0, cells := 0, slots := 0, locals := 0 }), (fun r g1 => MQ b.2.2.2.2.2.2.1 (QcF (fun _ => 0, fun _ _ => 0) (0, 0, 0) (fun _ => 0) g (fun _ => True) ret r g1) b.2.2.2.2.2.1 b.2.2.2.1 (gc g1 - gc g) (gs g1 - gs g) (fun _ => True))) (fun _ _ => rfl) r g1 h).1, fun l D cs ad sz hok hcl => ?_⟩
  refine Met.ofW (cc := cc) (maxL := nL) (ret := rt) hy rfl ?_
  intro p e s m args below meth c s₁ B hml hv
  obtain ⟨rfl, hsz, hP, hD0, hK, hTB, hE⟩ := hv
  subst hsz
  have hown : s.vm.findClass y.cls = some m.cls := findClass_of_methodNamed B.named
  have hl := lv_entry (stm ad as) (n := nL) (by rw [lg_len]; exact hn)
  rw [lg_entry_eq]
  generalize (lg_sl (stm ad as) ++ List.replicate (nL - (lg_sl (stm ad as)).length) Slot.unset).toArray = ls at hl ⊢
  rw [lva_lv] at hl
  let A := va_A (wld cs ad g) s.heap.size
  let RF : Hp → Room := fun g1 => { frames := rf, cells := gc g1 - gc g, slots := gs g1 - gs g, locals := rl }
  let QF : ρ → Hp → State → Prop := fun r g1 => MQ below (QcF D cs ad g A ret r g1) (stm ad as).toArray s (gc g1 - gc g) (gs g1 - gs g) A
  have hk := (hJ ((p, l, e, s, m, (stm ad as).toArray, below, meth, c), (D, cs, A), ad, g, RF, QF) (fun _ _ => rfl) r g1 h).2 ⟨B.exec, B.bytes, hml, hown, B.returns, B.notSynchronized, (name_of_methodNamed B.named B.method).1, hTB, hK, fun q hq => Or.inr hq, hE, fun _ => ⟨rfl, rfl⟩⟩ (Mn.rf g) ⟨Nat.le_refl _, Nat.le_refl _⟩ ad s.heap [] ls (fun _ _ => rfl) hP hD0.self va_S.rf hl (fun q hq => by
    have : ∀ (as : List SV) (i : Nat), oks g as → ∀ q ∈ lva i as, okv g q.2 := by
      intro as
      induction as with
      | nil => intro i _ q hq; cases hq
      | cons v vs ih => intro i ho q hq; rcases List.mem_cons.mp hq with e | e
                        · subst e; exact ho.head
                        · exact ih _ ho.tail q e
    exact this as 0 hok q hq) (fun v hv => by cases hv) hcl
  rw [Nat.sub_self, Nat.sub_self] at hk
  exact hk
end
section
/-! calls -/
def okC (y : MethodName) (np : Nat) : Prop := (y.cls ≠ "java/lang/invoke/MethodHandle" ∧ y.cls ≠ "java/lang/invoke/VarHandle") ∧ (parseMethodDescriptor y.desc).map (fun d => d.parameters.length) = some np
def FLC (own : String) (ix : Nat) (y : MethodName) (cc : ByteArray) (nL : Nat) (rt : Option FieldType) (np : Nat) : Prop := ((Cond.methodLink own ix y ∈ lw_tbl ∧ okW (Cond.methodLink own ix y) = true) ∨ ∃ host, Cond.methodLinkNest own ix y host ∈ lw_tbl) ∧ (Cond.code y cc nL rt ∈ lw_tbl ∧ okW (Cond.code y cc nL rt) = true) ∧ (Cond.initialized y.cls ∈ lw_tbl ∧ okW (Cond.initialized y.cls) = true) ∧ okC y np
def FLV (y : MethodName) (c : Nat) : Prop := c < 11 ∧ y.cls = oC c ∧ (Cond.instanceMethod y ∈ lw_tbl ∧ okW (Cond.instanceMethod y) = true) ∧ (Cond.selects (oC c) y y ∈ lw_tbl ∧ okW (Cond.selects (oC c) y y) = true)
def FLS (y : MethodName) : Prop := Cond.static y ∈ lw_tbl ∧ okW (Cond.static y) = true
def FLN0 (y : MethodName) : Prop := y.name = "<init>" ∧ Cond.instanceMethod y ∈ lw_tbl ∧ okW (Cond.instanceMethod y) = true
section CRU
variable {ρ : Type} {y : MethodName} {cc : ByteArray} {nL : Nat} {rt : Option FieldType} {rf rl : Nat} {X : Xt ρ} {g : Hp} {pc : Nat} {lv lv' : List (Nat × SV)} {st : List SV} {pr pr2 : Option (ρ × Hp)}
theorem J.call {σ : Type} {y2 : MethodName} {cc2 : ByteArray} {nL2 : Nat} {rt2 : Option FieldType} {rf2 rl2 : Nat} {ret2 : σ → Option SV} {as rest : List SV} {P : Option (σ × Hp)} {F : σ × Hp → Option (ρ × Hp)}
    (hM : FM y2 cc2 nL2 rt2 rf2 rl2 ret2 as g P)
    (hrun : ∀ (p : Program) (l : Launch) (e : Env) (s : State) (m : MethodId) (args : Array Value) (below : List Frame) (meth : Method) (c : Code) (R : Room) (H : Heap) (locs : List Loc) (cells slots : Nat) (D : va_G) (cs : ClassId × ClassId × ClassId) (ad : Nm → Nat) (ls : Array Slot) (Pc : Array Value → State → Prop) (Qc : Array Value → State → Outcome → State → Prop) (mc ms : Nat) (free : Addr → Prop) (rm : Room),
      p.tables.exec = Jvm.exec → c.code = cc → ls.size = nL → c.maxLocals = nL → s.vm.findClass y.cls = some m.cls → TB s → va_K D vwCl (tyl cs) s → va_P D vwCl (wld cs ad g) H → oks g st →
      Met l y2 [Cond.code y2 cc2 nL2 rt2] rm Pc Qc mc ms free → rm.cells = mc ∧ rm.slots = ms → rm.frames + 1 ≤ R.frames ∧ 8 + (nL2 + 11) + rm.locals ≤ R.locals → FrameBlind Pc → (∀ U : State, U.heap = H → s.WarmedH U.vm → Pc (stm ad as).toArray U) → cells + mc ≤ R.cells ∧ slots + ms ≤ R.slots →
      va_Run p l e R s m args below meth c H locs cells slots mc ms (F0 m pc ls (stm ad st)) (stm ad rest) (Qc (stm ad as).toArray) free)
    (hroom : rf2 + 1 ≤ rf ∧ 8 + (nL2 + 11) + rl2 ≤ rl) (hp : pr = P.bind F) (hst : oks g st → oks g as ∧ oks g rest)
    (kk : ∀ r g1, J y cc nL rt rf rl X g1 (pc + 3) lv ((ret2 r).toList ++ rest) (F (r, g1))) : J y cc nL rt rf rl X g pc lv st pr := by
  subst hp
  cases P with
  | none => exact J.none
  | some q =>
    obtain ⟨r2, g1⟩ := q
    refine J.eq (show (some (r2, g1)).bind F = F (r2, g1) from rfl) ?_
    have hk := kk r2 g1
    obtain ⟨hmn, hmet⟩ := hM r2 g1 rfl
    obtain ⟨⟨p, l, e, s, m, args, below, meth, c⟩, ⟨D, cs, A⟩, ad0, g0, RF, QF⟩ := X
    have hM1 := hmn (p, l, e, s, m, args, below, meth, c)
    intro r g' h
    obtain ⟨a, b⟩ := hk r g' h
    have a' := hM1.tr a
    refine ⟨a', fun hG hM hc ad H locs ls h1 h2 h3 h4 h5 h6 h7 h0 => ?_⟩
    obtain ⟨x1, x2, x3, x4, x5, x6, x7, x8, x9, x10, x11, x12⟩ := id hG
    have hs := hst h7
    have hE : EX ad A s s.heap := x11.ad (h1 _ (Or.inr (Or.inl rfl))) (h1 _ (Or.inr (Or.inr (Or.inr rfl))))
    have hfree := va_D.freeA (sz := H.size) h3 x10 h4.1
    have hmc : gc g - gc g0 + (gc g1 - gc g) ≤ (RF g').cells ∧ gs g - gs g0 + (gs g1 - gs g) ≤ (RF g').slots := by
      have c1 := hM.1; have c2 := hM.2.1; have c3 := hM1.1; have c4 := hM1.2.1; have c5 := a.1; have c6 := a.2.1; have c7 := hc.1; have c8 := hc.2
      constructor <;> omega
    have hrn := hrun p l e s m args below meth c (RF g') H locs (gc g - gc g0) (gs g - gs g0) D cs ad ls _ _ _ _ _ _ x1 x2 h5.1 x3 x4 x8 x9 h2 h7 (hmet l D cs ad H.size hs.1 h0) ⟨rfl, rfl⟩ (by rw [(x12 g').1, (x12 g').2]; exact hroom)
      (fun a2 U gg mk hq => by
        obtain ⟨q1, q2, q3, q4, q5, q6, q7⟩ := hq
        exact ⟨q1, q2, q3, q4, va_K.moved (u := U) (U := U.calling gg mk a2) (Vm.Alike.refl U.vm) q5, TB.warm (s := U) (U := U.calling gg mk a2) q6 (State.WarmedH.refl U), EX.moved (u := U) (U := U.calling gg mk a2) (Vm.Alike.refl U.vm) q7⟩)
      (fun U hU hW => ⟨rfl, by rw [hU], by rw [hU]; exact h2, h3.weaken (fun _ _ _ _ => trivial), va_K.moved hW.alike x9, x8.warm hW, by
        rw [hU]
        exact ((hE.kept (H1 := H) (fun q hq hn => h4.2.1 q hq hn)).narrow hfree).moved hW.alike⟩) hmc
    intro T hT X0
    obtain ⟨v, st₀, t, T', L, z0, X', hL, e1, e2, ⟨⟨ad1, hv, hok, hcl, hag, hP1, hD1⟩, hF⟩, stp⟩ := hrn T hT X0
    rw [← e1] at hP1
    have hmvm : s.vm.Alike T'.vm := X'.warmed.alike
    have hag0 : Ag g0 ad0 ad1 := fun w hw => by
      rw [hag w (hw.elim (fun z => Or.inl (hM.2.2 w z)) Or.inr)]
      exact h1 w hw
    have hS1 : va_S A s.heap T'.heap (locs ++ L) := by
      obtain ⟨f1, f2⟩ := hF
      rw [z0, ← e1] at f1
      refine ⟨Nat.le_trans h4.1 f1, fun q hq hn => ?_, fun q hq => ?_⟩
      · have f3 := f2 q (by rw [z0]; exact Nat.lt_of_lt_of_le hq h4.1) (fun z => hn (hfree q z))
        rw [z0, ← e1] at f3
        rw [f3]
        exact h4.2.1 q hq hn
      · rcases List.mem_append.mp hq with h8 | h8
        · exact h4.2.2 q h8
        · exact hfree _ (hL q h8)
    have hk2 := b hG (hM.tr hM1) hc ad1 T'.heap (locs ++ L) ls hag0 hP1 (hD1.weaken (fun _ q _ z => hfree q.1 z)) hS1 (by rw [lvm_ag hag h6]; exact h5) (h6.mn hM1) (by
      intro w hw
      rcases List.mem_append.mp hw with h8 | h8
      · exact hok w (Option.mem_toList.mp h8)
      · exact (hs.2.mn hM1) w h8) hcl
    have e3 : gc g1 - gc g0 = gc g - gc g0 + (gc g1 - gc g) := by have := hM.1; have := hM1.1; omega
    have e4 : gs g1 - gs g0 = gs g - gs g0 + (gs g1 - gs g) := by have := hM.2.1; have := hM1.2.1; omega
    rw [e3, e4] at hk2
    obtain ⟨t2, k1, k2⟩ := hk2 T' rfl X'
    refine ⟨t2, stp t2 ?_, k2⟩
    have e5 : stm ad1 ((ret2 r2).toList ++ rest) = v.toList ++ stm ad rest := by
      have hv2 : v = (ret2 r2).map (cv ad1) := by injection hv
      rw [hv2]
      show List.map (cv ad1) ((ret2 r2).toList ++ rest) = _
      rw [List.map_append]
      have e6 : List.map (cv ad1) rest = stm ad rest := stm_ag hag hs.2
      rw [e6]
      cases ret2 r2 <;> rfl
    rw [e5] at k1
    exact k1
theorem code_ok {s : State} {args : Array Value} {y2 : MethodName} {cc2 : ByteArray} {nL2 : Nat} {rt2 : Option FieldType} (htb : TB s) (h : Cond.code y2 cc2 nL2 rt2 ∈ lw_tbl ∧ okW (Cond.code y2 cc2 nL2 rt2) = true) : ∀ w ∈ [Cond.code y2 cc2 nL2 rt2], ∀ (a' : Array Value) (U : State), s.WarmedH U.vm → w.before a' U = true := by
  intro w hw a' U hW
  rw [List.mem_singleton.mp hw]
  exact (htb.warm hW) _ h.1 h.2 a'
theorem len_ok {y2 : MethodName} {np : Nat} (h : okC y2 np) : ∀ sig, parseMethodDescriptor y2.desc = some sig → np = sig.parameters.length := by
  intro sig hs
  have h2 := h.2
  rw [hs] at h2
  exact (Option.some.inj h2).symm
theorem stm_rev (ad : Nm → Nat) (as rest : List SV) : stm ad (as.reverse ++ rest) = (stm ad as).reverse ++ stm ad rest := by
  simp [stm, List.map_append, List.map_reverse]
theorem oks_rev {g : Hp} {as rest : List SV} (h : oks g (as.reverse ++ rest)) : oks g as ∧ oks g rest := ⟨fun v hv => h v (List.mem_append_left _ (List.mem_reverse.mpr hv)), fun v hv => h v (List.mem_append_right _ hv)⟩
/-- a method of an object -/
theorem j_callV {σ : Type} {y2 : MethodName} {cc2 : ByteArray} {nL2 : Nat} {rt2 : Option FieldType} {rf2 rl2 : Nat} {ret2 : σ → Option SV} {own : String} {ix c : Nat} (as rest : List SV) {r : Option Nm} {P : Option (σ × Hp)} {F : σ × Hp → Option (ρ × Hp)}
    (hd : decode cc pc = .ok (.invokevirtual ix, 3)) (hC : FLC own ix y2 cc2 nL2 rt2 as.length) (hV : FLV y2 c) (ho : own = y.cls) (hM : FM y2 cc2 nL2 rt2 rf2 rl2 ret2 (sR r :: as) g P) (hroom : (rf2 + 1 ≤ rf ∧ 8 + (nL2 + 11) + rl2 ≤ rl) ∧ (rest.map sc).sum ≤ 8) (hst : st = as.reverse ++ sR r :: rest) (hp : pr = (ick r c P).bind F)
    (kk : ∀ x g1, J y cc nL rt rf rl X g1 (pc + 3) lv ((ret2 x).toList ++ rest) (F (x, g1))) : J y cc nL rt rf rl X g pc lv st pr := by
  subst hp
  subst hst
  obtain ⟨v1, v2, v3, v4⟩ := hV
  cases r with
  | none => exact J.none
  | some n =>
    by_cases hn : n.1 = c
    · have e : ick (some n) c P = P := by simp [ick, hn]
      rw [e]
      refine J.call hM (fun p l e s m args below meth c0 R H locs cells slots D cs ad ls Pc Qc mc ms free rm hx hb hz hml hw htb hK hP hos hMet hrm hfr hbl hpc hf => ?_) hroom.1 rfl (fun h => ?_) kk
      · obtain ⟨q, hq, he⟩ := wat (cs := cs) (ad := ad) (okr_in (hos (sR (some n)) (List.mem_append_right _ List.mem_cons_self)) (Or.inl (by omega)))
        obtain ⟨w, a1, a2⟩ := vwCl_at c v1
        rw [ent_o (by omega), hn] at he
        have hrc := va_recv hK hP a1 he
        rw [a2] at hrc
        have hstk : (F0 m pc ls (stm ad (as.reverse ++ sR (some n) :: rest))).stack = (stm ad as).reverse ++ .ref (ad n) :: stm ad rest := stm_rev ad as _
        have hlen : (stm ad as).length = as.length := by simp [stm]
        have hwc := lv_room (pc := pc) (ls := ls) (m := m) (st := stm ad rest) (rest := stm ad (as.reverse ++ sR (some n) :: rest)) (by rw [stm_cat]; exact hroom.2)
        rcases hC.1 with ⟨l1, l2⟩ | ⟨host, l1⟩
        · exact va_runV (own := own) (C := oC c) (As := stm ad as) (n := as.length) (bytes := cc2) (maxL := nL2) (ret := rt2) (index := ix) ⟨hx, hb, hml, by rw [ho]; exact hw, fun w h => absurd h List.not_mem_nil⟩ (Ts := []) hMet ⟨⟨hrm.1, hrm.2, hfr.1, hfr.2, code_ok (args := args) htb hC.2.1, List.mem_cons_self, htb _ hC.2.1.1 hC.2.1.2 args, htb _ hC.2.2.1.1 hC.2.2.1.2 args, hC.2.2.2.1, len_ok hC.2.2.2, htb _ l1 l2 args⟩, htb _ v3.1 v3.2 args, htb _ v4.1 v4.2 args⟩ ⟨hbl, hrc, hpc⟩ rfl hlen hz hstk hwc hd hf
        · exact va_runVN (own := own) (host := host) (C := oC c) (As := stm ad as) (n := as.length) (bytes := cc2) (maxL := nL2) (ret := rt2) (index := ix) ⟨hx, hb, hml, by rw [ho]; exact hw, fun w h => absurd h List.not_mem_nil⟩ (Ts := []) hMet ⟨⟨⟨hrm.1, hrm.2, hfr.1, hfr.2, code_ok (args := args) htb hC.2.1, List.mem_cons_self⟩, htb _ hC.2.1.1 hC.2.1.2 args, htb _ hC.2.2.1.1 hC.2.2.1.2 args, hC.2.2.2.1, len_ok hC.2.2.2, htb _ l1 (by simp [okW, isNw]) args⟩, htb _ v3.1 v3.2 args, htb _ v4.1 v4.2 args⟩ ⟨hbl, hrc, hpc⟩ rfl hlen hz hstk hwc hd hf
      · have h2 := oks_rev h
        exact ⟨h2.1.cons h2.2.head, h2.2.tail⟩
    · have e : ick (some n) c P = none := by simp [ick, hn]
      rw [e]
      exact J.none
/-- a method of none -/
theorem j_callS {σ : Type} {y2 : MethodName} {cc2 : ByteArray} {nL2 : Nat} {rt2 : Option FieldType} {rf2 rl2 : Nat} {ret2 : σ → Option SV} {own : String} {ix : Nat} (as rest : List SV) {P : Option (σ × Hp)} {F : σ × Hp → Option (ρ × Hp)}
    (hd : decode cc pc = .ok (.invokestatic ix, 3)) (hC : FLC own ix y2 cc2 nL2 rt2 as.length) (hV : FLS y2) (ho : own = y.cls) (hM : FM y2 cc2 nL2 rt2 rf2 rl2 ret2 as g P) (hroom : (rf2 + 1 ≤ rf ∧ 8 + (nL2 + 11) + rl2 ≤ rl) ∧ (rest.map sc).sum ≤ 8) (hst : st = as.reverse ++ rest) (hp : pr = P.bind F)
    (kk : ∀ x g1, J y cc nL rt rf rl X g1 (pc + 3) lv ((ret2 x).toList ++ rest) (F (x, g1))) : J y cc nL rt rf rl X g pc lv st pr := by
  subst hp
  subst hst
  refine J.call hM (fun p l e s m args below meth c0 R H locs cells slots D cs ad ls Pc Qc mc ms free rm hx hb hz hml hw htb hK hP hos hMet hrm hfr hbl hpc hf => ?_) hroom.1 rfl (fun h => oks_rev h) kk
  have hstk : (F0 m pc ls (stm ad (as.reverse ++ rest))).stack = (stm ad as).reverse ++ stm ad rest := stm_rev ad as _
  have hlen : (stm ad as).length = as.length := by simp [stm]
  have hwc := lv_room (pc := pc) (ls := ls) (m := m) (st := stm ad rest) (rest := stm ad (as.reverse ++ rest)) (by rw [stm_cat]; exact hroom.2)
  rcases hC.1 with ⟨l1, l2⟩ | ⟨host, l1⟩
  · exact va_runS (own := own) (As := stm ad as) (n := as.length) (bytes := cc2) (maxL := nL2) (ret := rt2) (index := ix) ⟨hx, hb, hml, by rw [ho]; exact hw, fun w h => absurd h List.not_mem_nil⟩ (Ts := []) hMet ⟨⟨hrm.1, hrm.2, hfr.1, hfr.2, code_ok (args := args) htb hC.2.1, List.mem_cons_self, htb _ hC.2.1.1 hC.2.1.2 args, htb _ hC.2.2.1.1 hC.2.2.1.2 args, hC.2.2.2.1, len_ok hC.2.2.2, htb _ l1 l2 args⟩, htb _ hV.1 hV.2 args⟩ ⟨hbl, hpc⟩ rfl hlen hz hstk hwc hd hf
  · exact va_runSN (own := own) (host := host) (As := stm ad as) (n := as.length) (bytes := cc2) (maxL := nL2) (ret := rt2) (index := ix) ⟨hx, hb, hml, by rw [ho]; exact hw, fun w h => absurd h List.not_mem_nil⟩ (Ts := []) hMet ⟨⟨⟨hrm.1, hrm.2, hfr.1, hfr.2, code_ok (args := args) htb hC.2.1, List.mem_cons_self⟩, htb _ hC.2.1.1 hC.2.1.2 args, htb _ hC.2.2.1.1 hC.2.2.1.2 args, hC.2.2.2.1, len_ok hC.2.2.2, htb _ l1 (by simp [okW, isNw]) args⟩, htb _ hV.1 hV.2 args, trivial⟩ ⟨hbl, hpc⟩ rfl hlen hz hstk hwc hd hf
/-- a constructor -/
theorem j_callI {σ : Type} {y2 : MethodName} {cc2 : ByteArray} {nL2 : Nat} {rf2 rl2 : Nat} {ret2 : σ → Option SV} {own : String} {ix : Nat} (as rest : List SV) {r : Option Nm} {P : Option (σ × Hp)} {F : σ × Hp → Option (ρ × Hp)}
    (hd : decode cc pc = .ok (.invokespecial ix, 3)) (hC : FLC own ix y2 cc2 nL2 none as.length) (hV : FLN0 y2) (ho : own = y.cls) (hM : FM y2 cc2 nL2 none rf2 rl2 ret2 (sR r :: as) g P) (hroom : (rf2 + 1 ≤ rf ∧ 8 + (nL2 + 11) + rl2 ≤ rl) ∧ (rest.map sc).sum ≤ 8) (hst : st = as.reverse ++ sR r :: rest) (hp : pr = (nnl r P).bind F)
    (kk : ∀ x g1, J y cc nL rt rf rl X g1 (pc + 3) lv ((ret2 x).toList ++ rest) (F (x, g1))) : J y cc nL rt rf rl X g pc lv st pr := by
  subst hp
  subst hst
  cases r with
  | none => exact J.none
  | some n =>
    refine J.call hM (fun p l e s m args below meth c0 R H locs cells slots D cs ad ls Pc Qc mc ms free rm hx hb hz hml hw htb hK hP hos hMet hrm hfr hbl hpc hf => ?_) hroom.1 rfl (fun h => ?_) kk
    · have hstk : (F0 m pc ls (stm ad (as.reverse ++ sR (some n) :: rest))).stack = (stm ad as).reverse ++ .ref (ad n) :: stm ad rest := stm_rev ad as _
      have hlen : (stm ad as).length = as.length := by simp [stm]
      have hwc := lv_room (pc := pc) (ls := ls) (m := m) (st := stm ad rest) (rest := stm ad (as.reverse ++ sR (some n) :: rest)) (by rw [stm_cat]; exact hroom.2)
      rcases hC.1 with ⟨l1, l2⟩ | ⟨host, l1⟩
      · exact va_runI (own := own) (As := stm ad as) (n := as.length) (bytes := cc2) (maxL := nL2) (index := ix) ⟨hx, hb, hml, by rw [ho]; exact hw, fun w h => absurd h List.not_mem_nil⟩ (Ts := []) hMet ⟨⟨hrm.1, hrm.2, hfr.1, hfr.2, code_ok (args := args) htb hC.2.1, List.mem_cons_self, htb _ hC.2.1.1 hC.2.1.2 args, htb _ hC.2.2.1.1 hC.2.2.1.2 args, hC.2.2.2.1, len_ok hC.2.2.2, htb _ l1 l2 args⟩, hV.1, htb _ hV.2.1 hV.2.2 args⟩ ⟨hbl, hpc⟩ rfl hlen hz hstk hwc hd hf
      · exact va_runIN (own := own) (host := host) (As := stm ad as) (n := as.length) (bytes := cc2) (maxL := nL2) (index := ix) ⟨hx, hb, hml, by rw [ho]; exact hw, fun w h => absurd h List.not_mem_nil⟩ (Ts := []) hMet ⟨⟨⟨hrm.1, hrm.2, hfr.1, hfr.2, code_ok (args := args) htb hC.2.1, List.mem_cons_self⟩, htb _ hC.2.1.1 hC.2.1.2 args, htb _ hC.2.2.1.1 hC.2.2.1.2 args, hC.2.2.2.1, len_ok hC.2.2.2, htb _ l1 (by simp [okW, isNw]) args⟩, hV.1, htb _ hV.2.1 hV.2.2 args⟩ ⟨hbl, hpc⟩ rfl hlen hz hstk hwc hd hf
    · have h2 := oks_rev h
      exact ⟨h2.1.cons h2.2.head, h2.2.tail⟩
/-! ends -/
theorem J.e {ret : ρ → Option SV} {v : ρ} (hX : IsM ret X) (hW : ∀ (p : Program) (l : Launch) (e : Env) (s : State) (m : MethodId) (args : Array Value) (below : List Frame) (meth : Method) (c : Code) (R : Room) (H : Heap) (locs : List Loc) (cells slots : Nat) (D : va_G) (cs : ClassId × ClassId × ClassId) (A : Nat → Prop) (ad0 ad : Nm → Nat) (g0 : Hp) (ls : Array Slot),
      p.tables.exec = Jvm.exec → c.code = cc → meth.sig.returnType = rt → meth.locks = false → (∀ t : State, t.heap = H → s.WarmedH t.vm → ∀ w, (∃ z, ret v = some z ∧ w = some (cv ad z)) ∨ (ret v = Option.none ∧ w = Option.none) → QcF D cs ad0 g0 A ret v g args s (.returned w) t) → (∀ q ∈ locs, A q.base) →
      W p l e R s m args below meth c H locs cells slots (MQ below (QcF D cs ad0 g0 A ret v g) args s cells slots A) (F0 m pc ls (stm ad st)))
    (hok : oks g st → ∀ z, ret v = some z → okv g z) (hp : pr = some (v, g)) : J y cc nL rt rf rl X g pc lv st pr := by
  obtain ⟨⟨p, l, e, s, m, args, below, meth, c⟩, ⟨D, cs, A⟩, ad0, g0, RF, QF⟩ := X
  intro r g' h
  rw [hp] at h
  cases h
  refine ⟨Mn.rf g, fun hG hM hc ad H locs ls h1 h2 h3 h4 h5 h6 h7 h0 => ?_⟩
  obtain ⟨x1, x2, x3, x4, x5, x6, x7, x8, x9, x10, x11, x12⟩ := id hG
  rw [hX v g]
  refine hW p l e s m args below meth c _ H locs _ _ D cs A ad0 ad g0 ls x1 x2 x5 x6 (fun t ht hWm w hw => ⟨⟨ad, ?_, hok h7, h0, h1, by rw [ht]; exact h2, h3⟩, h4.F ht⟩) h4.2.2
  rcases hw with ⟨z, e1, e2⟩ | ⟨e1, e2⟩
  · rw [e1, e2]; rfl
  · rw [e1, e2]; rfl
theorem j_ireturn {x : Int32} {X : Xt Int32} {pr : Option (Int32 × Hp)} (hd : decode cc pc = .ok (.ireturn, 1)) (hX : IsM rtI X) (hr : rt = some .int) (hp : pr = some (x, g)) : J y cc nL rt rf rl X g pc lv (sI x :: []) pr :=
  J.e hX (fun p l e s m args below meth c R H locs cells slots D cs A ad0 ad g0 ls hx hb hret hlk hq hf => W.iret (cc := cc) hx hb (hret.trans hr) (fun t h1 h2 => hq t h1 h2 _ (Or.inl ⟨_, rfl, rfl⟩)) hf hd hlk) (fun h z hz => by cases hz; exact h.head) hp
theorem j_zreturn {x : Int32} {X : Xt Int32} {pr : Option (Int32 × Hp)} (hd : decode cc pc = .ok (.ireturn, 1)) (hX : IsM rtI X) (hr : rt = some .boolean) (hp : pr = rtZ x g) : J y cc nL rt rf rl X g pc lv (sI x :: []) pr := by
  subst hp
  by_cases h01 : x = 0 ∨ x = 1
  · have e : rtZ x g = some (x, g) := by simp only [rtZ, if_pos h01]
    exact J.e hX (fun p l e s m args below meth c R H locs cells slots D cs A ad0 ad g0 ls hx hb hret hlk hq hf => W.zret (cc := cc) hx hb (hret.trans hr) (by rcases h01 with e1 | e1 <;> subst e1 <;> decide) (fun t h1 h2 => hq t h1 h2 _ (Or.inl ⟨_, rfl, rfl⟩)) hf hd hlk) (fun h z hz => by cases hz; exact h.head) e
  · have e : rtZ x g = none := by simp only [rtZ, if_neg h01]
    rw [e]
    exact J.none
theorem j_lreturn {x : Int64} {X : Xt Int64} {pr : Option (Int64 × Hp)} (hd : decode cc pc = .ok (.lreturn, 1)) (hX : IsM rtL X) (hr : rt = some .long) (hp : pr = some (x, g)) : J y cc nL rt rf rl X g pc lv (sL x :: []) pr :=
  J.e hX (fun p l e s m args below meth c R H locs cells slots D cs A ad0 ad g0 ls hx hb hret hlk hq hf => W.lret (cc := cc) hx hb (hret.trans hr) (fun t h1 h2 => hq t h1 h2 _ (Or.inl ⟨_, rfl, rfl⟩)) hf hd hlk) (fun h z hz => by cases hz; exact h.head) hp
theorem j_areturn {x : Option Nm} {ty : FieldType} {X : Xt (Option Nm)} {pr : Option (Option Nm × Hp)} (hd : decode cc pc = .ok (.areturn, 1)) (hX : IsM rtR X) (hr : rt = some ty) (hty : (∃ n, ty = .object n) ∨ ∃ t, ty = .array t) (hp : pr = some (x, g)) : J y cc nL rt rf rl X g pc lv (sR x :: []) pr :=
  J.e hX (fun p l e s m args below meth c R H locs cells slots D cs A ad0 ad g0 ls hx hb hret hlk hq hf => W.aret (cc := cc) hx hb (hret.trans hr) hty (by cases x with
    | none => exact Or.inl rfl
    | some a => exact Or.inr ⟨_, rfl⟩) (fun t h1 h2 => hq t h1 h2 _ (Or.inl ⟨_, rfl, rfl⟩)) hf hd hlk) (fun h z hz => by cases hz; exact h.head) hp
theorem j_return {X : Xt Unit} {pr : Option (Unit × Hp)} (hd : decode cc pc = .ok (.return_, 1)) (hX : IsM rtV X) (hr : rt = none) (hp : pr = some ((), g)) : J y cc nL rt rf rl X g pc lv [] pr :=
  J.e hX (fun p l e s m args below meth c R H locs cells slots D cs A ad0 ad g0 ls hx hb hret hlk hq hf => W.vret (cc := cc) hx hb (hret.trans hr) (fun t h1 h2 => hq t h1 h2 _ (Or.inr ⟨rfl, rfl⟩)) hf hd hlk) (fun h z hz => by cases hz) hp
end CRU
end
section
/-! the same rows where the step stands ahead of a bind; joins; loops -/
def dvI (x z : Int32) : Option Int32 := if z = 0 then none else some (x / z)
def rmI (x z : Int32) : Option Int32 := if z = 0 then none else some (x - x / z * z)
def dvL (x z : Int64) : Option Int64 := if z = 0 then none else some (x / z)
def ckc (r : Option Nm) (c : Nat) : Option Unit := match r with
  | some n => if n.1 = c then some () else none
  | none => some ()
def csu (r : Option Nm) : Option Unit := match r with
  | some n => if 12 ≤ n.1 ∧ n.1 < 17 then some () else none
  | none => none
def nnu (r : Option Nm) : Option Unit := match r with
  | some _ => some ()
  | none => none
noncomputable def acq (r q : Option Nm) (g : Hp) : Option Bool := by
  classical exact if r = q then some true else if (∀ n, r = some n → n ∈ gL g ∨ n = (17, 0)) ∧ (∀ n, q = some n → n ∈ gL g ∨ n = (17, 0)) then some false else none
def nix (r : Option Nm) : Nat := match r with
  | some n => n.2
  | none => 0
def nca (r : Option Nm) : Nat := match r with
  | some n => n.1
  | none => 0
def lsz (g : Hp) (j : Nat) : Nat := (gI g (0, j) 2).toNatClampNeg
theorem bi {α β : Type} {c : Prop} [Decidable c] {A B : Option α} {K : α → Option β} : Option.bind (if c then A else B) K = if c then Option.bind A K else Option.bind B K := by split <;> rfl
theorem bb {α β γ : Type} {A : Option α} {F : α → Option β} {K : β → Option γ} : Option.bind (Option.bind A F) K = Option.bind A (fun x => Option.bind (F x) K) := Option.bind_assoc ..
section BRU
variable {ρ : Type} {y : MethodName} {cc : ByteArray} {nL : Nat} {rt : Option FieldType} {rf rl : Nat} {X : Xt ρ} {g : Hp} {pc : Nat} {lv lv' : List (Nat × SV)} {st : List SV} {pr pr2 : Option (ρ × Hp)}
theorem b_idiv {x z : Int32} {F : Int32 → Option (ρ × Hp)} (hd : decode cc pc = .ok (.idiv, 1)) (hp : pr = (dvI x z).bind F) (kk : ∀ v, J y cc nL rt rf rl X g (pc + 1) lv (sI v :: st) (F v)) : J y cc nL rt rf rl X g pc lv (sI z :: sI x :: st) pr :=
  j_idiv (F := F) hd (by rw [hp]; unfold dvI; split <;> rfl) (kk _)
theorem b_irem {x z : Int32} {F : Int32 → Option (ρ × Hp)} (hd : decode cc pc = .ok (.irem, 1)) (hp : pr = (rmI x z).bind F) (kk : ∀ v, J y cc nL rt rf rl X g (pc + 1) lv (sI v :: st) (F v)) : J y cc nL rt rf rl X g pc lv (sI z :: sI x :: st) pr :=
  j_irem (F := F) hd (by rw [hp]; unfold rmI; split <;> rfl) (kk _)
theorem b_ldiv {x z : Int64} {F : Int64 → Option (ρ × Hp)} (hd : decode cc pc = .ok (.ldiv, 1)) (hp : pr = (dvL x z).bind F) (kk : ∀ v, J y cc nL rt rf rl X g (pc + 1) lv (sL v :: st) (F v)) : J y cc nL rt rf rl X g pc lv (sL z :: sL x :: st) pr :=
  j_ldiv (F := F) hd (by rw [hp]; unfold dvL; split <;> rfl) (kk _)
theorem b_cst {own : String} {ix c : Nat} {r : Option Nm} {F : Unit → Option (ρ × Hp)} (hd : decode cc pc = .ok (.checkcast ix, 3)) (ho : own = y.cls) (hc : c < 11) (hw0 : Cond.classLink own ix (oC c) ∈ lw_tbl) (hp : pr = (ckc r c).bind F) (kk : J y cc nL rt rf rl X g (pc + 3) lv (sR r :: st) (F ())) : J y cc nL rt rf rl X g pc lv (sR r :: st) pr :=
  j_cst (P := F ()) hd ho hc hw0 (by rw [hp]; cases r <;> simp only [ckc, cst] <;> first | rfl | (split <;> rfl)) kk
theorem b_csA {own : String} {ix : Nat} {r : Option Nm} {F : Unit → Option (ρ × Hp)} (hd : decode cc pc = .ok (.checkcast ix, 3)) (ho : own = y.cls) (hw0 : Cond.classLink own ix "[Ljava/lang/Object;" ∈ lw_tbl) (hp : pr = (csu r).bind F) (kk : J y cc nL rt rf rl X g (pc + 3) lv (sR r :: st) (F ())) : J y cc nL rt rf rl X g pc lv (sR r :: st) pr :=
  j_csA (P := F ()) hd ho hw0 (by rw [hp]; cases r <;> simp only [csu, csA] <;> first | rfl | (split <;> rfl)) kk
theorem b_oinit {own : String} {ix : Nat} {r : Option Nm} {F : Unit → Option (ρ × Hp)} (hd : decode cc pc = .ok (.invokespecial ix, 3)) (hF : FLI own ix) (ho : own = y.cls) (hr : 1 ≤ rf ∧ (st.map sc).sum + 12 ≤ rl) (hp : pr = (nnu r).bind F) (kk : J y cc nL rt rf rl X g (pc + 3) lv st (F ())) : J y cc nL rt rf rl X g pc lv (sR r :: st) pr :=
  j_oinit (P := F ()) hd hF ho hr (by rw [hp]; cases r <;> rfl) kk
theorem b_acmp_ne {r q : Option Nm} {off : Int} {tgt : Nat} {a b : Option (ρ × Hp)} (hd : decode cc pc = .ok (.if_acmp .ne off, 3)) (ht : (pc : Int) + off = (tgt : Int)) (hp : pr = (acq r q g).bind (fun z => if z = true then b else a)) (kt : J y cc nL rt rf rl X g tgt lv st a) (kf : J y cc nL rt rf rl X g (pc + 3) lv st b) : J y cc nL rt rf rl X g pc lv (sR q :: sR r :: st) pr :=
  j_acmp_ne hd ht (by rw [hp]; simp only [acq, acm]; split <;> (try split) <;> rfl) kt kf
theorem b_acmp_eq {r q : Option Nm} {off : Int} {tgt : Nat} {a b : Option (ρ × Hp)} (hd : decode cc pc = .ok (.if_acmp .eq off, 3)) (ht : (pc : Int) + off = (tgt : Int)) (hp : pr = (acq r q g).bind (fun z => if z = true then a else b)) (kt : J y cc nL rt rf rl X g tgt lv st a) (kf : J y cc nL rt rf rl X g (pc + 3) lv st b) : J y cc nL rt rf rl X g pc lv (sR q :: sR r :: st) pr := by
  subst hp
  by_cases h1 : r = q
  · have e : (acq r q g).bind (fun z => if z = true then a else b) = a := by simp only [acq, if_pos h1]; rfl
    refine J.eq e (J.s (fun _ _ _ _ _ _ _ _ _ _ _ _ _ _ _ ad ls hx hb hw htb hl K0 => ?_) (fun _ h => h.tail.tail) kt)
    exact lv_acmp_eq hx hb hd ht (fun _ => K0) (fun z => absurd (by rw [h1]) z)
  · by_cases h2 : (∀ n, r = some n → n ∈ gL g ∨ n = (17, 0)) ∧ (∀ n, q = some n → n ∈ gL g ∨ n = (17, 0))
    · have e : (acq r q g).bind (fun z => if z = true then a else b) = b := by simp only [acq, if_neg h1, if_pos h2]; rfl
      refine J.eq e (J.r (fun p l e s m args below meth c0 R H locs cells slots Q D cs A ad ls hx hb hz hml hw htb hK hE hR hC hP hD hS hol hos K0 => ?_) (fun _ h => h.tail.tail) kf)
      exact lv_acmp_eq hx hb hd ht (fun z => absurd z (acm_ne hD hE h1 h2.1 h2.2)) (fun _ => K0)
    · have e : (acq r q g).bind (fun z => if z = true then a else b) = none := by simp only [acq, if_neg h1, if_neg h2]; rfl
      exact J.eq e J.none
theorem J.jn {σ : Type} {A : Option σ} {F : σ → Option (ρ × Hp)} (P : σ → Option (ρ × Hp) → Prop) (h : ∀ F' : σ → Option (ρ × Hp), (∀ q, P q (F' q)) → J y cc nL rt rf rl X g pc lv st (A.bind F')) (k : ∀ q, P q (F q)) : J y cc nL rt rf rl X g pc lv st (A.bind F) := h F k
theorem J.pcE {pc2 : Nat} (h : pc2 = pc) (k : J y cc nL rt rf rl X g pc2 lv st pr) : J y cc nL rt rf rl X g pc lv st pr := h ▸ k
end BRU
end
section
/-! by program: words of the tables -/
set_option maxRecDepth 20000 in
theorem lo_Jxa1e45_1 : FLI RJxa1e45 1 := ⟨⟨List.mem_append_right _ (List.mem_of_getElem? (i := 58) (by decide +kernel)), rfl⟩, ⟨List.mem_append_right _ (List.mem_of_getElem? (i := 27) (by decide +kernel)), rfl⟩, ⟨List.mem_append_right _ (List.mem_of_getElem? (i := 28) (by decide +kernel)), rfl⟩⟩
set_option maxRecDepth 20000 in
theorem lc_Jxc12de_1 : FLC RJxc12de 1 yJxa1e45_init_da8c8 cJxa1e45_init_da8c8 1 none 0 := ⟨Or.inl ⟨List.mem_append_right _ (List.mem_of_getElem? (i := 55) (by decide +kernel)), rfl⟩, ⟨List.mem_append_right _ (List.mem_of_getElem? (i := 57) (by decide +kernel)), rfl⟩, ⟨List.mem_append_right _ (List.mem_of_getElem? (i := 3) (by decide +kernel)), rfl⟩, ⟨⟨by decide +kernel, by decide +kernel⟩, by decide +kernel⟩⟩
set_option maxRecDepth 20000 in
theorem li_Jxa1e45_init_da8c8 : FLN0 yJxa1e45_init_da8c8 := ⟨by decide +kernel, List.mem_append_right _ (List.mem_of_getElem? (i := 56) (by decide +kernel)), rfl⟩
set_option maxRecDepth 20000 in
theorem inTJx4a65c : ∀ w ∈ u_ws RJx4a65c TJx4a65c 3, w ∈ lw_tbl ∧ okW w = true := List.forall_mem_map.mpr fun k hk => by
  have hk2 := List.mem_range.mp hk
  rcases (show k = 0 ∨ k = 1 ∨ k = 2 by omega) with rfl | rfl | rfl
  · exact ⟨List.mem_append_right _ (List.mem_of_getElem? (i := 70) (by decide +kernel)), rfl⟩
  · exact ⟨List.mem_append_right _ (List.mem_of_getElem? (i := 66) (by decide +kernel)), rfl⟩
  · exact ⟨List.mem_append_right _ (List.mem_of_getElem? (i := 68) (by decide +kernel)), rfl⟩
set_option maxRecDepth 20000 in
theorem lf_Jxc12de_7 : FLK RJxc12de 7 0 0 false := ⟨RJx4a65c, TJx4a65c, 3, RJxc12de, ⟨rfl, by decide, rfl, by decide⟩, inTJx4a65c, Or.inl ⟨List.mem_append_right _ (List.mem_of_getElem? (i := 63) (by decide +kernel)), rfl⟩, Or.inl rfl⟩
set_option maxRecDepth 20000 in
theorem lt_0_0 : FLT 0 0 .int := ⟨RJx4a65c, TJx4a65c, 3, tyJx4a65c, rfl, by decide +kernel, tyJx4a65c_ok, nmJx4a65c⟩
set_option maxRecDepth 20000 in
theorem lw_Jxc12de_7_Jxc12de_init_da8c8 : FLW yJxc12de_init_da8c8 RJxc12de 7 0 0 := ⟨RJx4a65c, TJx4a65c, 3, rfl, Or.inl rfl⟩
set_option maxRecDepth 20000 in
theorem lc_Jx4a65c_1 : FLC RJx4a65c 1 yJxc12de_init_da8c8 cJxc12de_init_da8c8 1 none 0 := ⟨Or.inl ⟨List.mem_append_right _ (List.mem_of_getElem? (i := 52) (by decide +kernel)), rfl⟩, ⟨List.mem_append_right _ (List.mem_of_getElem? (i := 54) (by decide +kernel)), rfl⟩, ⟨List.mem_append_right _ (List.mem_of_getElem? (i := 4) (by decide +kernel)), rfl⟩, ⟨⟨by decide +kernel, by decide +kernel⟩, by decide +kernel⟩⟩
set_option maxRecDepth 20000 in
theorem li_Jxc12de_init_da8c8 : FLN0 yJxc12de_init_da8c8 := ⟨by decide +kernel, List.mem_append_right _ (List.mem_of_getElem? (i := 53) (by decide +kernel)), rfl⟩
set_option maxRecDepth 20000 in
theorem lg_Jx4a65c_39 : Cond.fieldLink RJx4a65c 39 "java/util/ArrayList" "DEFAULTCAPACITY_EMPTY_ELEMENTDATA" "[Ljava/lang/Object;" ∈ lw_tbl := List.mem_append_right _ (List.mem_of_getElem? (i := 59) (by decide +kernel))
set_option maxRecDepth 20000 in
theorem lf_Jx4a65c_9 : FLK RJx4a65c 9 0 1 true := ⟨RJx4a65c, TJx4a65c, 3, RJx4a65c, ⟨rfl, by decide, rfl, by decide⟩, inTJx4a65c, Or.inl ⟨List.mem_append_right _ (List.mem_of_getElem? (i := 61) (by decide +kernel)), rfl⟩, Or.inl rfl⟩
set_option maxRecDepth 20000 in
theorem lt_0_1 : FLT 0 1 (.array (.object "java/lang/Object")) := ⟨RJx4a65c, TJx4a65c, 3, tyJx4a65c, rfl, by decide +kernel, tyJx4a65c_ok, nmJx4a65c⟩
set_option maxRecDepth 20000 in
theorem lw_Jx4a65c_9_Jx4a65c_init_da8c8 : FLW yJx4a65c_init_da8c8 RJx4a65c 9 0 1 := ⟨RJx4a65c, TJx4a65c, 3, rfl, Or.inl rfl⟩
set_option maxRecDepth 20000 in
theorem lf_Jx4a65c_48 : FLK RJx4a65c 48 0 2 false := ⟨RJx4a65c, TJx4a65c, 3, RJx4a65c, ⟨rfl, by decide, rfl, by decide⟩, inTJx4a65c, Or.inl ⟨List.mem_append_right _ (List.mem_of_getElem? (i := 62) (by decide +kernel)), rfl⟩, Or.inl rfl⟩
set_option maxRecDepth 20000 in
theorem lc_J15_105 : FLC RJ15 105 yJ3_checkIndex_8e157 cJ3_checkIndex_8e157 3 (some .int) 3 := ⟨Or.inl ⟨List.mem_append_right _ (List.mem_of_getElem? (i := 291) (by decide +kernel)), rfl⟩, ⟨List.mem_append_right _ (List.mem_of_getElem? (i := 293) (by decide +kernel)), rfl⟩, ⟨List.mem_append_right _ (List.mem_of_getElem? (i := 16) (by decide +kernel)), rfl⟩, ⟨⟨by decide +kernel, by decide +kernel⟩, by decide +kernel⟩⟩
set_option maxRecDepth 20000 in
theorem ls_J3_checkIndex_8e157 : FLS yJ3_checkIndex_8e157 := ⟨List.mem_append_right _ (List.mem_of_getElem? (i := 292) (by decide +kernel)), rfl⟩
set_option maxRecDepth 20000 in
theorem lc_Jx4a65c_118 : FLC RJx4a65c 118 yJ15_checkIndex_7cf53 cJ15_checkIndex_7cf53 2 (some .int) 2 := ⟨Or.inl ⟨List.mem_append_right _ (List.mem_of_getElem? (i := 288) (by decide +kernel)), rfl⟩, ⟨List.mem_append_right _ (List.mem_of_getElem? (i := 290) (by decide +kernel)), rfl⟩, ⟨List.mem_append_right _ (List.mem_of_getElem? (i := 15) (by decide +kernel)), rfl⟩, ⟨⟨by decide +kernel, by decide +kernel⟩, by decide +kernel⟩⟩
set_option maxRecDepth 20000 in
theorem ls_J15_checkIndex_7cf53 : FLS yJ15_checkIndex_7cf53 := ⟨List.mem_append_right _ (List.mem_of_getElem? (i := 289) (by decide +kernel)), rfl⟩
set_option maxRecDepth 20000 in
theorem lc_Jx4a65c_123 : FLC RJx4a65c 123 yJx4a65c_elementData_915e3 cJx4a65c_elementData_915e3 2 (some (.object "java/lang/Object")) 1 := ⟨Or.inl ⟨List.mem_append_right _ (List.mem_of_getElem? (i := 294) (by decide +kernel)), rfl⟩, ⟨List.mem_append_right _ (List.mem_of_getElem? (i := 297) (by decide +kernel)), rfl⟩, ⟨List.mem_append_right _ (List.mem_of_getElem? (i := 5) (by decide +kernel)), rfl⟩, ⟨⟨by decide +kernel, by decide +kernel⟩, by decide +kernel⟩⟩
set_option maxRecDepth 20000 in
theorem lv_Jx4a65c_elementData_915e3 : FLV yJx4a65c_elementData_915e3 0 := ⟨by decide, by decide +kernel, ⟨List.mem_append_right _ (List.mem_of_getElem? (i := 295) (by decide +kernel)), rfl⟩, ⟨List.mem_append_right _ (List.mem_of_getElem? (i := 296) (by decide +kernel)), rfl⟩⟩
set_option maxRecDepth 20000 in
theorem lf_Jx4a65c_63 : FLK RJx4a65c 63 0 0 false := ⟨RJx4a65c, TJx4a65c, 3, RJx4a65c, ⟨rfl, by decide, rfl, by decide⟩, inTJx4a65c, Or.inl ⟨List.mem_append_right _ (List.mem_of_getElem? (i := 64) (by decide +kernel)), rfl⟩, Or.inr ⟨List.mem_append_right _ (List.mem_of_getElem? (i := 65) (by decide +kernel)), rfl⟩⟩
set_option maxRecDepth 20000 in
theorem lw_Jx4a65c_63_Jx4a65c_add_9ea2d : FLW yJx4a65c_add_9ea2d RJx4a65c 63 0 0 := ⟨RJx4a65c, TJx4a65c, 3, rfl, Or.inl rfl⟩
set_option maxRecDepth 20000 in
theorem lM_J8_194 : FLM RJ8 194 Lib.Math.max.name Lib.Math.max.code 2 := ⟨⟨List.mem_append_right _ (List.mem_of_getElem? (i := 222) (by decide +kernel)), rfl⟩, ⟨List.mem_append_right _ (List.mem_of_getElem? (i := 223) (by decide +kernel)), rfl⟩, ⟨List.mem_append_right _ (List.mem_of_getElem? (i := 11) (by decide +kernel)), rfl⟩, ⟨List.mem_append_right _ (List.mem_of_getElem? (i := 224) (by decide +kernel)), rfl⟩⟩
set_option maxRecDepth 20000 in
theorem lk_J8_200 : Cond.constant RJ8 200 2147483639 ∈ lw_tbl := List.mem_append_right _ (List.mem_of_getElem? (i := 225) (by decide +kernel))
set_option maxRecDepth 20000 in
theorem lc_Jx4a65c_73 : FLC RJx4a65c 73 yJ8_newLength_cabcc cJ8_newLength_cabcc 4 (some .int) 3 := ⟨Or.inl ⟨List.mem_append_right _ (List.mem_of_getElem? (i := 219) (by decide +kernel)), rfl⟩, ⟨List.mem_append_right _ (List.mem_of_getElem? (i := 221) (by decide +kernel)), rfl⟩, ⟨List.mem_append_right _ (List.mem_of_getElem? (i := 10) (by decide +kernel)), rfl⟩, ⟨⟨by decide +kernel, by decide +kernel⟩, by decide +kernel⟩⟩
set_option maxRecDepth 20000 in
theorem ls_J8_newLength_cabcc : FLS yJ8_newLength_cabcc := ⟨List.mem_append_right _ (List.mem_of_getElem? (i := 220) (by decide +kernel)), rfl⟩
set_option maxRecDepth 20000 in
theorem lG_J7_86 : FLG RJ7 86 := ⟨⟨List.mem_append_right _ (List.mem_of_getElem? (i := 232) (by decide +kernel)), rfl⟩, ⟨List.mem_append_right _ (List.mem_of_getElem? (i := 992) (by decide +kernel)), rfl⟩, ⟨List.mem_append_right _ (List.mem_of_getElem? (i := 233) (by decide +kernel)), rfl⟩, ⟨List.mem_append_right _ (List.mem_of_getElem? (i := 246) (by decide +kernel)), rfl⟩⟩
set_option maxRecDepth 20000 in
theorem lq_J7_110 : Cond.classLink RJ7 110 "[Ljava/lang/Object;" ∈ lw_tbl := List.mem_append_right _ (List.mem_of_getElem? (i := 250) (by decide +kernel))
set_option maxRecDepth 20000 in
theorem lq_J7_2 : Cond.classLink RJ7 2 "java/lang/Object" ∈ lw_tbl := List.mem_append_right _ (List.mem_of_getElem? (i := 252) (by decide +kernel))
set_option maxRecDepth 20000 in
theorem lM_J7_304 : FLM RJ7 304 Lib.Math.min.name Lib.Math.min.code 2 := ⟨⟨List.mem_append_right _ (List.mem_of_getElem? (i := 253) (by decide +kernel)), rfl⟩, ⟨List.mem_append_right _ (List.mem_of_getElem? (i := 254) (by decide +kernel)), rfl⟩, ⟨List.mem_append_right _ (List.mem_of_getElem? (i := 11) (by decide +kernel)), rfl⟩, ⟨List.mem_append_right _ (List.mem_of_getElem? (i := 255) (by decide +kernel)), rfl⟩⟩
set_option maxRecDepth 20000 in
theorem la_J7_150 : FLA RJ7 150 := ⟨⟨List.mem_append_right _ (List.mem_of_getElem? (i := 256) (by decide +kernel)), rfl⟩, ⟨List.mem_append_right _ (List.mem_of_getElem? (i := 258) (by decide +kernel)), rfl⟩, ⟨List.mem_append_right _ (List.mem_of_getElem? (i := 257) (by decide +kernel)), rfl⟩, ⟨List.mem_append_right _ (List.mem_of_getElem? (i := 13) (by decide +kernel)), rfl⟩⟩
set_option maxRecDepth 20000 in
theorem lc_J7_300 : FLC RJ7 300 yJ7_copyOf_6403c cJ7_copyOf_6403c 4 (some (.array (.object "java/lang/Object"))) 3 := ⟨Or.inl ⟨List.mem_append_right _ (List.mem_of_getElem? (i := 247) (by decide +kernel)), rfl⟩, ⟨List.mem_append_right _ (List.mem_of_getElem? (i := 249) (by decide +kernel)), rfl⟩, ⟨List.mem_append_right _ (List.mem_of_getElem? (i := 12) (by decide +kernel)), rfl⟩, ⟨⟨by decide +kernel, by decide +kernel⟩, by decide +kernel⟩⟩
set_option maxRecDepth 20000 in
theorem ls_J7_copyOf_6403c : FLS yJ7_copyOf_6403c := ⟨List.mem_append_right _ (List.mem_of_getElem? (i := 248) (by decide +kernel)), rfl⟩
set_option maxRecDepth 20000 in
theorem lc_Jx4a65c_66 : FLC RJx4a65c 66 yJ7_copyOf_1904c cJ7_copyOf_1904c 2 (some (.array (.object "java/lang/Object"))) 2 := ⟨Or.inl ⟨List.mem_append_right _ (List.mem_of_getElem? (i := 229) (by decide +kernel)), rfl⟩, ⟨List.mem_append_right _ (List.mem_of_getElem? (i := 231) (by decide +kernel)), rfl⟩, ⟨List.mem_append_right _ (List.mem_of_getElem? (i := 12) (by decide +kernel)), rfl⟩, ⟨⟨by decide +kernel, by decide +kernel⟩, by decide +kernel⟩⟩
set_option maxRecDepth 20000 in
theorem ls_J7_copyOf_1904c : FLS yJ7_copyOf_1904c := ⟨List.mem_append_right _ (List.mem_of_getElem? (i := 230) (by decide +kernel)), rfl⟩
set_option maxRecDepth 20000 in
theorem lw_Jx4a65c_9_Jx4a65c_grow_92f84 : FLW yJx4a65c_grow_92f84 RJx4a65c 9 0 1 := ⟨RJx4a65c, TJx4a65c, 3, rfl, Or.inl rfl⟩
set_option maxRecDepth 20000 in
theorem lM_Jx4a65c_79 : FLM RJx4a65c 79 Lib.Math.max.name Lib.Math.max.code 2 := ⟨⟨List.mem_append_right _ (List.mem_of_getElem? (i := 259) (by decide +kernel)), rfl⟩, ⟨List.mem_append_right _ (List.mem_of_getElem? (i := 223) (by decide +kernel)), rfl⟩, ⟨List.mem_append_right _ (List.mem_of_getElem? (i := 11) (by decide +kernel)), rfl⟩, ⟨List.mem_append_right _ (List.mem_of_getElem? (i := 224) (by decide +kernel)), rfl⟩⟩
set_option maxRecDepth 20000 in
theorem lq_Jx4a65c_7 : Cond.classLink RJx4a65c 7 "java/lang/Object" ∈ lw_tbl := List.mem_append_right _ (List.mem_of_getElem? (i := 260) (by decide +kernel))
set_option maxRecDepth 20000 in
theorem lc_Jx4a65c_69 : FLC RJx4a65c 69 yJx4a65c_grow_92f84 cJx4a65c_grow_92f84 4 (some (.array (.object "java/lang/Object"))) 1 := ⟨Or.inl ⟨List.mem_append_right _ (List.mem_of_getElem? (i := 215) (by decide +kernel)), rfl⟩, ⟨List.mem_append_right _ (List.mem_of_getElem? (i := 218) (by decide +kernel)), rfl⟩, ⟨List.mem_append_right _ (List.mem_of_getElem? (i := 5) (by decide +kernel)), rfl⟩, ⟨⟨by decide +kernel, by decide +kernel⟩, by decide +kernel⟩⟩
set_option maxRecDepth 20000 in
theorem lv_Jx4a65c_grow_92f84 : FLV yJx4a65c_grow_92f84 0 := ⟨by decide, by decide +kernel, ⟨List.mem_append_right _ (List.mem_of_getElem? (i := 217) (by decide +kernel)), rfl⟩, ⟨List.mem_append_left _ (List.mem_of_getElem? (i := 3) (by decide +kernel)), rfl⟩⟩
set_option maxRecDepth 20000 in
theorem lc_Jx4a65c_129 : FLC RJx4a65c 129 yJx4a65c_grow_d5877 cJx4a65c_grow_d5877 1 (some (.array (.object "java/lang/Object"))) 0 := ⟨Or.inl ⟨List.mem_append_right _ (List.mem_of_getElem? (i := 211) (by decide +kernel)), rfl⟩, ⟨List.mem_append_right _ (List.mem_of_getElem? (i := 214) (by decide +kernel)), rfl⟩, ⟨List.mem_append_right _ (List.mem_of_getElem? (i := 5) (by decide +kernel)), rfl⟩, ⟨⟨by decide +kernel, by decide +kernel⟩, by decide +kernel⟩⟩
set_option maxRecDepth 20000 in
theorem lv_Jx4a65c_grow_d5877 : FLV yJx4a65c_grow_d5877 0 := ⟨by decide, by decide +kernel, ⟨List.mem_append_right _ (List.mem_of_getElem? (i := 213) (by decide +kernel)), rfl⟩, ⟨List.mem_append_left _ (List.mem_of_getElem? (i := 2) (by decide +kernel)), rfl⟩⟩
set_option maxRecDepth 20000 in
theorem lt_0_2 : FLT 0 2 .int := ⟨RJx4a65c, TJx4a65c, 3, tyJx4a65c, rfl, by decide +kernel, tyJx4a65c_ok, nmJx4a65c⟩
set_option maxRecDepth 20000 in
theorem lw_Jx4a65c_48_Jx4a65c_add_72be8 : FLW yJx4a65c_add_72be8 RJx4a65c 48 0 2 := ⟨RJx4a65c, TJx4a65c, 3, rfl, Or.inl rfl⟩
set_option maxRecDepth 20000 in
theorem lc_Jx4a65c_131 : FLC RJx4a65c 131 yJx4a65c_add_72be8 cJx4a65c_add_72be8 4 none 3 := ⟨Or.inl ⟨List.mem_append_right _ (List.mem_of_getElem? (i := 207) (by decide +kernel)), rfl⟩, ⟨List.mem_append_right _ (List.mem_of_getElem? (i := 210) (by decide +kernel)), rfl⟩, ⟨List.mem_append_right _ (List.mem_of_getElem? (i := 5) (by decide +kernel)), rfl⟩, ⟨⟨by decide +kernel, by decide +kernel⟩, by decide +kernel⟩⟩
set_option maxRecDepth 20000 in
theorem lv_Jx4a65c_add_72be8 : FLV yJx4a65c_add_72be8 0 := ⟨by decide, by decide +kernel, ⟨List.mem_append_right _ (List.mem_of_getElem? (i := 209) (by decide +kernel)), rfl⟩, ⟨List.mem_append_left _ (List.mem_of_getElem? (i := 1) (by decide +kernel)), rfl⟩⟩
set_option maxRecDepth 20000 in
theorem lk_J6_264 : Cond.constant RJ6 264 65536 ∈ lw_tbl := List.mem_append_right _ (List.mem_of_getElem? (i := 432) (by decide +kernel))
/-! by program: what the methods do, and that their bytecode does it -/
/-! Jxa1e45_init_da8c8 -/
noncomputable def f_Jxa1e45_init_da8c8 (z : Nat) (t : Option Nm) (g : Hp) : Option (Unit × Hp) :=
  (nnu t).bind fun _ =>
  some ((), g)
set_option maxRecDepth 20000 in
theorem m_Jxa1e45_init_da8c8 (z : Nat) (t : Option Nm) (g : Hp) : FM yJxa1e45_init_da8c8 cJxa1e45_init_da8c8 1 none 1 12 rtV [sR t] g (f_Jxa1e45_init_da8c8 z t g) := by
  refine FM.entry (by decide +kernel) (Nat.le_of_ble_eq_true rfl) (fun X hX => ?_)
  unfold f_Jxa1e45_init_da8c8
  show J yJxa1e45_init_da8c8 cJxa1e45_init_da8c8 1 none 1 12 X g 0 [(0, sR t)] [] _
  refine j_aload_n (pc := 0) 0 dJxa1e45_init_da8c8_0 rfl rfl ?_
  refine b_oinit (pc := 1) (own := RJxa1e45) dJxa1e45_init_da8c8_1 lo_Jxa1e45_1 rfl ⟨Nat.le_of_ble_eq_true rfl, Nat.le_of_ble_eq_true rfl⟩ rfl ?_
  exact j_return dJxa1e45_init_da8c8_4 hX rfl rfl
/-! Jxc12de_init_da8c8 -/
noncomputable def f_Jxc12de_init_da8c8 (z : Nat) (t : Option Nm) (g : Hp) : Option (Unit × Hp) :=
  (nnl t (f_Jxa1e45_init_da8c8 z t g)).bind fun q1 =>
  (putI t 0 0 0 q1.2).bind fun g2 =>
  some ((), g2)
set_option maxRecDepth 20000 in
theorem m_Jxc12de_init_da8c8 (z : Nat) (t : Option Nm) (g : Hp) : FM yJxc12de_init_da8c8 cJxc12de_init_da8c8 1 none 2 32 rtV [sR t] g (f_Jxc12de_init_da8c8 z t g) := by
  refine FM.entry (by decide +kernel) (Nat.le_of_ble_eq_true rfl) (fun X hX => ?_)
  unfold f_Jxc12de_init_da8c8
  show J yJxc12de_init_da8c8 cJxc12de_init_da8c8 1 none 2 32 X g 0 [(0, sR t)] [] _
  refine j_aload_n (pc := 0) 0 dJxc12de_init_da8c8_0 rfl rfl ?_
  refine j_callI (pc := 1) (own := RJxc12de) [] [] dJxc12de_init_da8c8_1 lc_Jxc12de_1 li_Jxa1e45_init_da8c8 rfl (m_Jxa1e45_init_da8c8 z t g) ⟨⟨Nat.le_of_ble_eq_true rfl, Nat.le_of_ble_eq_true rfl⟩, Nat.le_of_ble_eq_true rfl⟩ rfl rfl (fun q1r q1g => ?_)
  refine j_aload_n (pc := 4) 0 dJxc12de_init_da8c8_4 rfl rfl ?_
  refine j_iconst (pc := 5) (v := 0) dJxc12de_init_da8c8_5 (by decide) ?_
  refine j_putI (pc := 6) (own := RJxc12de) dJxc12de_init_da8c8_6 lf_Jxc12de_7 lt_0_0 lw_Jxc12de_7_Jxc12de_init_da8c8 rfl rfl (fun g2 => ?_)
  exact j_return dJxc12de_init_da8c8_9 hX rfl rfl
/-! Jx4a65c_init_da8c8 -/
noncomputable def f_Jx4a65c_init_da8c8 (z : Nat) (t : Option Nm) (g : Hp) : Option (Unit × Hp) :=
  (nnl t (f_Jxc12de_init_da8c8 z t g)).bind fun q1 =>
  (putR t 0 1 (some (17, 0)) q1.2).bind fun g2 =>
  some ((), g2)
set_option maxRecDepth 20000 in
theorem m_Jx4a65c_init_da8c8 (z : Nat) (t : Option Nm) (g : Hp) : FM yJx4a65c_init_da8c8 cJx4a65c_init_da8c8 1 none 3 52 rtV [sR t] g (f_Jx4a65c_init_da8c8 z t g) := by
  refine FM.entry (by decide +kernel) (Nat.le_of_ble_eq_true rfl) (fun X hX => ?_)
  unfold f_Jx4a65c_init_da8c8
  show J yJx4a65c_init_da8c8 cJx4a65c_init_da8c8 1 none 3 52 X g 0 [(0, sR t)] [] _
  refine j_aload_n (pc := 0) 0 dJx4a65c_init_da8c8_0 rfl rfl ?_
  refine j_callI (pc := 1) (own := RJx4a65c) [] [] dJx4a65c_init_da8c8_1 lc_Jx4a65c_1 li_Jxc12de_init_da8c8 rfl (m_Jxc12de_init_da8c8 z t g) ⟨⟨Nat.le_of_ble_eq_true rfl, Nat.le_of_ble_eq_true rfl⟩, Nat.le_of_ble_eq_true rfl⟩ rfl rfl (fun q1r q1g => ?_)
  refine j_aload_n (pc := 4) 0 dJx4a65c_init_da8c8_4 rfl rfl ?_
  refine j_gdef (pc := 5) (own := RJx4a65c) dJx4a65c_init_da8c8_5 rfl lg_Jx4a65c_39 ?_
  refine j_putR (pc := 8) (own := RJx4a65c) dJx4a65c_init_da8c8_8 lf_Jx4a65c_9 lt_0_1 rfl lw_Jx4a65c_9_Jx4a65c_init_da8c8 rfl rfl (fun g2 => ?_)
  exact j_return dJx4a65c_init_da8c8_11 hX rfl rfl
/-! Jx4a65c_isEmpty_aae02 -/
noncomputable def f_Jx4a65c_isEmpty_aae02 (z : Nat) (t : Option Nm) (g : Hp) : Option (Int32 × Hp) :=
  (getI t 0 2 g).bind fun x1 =>
  if x1 = 0 then (rtZ 1 g)
  else (rtZ 0 g)
set_option maxRecDepth 20000 in
theorem m_Jx4a65c_isEmpty_aae02 (z : Nat) (t : Option Nm) (g : Hp) : FM yJx4a65c_isEmpty_aae02 cJx4a65c_isEmpty_aae02 1 (some .boolean) 0 0 rtI [sR t] g (f_Jx4a65c_isEmpty_aae02 z t g) := by
  refine FM.entry (by decide +kernel) (Nat.le_of_ble_eq_true rfl) (fun X hX => ?_)
  unfold f_Jx4a65c_isEmpty_aae02
  show J yJx4a65c_isEmpty_aae02 cJx4a65c_isEmpty_aae02 1 (some .boolean) 0 0 X g 0 [(0, sR t)] [] _
  refine j_aload_n (pc := 0) 0 dJx4a65c_isEmpty_aae02_0 rfl rfl ?_
  refine j_getI (pc := 1) (own := RJx4a65c) dJx4a65c_isEmpty_aae02_1 lf_Jx4a65c_48 rfl rfl (fun x1 => ?_)
  refine j_if_ne (pc := 4) (tgt := 11) dJx4a65c_isEmpty_aae02_4 (by decide) rfl (fun hc => ?_) (fun hc => ?_)
  · refine j_iconst (pc := 11) (v := 0) dJx4a65c_isEmpty_aae02_11 (by decide) ?_
    exact j_zreturn dJx4a65c_isEmpty_aae02_12 hX rfl rfl
  · refine j_iconst (pc := 7) (v := 1) dJx4a65c_isEmpty_aae02_7 (by decide) ?_
    refine j_goto (pc := 8) (tgt := 12) dJx4a65c_isEmpty_aae02_8 (by decide) ?_
    exact j_zreturn dJx4a65c_isEmpty_aae02_12 hX rfl rfl
/-! Jx4a65c_size_8abf5 -/
noncomputable def f_Jx4a65c_size_8abf5 (z : Nat) (t : Option Nm) (g : Hp) : Option (Int32 × Hp) :=
  (getI t 0 2 g).bind fun x1 =>
  some (x1, g)
set_option maxRecDepth 20000 in
theorem m_Jx4a65c_size_8abf5 (z : Nat) (t : Option Nm) (g : Hp) : FM yJx4a65c_size_8abf5 cJx4a65c_size_8abf5 1 (some .int) 0 0 rtI [sR t] g (f_Jx4a65c_size_8abf5 z t g) := by
  refine FM.entry (by decide +kernel) (Nat.le_of_ble_eq_true rfl) (fun X hX => ?_)
  unfold f_Jx4a65c_size_8abf5
  show J yJx4a65c_size_8abf5 cJx4a65c_size_8abf5 1 (some .int) 0 0 X g 0 [(0, sR t)] [] _
  refine j_aload_n (pc := 0) 0 dJx4a65c_size_8abf5_0 rfl rfl ?_
  refine j_getI (pc := 1) (own := RJx4a65c) dJx4a65c_size_8abf5_1 lf_Jx4a65c_48 rfl rfl (fun x1 => ?_)
  exact j_ireturn dJx4a65c_size_8abf5_4 hX rfl rfl
/-! J3_checkIndex_8e157 -/
noncomputable def f_J3_checkIndex_8e157 (z : Nat) (a0 : Int32) (a1 : Int32) (a2 : Option Nm) (g : Hp) : Option (Int32 × Hp) :=
  if a0 < 0 then (none)
  else (if a0 < a1 then (some (a0, g))
    else (none))
set_option maxRecDepth 20000 in
theorem m_J3_checkIndex_8e157 (z : Nat) (a0 : Int32) (a1 : Int32) (a2 : Option Nm) (g : Hp) : FM yJ3_checkIndex_8e157 cJ3_checkIndex_8e157 3 (some .int) 0 0 rtI [sI a0, sI a1, sR a2] g (f_J3_checkIndex_8e157 z a0 a1 a2 g) := by
  refine FM.entry (by decide +kernel) (Nat.le_of_ble_eq_true rfl) (fun X hX => ?_)
  unfold f_J3_checkIndex_8e157
  show J yJ3_checkIndex_8e157 cJ3_checkIndex_8e157 3 (some .int) 0 0 X g 0 [(0, sI a0), (1, sI a1), (2, sR a2)] [] _
  refine j_iload_n (pc := 0) 0 dJ3_checkIndex_8e157_0 rfl rfl ?_
  refine j_if_lt (pc := 1) (tgt := 9) dJ3_checkIndex_8e157_1 (by decide) rfl (fun hc => ?_) (fun hc => ?_)
  · exact J.none
  · refine j_iload_n (pc := 4) 0 dJ3_checkIndex_8e157_4 rfl rfl ?_
    refine j_iload_n (pc := 5) 1 dJ3_checkIndex_8e157_5 rfl rfl ?_
    refine j_icmp_lt (pc := 6) (tgt := 16) dJ3_checkIndex_8e157_6 (by decide) rfl (fun hc => ?_) (fun hc => ?_)
    · refine j_iload_n (pc := 16) 0 dJ3_checkIndex_8e157_16 rfl rfl ?_
      exact j_ireturn dJ3_checkIndex_8e157_17 hX rfl rfl
    · exact J.none
/-! J15_checkIndex_7cf53 -/
noncomputable def f_J15_checkIndex_7cf53 (z : Nat) (a0 : Int32) (a1 : Int32) (g : Hp) : Option (Int32 × Hp) :=
  (f_J3_checkIndex_8e157 z a0 a1 none g).bind fun q1 =>
  some (q1.1, q1.2)
set_option maxRecDepth 20000 in
theorem m_J15_checkIndex_7cf53 (z : Nat) (a0 : Int32) (a1 : Int32) (g : Hp) : FM yJ15_checkIndex_7cf53 cJ15_checkIndex_7cf53 2 (some .int) 1 22 rtI [sI a0, sI a1] g (f_J15_checkIndex_7cf53 z a0 a1 g) := by
  refine FM.entry (by decide +kernel) (Nat.le_of_ble_eq_true rfl) (fun X hX => ?_)
  unfold f_J15_checkIndex_7cf53
  show J yJ15_checkIndex_7cf53 cJ15_checkIndex_7cf53 2 (some .int) 1 22 X g 0 [(0, sI a0), (1, sI a1)] [] _
  refine j_iload_n (pc := 0) 0 dJ15_checkIndex_7cf53_0 rfl rfl ?_
  refine j_iload_n (pc := 1) 1 dJ15_checkIndex_7cf53_1 rfl rfl ?_
  refine j_null (pc := 2) dJ15_checkIndex_7cf53_2 ?_
  refine j_callS (pc := 3) (own := RJ15) [sI a0, sI a1, sR none] [] dJ15_checkIndex_7cf53_3 lc_J15_105 ls_J3_checkIndex_8e157 rfl (m_J3_checkIndex_8e157 z a0 a1 none g) ⟨⟨Nat.le_of_ble_eq_true rfl, Nat.le_of_ble_eq_true rfl⟩, Nat.le_of_ble_eq_true rfl⟩ rfl rfl (fun q1r q1g => ?_)
  exact j_ireturn dJ15_checkIndex_7cf53_6 hX rfl rfl
/-! Jx4a65c_elementData_915e3 -/
noncomputable def f_Jx4a65c_elementData_915e3 (z : Nat) (t : Option Nm) (a0 : Int32) (g : Hp) : Option ((Option Nm) × Hp) :=
  (getR t 0 1 g).bind fun x1 =>
  (aldR x1 a0 g).bind fun x2 =>
  some (x2, g)
set_option maxRecDepth 20000 in
theorem m_Jx4a65c_elementData_915e3 (z : Nat) (t : Option Nm) (a0 : Int32) (g : Hp) : FM yJx4a65c_elementData_915e3 cJx4a65c_elementData_915e3 2 (some (.object "java/lang/Object")) 0 0 rtR [sR t, sI a0] g (f_Jx4a65c_elementData_915e3 z t a0 g) := by
  refine FM.entry (by decide +kernel) (Nat.le_of_ble_eq_true rfl) (fun X hX => ?_)
  unfold f_Jx4a65c_elementData_915e3
  show J yJx4a65c_elementData_915e3 cJx4a65c_elementData_915e3 2 (some (.object "java/lang/Object")) 0 0 X g 0 [(0, sR t), (1, sI a0)] [] _
  refine j_aload_n (pc := 0) 0 dJx4a65c_elementData_915e3_0 rfl rfl ?_
  refine j_getR (pc := 1) (own := RJx4a65c) dJx4a65c_elementData_915e3_1 lf_Jx4a65c_9 rfl rfl (fun x1 => ?_)
  refine j_iload_n (pc := 4) 1 dJx4a65c_elementData_915e3_4 rfl rfl ?_
  refine j_aldR (pc := 5) dJx4a65c_elementData_915e3_5 rfl (fun x2 => ?_)
  exact j_areturn dJx4a65c_elementData_915e3_6 hX rfl (Or.inl ⟨_, rfl⟩) rfl
/-! Jx4a65c_get_915e3 -/
noncomputable def f_Jx4a65c_get_915e3 (z : Nat) (t : Option Nm) (a0 : Int32) (g : Hp) : Option ((Option Nm) × Hp) :=
  (getI t 0 2 g).bind fun x1 =>
  (f_J15_checkIndex_7cf53 z a0 x1 g).bind fun q2 =>
  (ick t 0 (f_Jx4a65c_elementData_915e3 z t a0 q2.2)).bind fun q3 =>
  some (q3.1, q3.2)
set_option maxRecDepth 20000 in
theorem m_Jx4a65c_get_915e3 (z : Nat) (t : Option Nm) (a0 : Int32) (g : Hp) : FM yJx4a65c_get_915e3 cJx4a65c_get_915e3 2 (some (.object "java/lang/Object")) 2 43 rtR [sR t, sI a0] g (f_Jx4a65c_get_915e3 z t a0 g) := by
  refine FM.entry (by decide +kernel) (Nat.le_of_ble_eq_true rfl) (fun X hX => ?_)
  unfold f_Jx4a65c_get_915e3
  show J yJx4a65c_get_915e3 cJx4a65c_get_915e3 2 (some (.object "java/lang/Object")) 2 43 X g 0 [(0, sR t), (1, sI a0)] [] _
  refine j_iload_n (pc := 0) 1 dJx4a65c_get_915e3_0 rfl rfl ?_
  refine j_aload_n (pc := 1) 0 dJx4a65c_get_915e3_1 rfl rfl ?_
  refine j_getI (pc := 2) (own := RJx4a65c) dJx4a65c_get_915e3_2 lf_Jx4a65c_48 rfl rfl (fun x1 => ?_)
  refine j_callS (pc := 5) (own := RJx4a65c) [sI a0, sI x1] [] dJx4a65c_get_915e3_5 lc_Jx4a65c_118 ls_J15_checkIndex_7cf53 rfl (m_J15_checkIndex_7cf53 z a0 x1 g) ⟨⟨Nat.le_of_ble_eq_true rfl, Nat.le_of_ble_eq_true rfl⟩, Nat.le_of_ble_eq_true rfl⟩ rfl rfl (fun q2r q2g => ?_)
  refine j_pop (pc := 8) dJx4a65c_get_915e3_8 rfl ?_
  refine j_aload_n (pc := 9) 0 dJx4a65c_get_915e3_9 rfl rfl ?_
  refine j_iload_n (pc := 10) 1 dJx4a65c_get_915e3_10 rfl rfl ?_
  refine j_callV (pc := 11) (own := RJx4a65c) [sI a0] [] dJx4a65c_get_915e3_11 lc_Jx4a65c_123 lv_Jx4a65c_elementData_915e3 rfl (m_Jx4a65c_elementData_915e3 z t a0 q2g) ⟨⟨Nat.le_of_ble_eq_true rfl, Nat.le_of_ble_eq_true rfl⟩, Nat.le_of_ble_eq_true rfl⟩ rfl rfl (fun q3r q3g => ?_)
  exact j_areturn dJx4a65c_get_915e3_14 hX rfl (Or.inl ⟨_, rfl⟩) rfl
/-! J8_newLength_cabcc -/
noncomputable def f_J8_newLength_cabcc (z : Nat) (a0 : Int32) (a1 : Int32) (a2 : Int32) (g : Hp) : Option (Int32 × Hp) :=
  if (a0 + (imax a1 a2)) ≤ 0 then (none)
  else (if 2147483639 < (a0 + (imax a1 a2)) then (none)
    else (some ((a0 + (imax a1 a2)), g)))
set_option maxRecDepth 20000 in
theorem m_J8_newLength_cabcc (z : Nat) (a0 : Int32) (a1 : Int32) (a2 : Int32) (g : Hp) : FM yJ8_newLength_cabcc cJ8_newLength_cabcc 4 (some .int) 1 14 rtI [sI a0, sI a1, sI a2] g (f_J8_newLength_cabcc z a0 a1 a2 g) := by
  refine FM.entry (by decide +kernel) (Nat.le_of_ble_eq_true rfl) (fun X hX => ?_)
  unfold f_J8_newLength_cabcc
  show J yJ8_newLength_cabcc cJ8_newLength_cabcc 4 (some .int) 1 14 X g 0 [(0, sI a0), (1, sI a1), (2, sI a2)] [] _
  refine j_iload_n (pc := 0) 0 dJ8_newLength_cabcc_0 rfl rfl ?_
  refine j_iload_n (pc := 1) 1 dJ8_newLength_cabcc_1 rfl rfl ?_
  refine j_iload_n (pc := 2) 2 dJ8_newLength_cabcc_2 rfl rfl ?_
  refine j_max (pc := 3) (own := RJ8) dJ8_newLength_cabcc_3 lM_J8_194 rfl ⟨Nat.le_of_ble_eq_true rfl, Nat.le_of_ble_eq_true rfl⟩ ?_
  refine j_iadd (pc := 6) dJ8_newLength_cabcc_6 ?_
  refine j_istore_n (pc := 7) (lv' := [(3, sI (a0 + (imax a1 a2))), (0, sI a0), (1, sI a1), (2, sI a2)]) dJ8_newLength_cabcc_7 rfl (by decide) rfl ?_
  refine j_iconst (pc := 8) (v := 0) dJ8_newLength_cabcc_8 (by decide) ?_
  refine j_iload_n (pc := 9) 0 dJ8_newLength_cabcc_9 rfl rfl ?_
  refine j_icmp_ge (pc := 10) (tgt := 21) dJ8_newLength_cabcc_10 (by decide) rfl (fun hc => ?_) (fun hc => ?_)
  · exact J.none
  · refine j_iload_n (pc := 13) 0 dJ8_newLength_cabcc_13 rfl rfl ?_
    refine j_ldc (pc := 14) (own := RJ8) (v := 2147483639) dJ8_newLength_cabcc_14 rfl lk_J8_200 ?_
    refine j_icmp_gt (pc := 16) (tgt := 21) dJ8_newLength_cabcc_16 (by decide) rfl (fun hc => ?_) (fun hc => ?_)
    · exact J.none
    · refine j_iload_n (pc := 19) 0 dJ8_newLength_cabcc_19 rfl rfl ?_
      exact j_ireturn dJ8_newLength_cabcc_20 hX rfl rfl
/-! J7_copyOf_6403c -/
noncomputable def f_J7_copyOf_6403c (z : Nat) (a0 : Option Nm) (a1 : Int32) (a2 : Option Nm) (g : Hp) : Option ((Option Nm) × Hp) :=
  (acq a2 (some (19, 0)) g).bind fun zz => if zz = true then ((mkR (nca a0, nix a0 + 1) a1 g).bind fun q1 =>
    (alen a0 q1.2).bind fun x2 =>
    (cpyR a0 0 q1.1 0 (imin x2 a1) q1.2).bind fun g3 =>
    some (q1.1, g3))
  else (none)
set_option maxRecDepth 20000 in
theorem m_J7_copyOf_6403c (z : Nat) (a0 : Option Nm) (a1 : Int32) (a2 : Option Nm) (g : Hp) : FM yJ7_copyOf_6403c cJ7_copyOf_6403c 4 (some (.array (.object "java/lang/Object"))) 1 18 rtR [sR a0, sI a1, sR a2] g (f_J7_copyOf_6403c z a0 a1 a2 g) := by
  refine FM.entry (by decide +kernel) (Nat.le_of_ble_eq_true rfl) (fun X hX => ?_)
  unfold f_J7_copyOf_6403c
  show J yJ7_copyOf_6403c cJ7_copyOf_6403c 4 (some (.array (.object "java/lang/Object"))) 1 18 X g 0 [(0, sR a0), (1, sI a1), (2, sR a2)] [] _
  refine j_aload_n (pc := 0) 2 dJ7_copyOf_6403c_0 rfl rfl ?_
  refine j_ldcC (pc := 1) (own := RJ7) dJ7_copyOf_6403c_1 rfl lq_J7_110 ?_
  refine b_acmp_ne (tgt := 13) dJ7_copyOf_6403c_3 (by decide) rfl ?_ ?_
  · exact J.none
  · refine j_iload_n (pc := 6) 1 dJ7_copyOf_6403c_6 rfl rfl ?_
    refine j_mkR (pc := 7) (own := RJ7) dJ7_copyOf_6403c_7 rfl lq_J7_2 rfl (fun q1r q1g => ?_)
    refine j_goto (pc := 10) (tgt := 24) dJ7_copyOf_6403c_10 (by decide) ?_
    refine j_astore_n (pc := 24) (lv' := [(3, sR q1r), (0, sR a0), (1, sI a1), (2, sR a2)]) dJ7_copyOf_6403c_24 rfl (by decide) rfl ?_
    refine j_aload_n (pc := 25) 1 dJ7_copyOf_6403c_25 rfl rfl ?_
    refine j_iconst (pc := 26) (v := 0) dJ7_copyOf_6403c_26 (by decide) ?_
    refine j_aload_n (pc := 27) 0 dJ7_copyOf_6403c_27 rfl rfl ?_
    refine j_iconst (pc := 28) (v := 0) dJ7_copyOf_6403c_28 (by decide) ?_
    refine j_aload_n (pc := 29) 1 dJ7_copyOf_6403c_29 rfl rfl ?_
    refine j_alen (pc := 30) dJ7_copyOf_6403c_30 rfl (fun x2 => ?_)
    refine j_iload_n (pc := 31) 2 dJ7_copyOf_6403c_31 rfl rfl ?_
    refine j_min (pc := 32) (own := RJ7) dJ7_copyOf_6403c_32 lM_J7_304 rfl ⟨Nat.le_of_ble_eq_true rfl, Nat.le_of_ble_eq_true rfl⟩ ?_
    refine j_cpyR (pc := 35) (own := RJ7) dJ7_copyOf_6403c_35 la_J7_150 rfl ⟨Nat.le_of_ble_eq_true rfl, Nat.le_of_ble_eq_true rfl⟩ rfl (fun g3 => ?_)
    refine j_aload_n (pc := 38) 0 dJ7_copyOf_6403c_38 rfl rfl ?_
    exact j_areturn dJ7_copyOf_6403c_39 hX rfl (Or.inr ⟨_, rfl⟩) rfl
/-! J7_copyOf_1904c -/
noncomputable def f_J7_copyOf_1904c (z : Nat) (a0 : Option Nm) (a1 : Int32) (g : Hp) : Option ((Option Nm) × Hp) :=
  (gclas a0).bind fun x1 =>
  (f_J7_copyOf_6403c z a0 a1 x1 g).bind fun q2 =>
  some (q2.1, q2.2)
set_option maxRecDepth 20000 in
theorem m_J7_copyOf_1904c (z : Nat) (a0 : Option Nm) (a1 : Int32) (g : Hp) : FM yJ7_copyOf_1904c cJ7_copyOf_1904c 2 (some (.array (.object "java/lang/Object"))) 2 41 rtR [sR a0, sI a1] g (f_J7_copyOf_1904c z a0 a1 g) := by
  refine FM.entry (by decide +kernel) (Nat.le_of_ble_eq_true rfl) (fun X hX => ?_)
  unfold f_J7_copyOf_1904c
  show J yJ7_copyOf_1904c cJ7_copyOf_1904c 2 (some (.array (.object "java/lang/Object"))) 2 41 X g 0 [(0, sR a0), (1, sI a1)] [] _
  refine j_aload_n (pc := 0) 0 dJ7_copyOf_1904c_0 rfl rfl ?_
  refine j_iload_n (pc := 1) 1 dJ7_copyOf_1904c_1 rfl rfl ?_
  refine j_aload_n (pc := 2) 0 dJ7_copyOf_1904c_2 rfl rfl ?_
  refine j_gclas (pc := 3) (own := RJ7) dJ7_copyOf_1904c_3 lG_J7_86 rfl ⟨Nat.le_of_ble_eq_true rfl, Nat.le_of_ble_eq_true rfl⟩ rfl (fun x1 => ?_)
  refine j_callS (pc := 6) (own := RJ7) [sR a0, sI a1, sR x1] [] dJ7_copyOf_1904c_6 lc_J7_300 ls_J7_copyOf_6403c rfl (m_J7_copyOf_6403c z a0 a1 x1 g) ⟨⟨Nat.le_of_ble_eq_true rfl, Nat.le_of_ble_eq_true rfl⟩, Nat.le_of_ble_eq_true rfl⟩ rfl rfl (fun q2r q2g => ?_)
  exact j_areturn dJ7_copyOf_1904c_9 hX rfl (Or.inr ⟨_, rfl⟩) rfl
/-! Jx4a65c_grow_92f84 -/
noncomputable def f_Jx4a65c_grow_92f84 (z : Nat) (t : Option Nm) (a0 : Int32) (g : Hp) : Option ((Option Nm) × Hp) :=
  (getR t 0 1 g).bind fun x1 =>
  (alen x1 g).bind fun x2 =>
  if 0 < x2 then ((f_J8_newLength_cabcc z x2 (a0 - x2) (x2 >>> (1 &&& 31)) g).bind fun q3 =>
    (getR t 0 1 q3.2).bind fun x4 =>
    (f_J7_copyOf_1904c z x4 q3.1 q3.2).bind fun q5 =>
    (putR t 0 1 q5.1 q5.2).bind fun g6 =>
    some (q5.1, g6))
  else ((getR t 0 1 g).bind fun x7 =>
    (acq x7 (some (17, 0)) g).bind fun zz => if zz = true then ((mkR (12 + nix t, 0) (imax 10 a0) g).bind fun q8 =>
      (putR t 0 1 q8.1 q8.2).bind fun g9 =>
      some (q8.1, g9))
    else ((f_J8_newLength_cabcc z x2 (a0 - x2) (x2 >>> (1 &&& 31)) g).bind fun q10 =>
      (getR t 0 1 q10.2).bind fun x11 =>
      (f_J7_copyOf_1904c z x11 q10.1 q10.2).bind fun q12 =>
      (putR t 0 1 q12.1 q12.2).bind fun g13 =>
      some (q12.1, g13)))
set_option maxRecDepth 20000 in
theorem m_Jx4a65c_grow_92f84 (z : Nat) (t : Option Nm) (a0 : Int32) (g : Hp) : FM yJx4a65c_grow_92f84 cJx4a65c_grow_92f84 4 (some (.array (.object "java/lang/Object"))) 3 62 rtR [sR t, sI a0] g (f_Jx4a65c_grow_92f84 z t a0 g) := by
  refine FM.entry (by decide +kernel) (Nat.le_of_ble_eq_true rfl) (fun X hX => ?_)
  unfold f_Jx4a65c_grow_92f84
  show J yJx4a65c_grow_92f84 cJx4a65c_grow_92f84 4 (some (.array (.object "java/lang/Object"))) 3 62 X g 0 [(0, sR t), (1, sI a0)] [] _
  refine j_aload_n (pc := 0) 0 dJx4a65c_grow_92f84_0 rfl rfl ?_
  refine j_getR (pc := 1) (own := RJx4a65c) dJx4a65c_grow_92f84_1 lf_Jx4a65c_9 rfl rfl (fun x1 => ?_)
  refine j_alen (pc := 4) dJx4a65c_grow_92f84_4 rfl (fun x2 => ?_)
  refine j_istore_n (pc := 5) (lv' := [(2, sI x2), (0, sR t), (1, sI a0)]) dJx4a65c_grow_92f84_5 rfl (by decide) rfl ?_
  refine j_iload_n (pc := 6) 0 dJx4a65c_grow_92f84_6 rfl rfl ?_
  refine j_if_gt (pc := 7) (tgt := 20) dJx4a65c_grow_92f84_7 (by decide) rfl (fun hc => ?_) (fun hc => ?_)
  · refine j_iload_n (pc := 20) 0 dJx4a65c_grow_92f84_20 rfl rfl ?_
    refine j_iload_n (pc := 21) 2 dJx4a65c_grow_92f84_21 rfl rfl ?_
    refine j_iload_n (pc := 22) 0 dJx4a65c_grow_92f84_22 rfl rfl ?_
    refine j_isub (pc := 23) dJx4a65c_grow_92f84_23 ?_
    refine j_iload_n (pc := 24) 0 dJx4a65c_grow_92f84_24 rfl rfl ?_
    refine j_iconst (pc := 25) (v := 1) dJx4a65c_grow_92f84_25 (by decide) ?_
    refine j_ishr (pc := 26) dJx4a65c_grow_92f84_26 ?_
    refine j_callS (pc := 27) (own := RJx4a65c) [sI x2, sI (a0 - x2), sI (x2 >>> (1 &&& 31))] [] dJx4a65c_grow_92f84_27 lc_Jx4a65c_73 ls_J8_newLength_cabcc rfl (m_J8_newLength_cabcc z x2 (a0 - x2) (x2 >>> (1 &&& 31)) g) ⟨⟨Nat.le_of_ble_eq_true rfl, Nat.le_of_ble_eq_true rfl⟩, Nat.le_of_ble_eq_true rfl⟩ rfl rfl (fun q3r q3g => ?_)
    refine j_istore_n (pc := 30) (lv' := [(3, sI q3r), (2, sI x2), (0, sR t), (1, sI a0)]) dJx4a65c_grow_92f84_30 rfl (by decide) rfl ?_
    refine j_aload_n (pc := 31) 2 dJx4a65c_grow_92f84_31 rfl rfl ?_
    refine j_aload_n (pc := 32) 2 dJx4a65c_grow_92f84_32 rfl rfl ?_
    refine j_getR (pc := 33) (own := RJx4a65c) dJx4a65c_grow_92f84_33 lf_Jx4a65c_9 rfl rfl (fun x4 => ?_)
    refine j_iload_n (pc := 36) 0 dJx4a65c_grow_92f84_36 rfl rfl ?_
    refine j_callS (pc := 37) (own := RJx4a65c) [sR x4, sI q3r] [sR t] dJx4a65c_grow_92f84_37 lc_Jx4a65c_66 ls_J7_copyOf_1904c rfl (m_J7_copyOf_1904c z x4 q3r q3g) ⟨⟨Nat.le_of_ble_eq_true rfl, Nat.le_of_ble_eq_true rfl⟩, Nat.le_of_ble_eq_true rfl⟩ rfl rfl (fun q5r q5g => ?_)
    refine j_dup_x1 (pc := 40) dJx4a65c_grow_92f84_40 rfl rfl ?_
    refine j_putR (pc := 41) (own := RJx4a65c) dJx4a65c_grow_92f84_41 lf_Jx4a65c_9 lt_0_1 rfl lw_Jx4a65c_9_Jx4a65c_grow_92f84 rfl rfl (fun g6 => ?_)
    exact j_areturn dJx4a65c_grow_92f84_44 hX rfl (Or.inr ⟨_, rfl⟩) rfl
  · refine j_aload_n (pc := 10) 1 dJx4a65c_grow_92f84_10 rfl rfl ?_
    refine j_getR (pc := 11) (own := RJx4a65c) dJx4a65c_grow_92f84_11 lf_Jx4a65c_9 rfl rfl (fun x7 => ?_)
    refine j_gdef (pc := 14) (own := RJx4a65c) dJx4a65c_grow_92f84_14 rfl lg_Jx4a65c_39 ?_
    refine b_acmp_eq (tgt := 45) dJx4a65c_grow_92f84_17 (by decide) rfl ?_ ?_
    · refine j_aload_n (pc := 45) 1 dJx4a65c_grow_92f84_45 rfl rfl ?_
      refine j_bipush (pc := 46) (v := 10) dJx4a65c_grow_92f84_46 (by decide) ?_
      refine j_iload_n (pc := 48) 2 dJx4a65c_grow_92f84_48 rfl rfl ?_
      refine j_max (pc := 49) (own := RJx4a65c) dJx4a65c_grow_92f84_49 lM_Jx4a65c_79 rfl ⟨Nat.le_of_ble_eq_true rfl, Nat.le_of_ble_eq_true rfl⟩ ?_
      refine j_mkR (pc := 52) (own := RJx4a65c) dJx4a65c_grow_92f84_52 rfl lq_Jx4a65c_7 rfl (fun q8r q8g => ?_)
      refine j_dup_x1 (pc := 55) dJx4a65c_grow_92f84_55 rfl rfl ?_
      refine j_putR (pc := 56) (own := RJx4a65c) dJx4a65c_grow_92f84_56 lf_Jx4a65c_9 lt_0_1 rfl lw_Jx4a65c_9_Jx4a65c_grow_92f84 rfl rfl (fun g9 => ?_)
      exact j_areturn dJx4a65c_grow_92f84_59 hX rfl (Or.inr ⟨_, rfl⟩) rfl
    · refine j_iload_n (pc := 20) 0 dJx4a65c_grow_92f84_20 rfl rfl ?_
      refine j_iload_n (pc := 21) 2 dJx4a65c_grow_92f84_21 rfl rfl ?_
      refine j_iload_n (pc := 22) 0 dJx4a65c_grow_92f84_22 rfl rfl ?_
      refine j_isub (pc := 23) dJx4a65c_grow_92f84_23 ?_
      refine j_iload_n (pc := 24) 0 dJx4a65c_grow_92f84_24 rfl rfl ?_
      refine j_iconst (pc := 25) (v := 1) dJx4a65c_grow_92f84_25 (by decide) ?_
      refine j_ishr (pc := 26) dJx4a65c_grow_92f84_26 ?_
      refine j_callS (pc := 27) (own := RJx4a65c) [sI x2, sI (a0 - x2), sI (x2 >>> (1 &&& 31))] [] dJx4a65c_grow_92f84_27 lc_Jx4a65c_73 ls_J8_newLength_cabcc rfl (m_J8_newLength_cabcc z x2 (a0 - x2) (x2 >>> (1 &&& 31)) g) ⟨⟨Nat.le_of_ble_eq_true rfl, Nat.le_of_ble_eq_true rfl⟩, Nat.le_of_ble_eq_true rfl⟩ rfl rfl (fun q10r q10g => ?_)
      refine j_istore_n (pc := 30) (lv' := [(3, sI q10r), (2, sI x2), (0, sR t), (1, sI a0)]) dJx4a65c_grow_92f84_30 rfl (by decide) rfl ?_
      refine j_aload_n (pc := 31) 2 dJx4a65c_grow_92f84_31 rfl rfl ?_
      refine j_aload_n (pc := 32) 2 dJx4a65c_grow_92f84_32 rfl rfl ?_
      refine j_getR (pc := 33) (own := RJx4a65c) dJx4a65c_grow_92f84_33 lf_Jx4a65c_9 rfl rfl (fun x11 => ?_)
      refine j_iload_n (pc := 36) 0 dJx4a65c_grow_92f84_36 rfl rfl ?_
      refine j_callS (pc := 37) (own := RJx4a65c) [sR x11, sI q10r] [sR t] dJx4a65c_grow_92f84_37 lc_Jx4a65c_66 ls_J7_copyOf_1904c rfl (m_J7_copyOf_1904c z x11 q10r q10g) ⟨⟨Nat.le_of_ble_eq_true rfl, Nat.le_of_ble_eq_true rfl⟩, Nat.le_of_ble_eq_true rfl⟩ rfl rfl (fun q12r q12g => ?_)
      refine j_dup_x1 (pc := 40) dJx4a65c_grow_92f84_40 rfl rfl ?_
      refine j_putR (pc := 41) (own := RJx4a65c) dJx4a65c_grow_92f84_41 lf_Jx4a65c_9 lt_0_1 rfl lw_Jx4a65c_9_Jx4a65c_grow_92f84 rfl rfl (fun g13 => ?_)
      exact j_areturn dJx4a65c_grow_92f84_44 hX rfl (Or.inr ⟨_, rfl⟩) rfl
/-! Jx4a65c_grow_d5877 -/
noncomputable def f_Jx4a65c_grow_d5877 (z : Nat) (t : Option Nm) (g : Hp) : Option ((Option Nm) × Hp) :=
  (getI t 0 2 g).bind fun x1 =>
  (ick t 0 (f_Jx4a65c_grow_92f84 z t (x1 + 1) g)).bind fun q2 =>
  some (q2.1, q2.2)
set_option maxRecDepth 20000 in
theorem m_Jx4a65c_grow_d5877 (z : Nat) (t : Option Nm) (g : Hp) : FM yJx4a65c_grow_d5877 cJx4a65c_grow_d5877 1 (some (.array (.object "java/lang/Object"))) 4 85 rtR [sR t] g (f_Jx4a65c_grow_d5877 z t g) := by
  refine FM.entry (by decide +kernel) (Nat.le_of_ble_eq_true rfl) (fun X hX => ?_)
  unfold f_Jx4a65c_grow_d5877
  show J yJx4a65c_grow_d5877 cJx4a65c_grow_d5877 1 (some (.array (.object "java/lang/Object"))) 4 85 X g 0 [(0, sR t)] [] _
  refine j_aload_n (pc := 0) 0 dJx4a65c_grow_d5877_0 rfl rfl ?_
  refine j_aload_n (pc := 1) 0 dJx4a65c_grow_d5877_1 rfl rfl ?_
  refine j_getI (pc := 2) (own := RJx4a65c) dJx4a65c_grow_d5877_2 lf_Jx4a65c_48 rfl rfl (fun x1 => ?_)
  refine j_iconst (pc := 5) (v := 1) dJx4a65c_grow_d5877_5 (by decide) ?_
  refine j_iadd (pc := 6) dJx4a65c_grow_d5877_6 ?_
  refine j_callV (pc := 7) (own := RJx4a65c) [sI (x1 + 1)] [] dJx4a65c_grow_d5877_7 lc_Jx4a65c_69 lv_Jx4a65c_grow_92f84 rfl (m_Jx4a65c_grow_92f84 z t (x1 + 1) g) ⟨⟨Nat.le_of_ble_eq_true rfl, Nat.le_of_ble_eq_true rfl⟩, Nat.le_of_ble_eq_true rfl⟩ rfl rfl (fun q2r q2g => ?_)
  exact j_areturn dJx4a65c_grow_d5877_10 hX rfl (Or.inr ⟨_, rfl⟩) rfl
/-! Jx4a65c_add_72be8 -/
noncomputable def f_Jx4a65c_add_72be8 (z : Nat) (t : Option Nm) (a0 : Option Nm) (a1 : Option Nm) (a2 : Int32) (g : Hp) : Option (Unit × Hp) :=
  (alen a1 g).bind fun x1 =>
  ((if a2 = x1 then ((ick t 0 (f_Jx4a65c_grow_d5877 z t g)).bind fun q2 =>
      some (q2.1, q2.2))
    else (some (a1, g))) : Option (Option Nm × Hp)).bind fun q3 =>
  (astR q3.1 a2 a0 q3.2).bind fun g4 =>
  (putI t 0 2 (a2 + 1) g4).bind fun g5 =>
  some ((), g5)
set_option maxRecDepth 20000 in
theorem m_Jx4a65c_add_72be8 (z : Nat) (t : Option Nm) (a0 : Option Nm) (a1 : Option Nm) (a2 : Int32) (g : Hp) : FM yJx4a65c_add_72be8 cJx4a65c_add_72be8 4 none 5 105 rtV [sR t, sR a0, sR a1, sI a2] g (f_Jx4a65c_add_72be8 z t a0 a1 a2 g) := by
  refine FM.entry (by decide +kernel) (Nat.le_of_ble_eq_true rfl) (fun X hX => ?_)
  unfold f_Jx4a65c_add_72be8
  show J yJx4a65c_add_72be8 cJx4a65c_add_72be8 4 none 5 105 X g 0 [(0, sR t), (1, sR a0), (2, sR a1), (3, sI a2)] [] _
  refine j_iload_n (pc := 0) 3 dJx4a65c_add_72be8_0 rfl rfl ?_
  refine j_aload_n (pc := 1) 2 dJx4a65c_add_72be8_1 rfl rfl ?_
  refine j_alen (pc := 2) dJx4a65c_add_72be8_2 rfl (fun x1 => ?_)
  refine J.jn (σ := Option Nm × Hp) (fun q3 pr => J yJx4a65c_add_72be8 cJx4a65c_add_72be8 4 none 5 105 X q3.2 11 [(0, sR t), (1, sR a0), (2, sR q3.1), (3, sI a2)] [] pr) (fun K11 hK11 => ?_) (fun q3 => ?_)
  · refine j_icmp_ne (pc := 3) (tgt := 11) dJx4a65c_add_72be8_3 (by decide) bi (fun hc => ?_) (fun hc => ?_)
    · exact hK11 (a1, g)
    · refine j_aload_n (pc := 6) 0 dJx4a65c_add_72be8_6 rfl rfl ?_
      refine j_callV (pc := 7) (own := RJx4a65c) [] [] dJx4a65c_add_72be8_7 lc_Jx4a65c_129 lv_Jx4a65c_grow_d5877 rfl (m_Jx4a65c_grow_d5877 z t g) ⟨⟨Nat.le_of_ble_eq_true rfl, Nat.le_of_ble_eq_true rfl⟩, Nat.le_of_ble_eq_true rfl⟩ rfl bb (fun q2r q2g => ?_)
      refine j_astore_n (pc := 10) (lv' := [(2, sR q2r), (0, sR t), (1, sR a0), (3, sI a2)]) dJx4a65c_add_72be8_10 rfl (by decide) rfl ?_
      refine J.sub [1, 2, 0, 3] rfl ?_
      exact hK11 (q2r, q2g)
  · refine j_aload_n (pc := 11) 2 dJx4a65c_add_72be8_11 rfl rfl ?_
    refine j_iload_n (pc := 12) 3 dJx4a65c_add_72be8_12 rfl rfl ?_
    refine j_aload_n (pc := 13) 1 dJx4a65c_add_72be8_13 rfl rfl ?_
    refine j_astR (pc := 14) dJx4a65c_add_72be8_14 rfl (fun g4 => ?_)
    refine j_aload_n (pc := 15) 0 dJx4a65c_add_72be8_15 rfl rfl ?_
    refine j_iload_n (pc := 16) 3 dJx4a65c_add_72be8_16 rfl rfl ?_
    refine j_iconst (pc := 17) (v := 1) dJx4a65c_add_72be8_17 (by decide) ?_
    refine j_iadd (pc := 18) dJx4a65c_add_72be8_18 ?_
    refine j_putI (pc := 19) (own := RJx4a65c) dJx4a65c_add_72be8_19 lf_Jx4a65c_48 lt_0_2 lw_Jx4a65c_48_Jx4a65c_add_72be8 rfl rfl (fun g5 => ?_)
    exact j_return dJx4a65c_add_72be8_22 hX rfl rfl
/-! Jx4a65c_add_9ea2d -/
noncomputable def f_Jx4a65c_add_9ea2d (z : Nat) (t : Option Nm) (a0 : Option Nm) (g : Hp) : Option (Int32 × Hp) :=
  (getI t 0 0 g).bind fun x1 =>
  (putI t 0 0 (x1 + 1) g).bind fun g2 =>
  (getR t 0 1 g2).bind fun x3 =>
  (getI t 0 2 g2).bind fun x4 =>
  (ick t 0 (f_Jx4a65c_add_72be8 z t a0 x3 x4 g2)).bind fun q5 =>
  rtZ 1 q5.2
set_option maxRecDepth 20000 in
theorem m_Jx4a65c_add_9ea2d (z : Nat) (t : Option Nm) (a0 : Option Nm) (g : Hp) : FM yJx4a65c_add_9ea2d cJx4a65c_add_9ea2d 2 (some .boolean) 6 128 rtI [sR t, sR a0] g (f_Jx4a65c_add_9ea2d z t a0 g) := by
  refine FM.entry (by decide +kernel) (Nat.le_of_ble_eq_true rfl) (fun X hX => ?_)
  unfold f_Jx4a65c_add_9ea2d
  show J yJx4a65c_add_9ea2d cJx4a65c_add_9ea2d 2 (some .boolean) 6 128 X g 0 [(0, sR t), (1, sR a0)] [] _
  refine j_aload_n (pc := 0) 0 dJx4a65c_add_9ea2d_0 rfl rfl ?_
  refine j_dup (pc := 1) dJx4a65c_add_9ea2d_1 rfl ?_
  refine j_getI (pc := 2) (own := RJx4a65c) dJx4a65c_add_9ea2d_2 lf_Jx4a65c_63 rfl rfl (fun x1 => ?_)
  refine j_iconst (pc := 5) (v := 1) dJx4a65c_add_9ea2d_5 (by decide) ?_
  refine j_iadd (pc := 6) dJx4a65c_add_9ea2d_6 ?_
  refine j_putI (pc := 7) (own := RJx4a65c) dJx4a65c_add_9ea2d_7 lf_Jx4a65c_63 lt_0_0 lw_Jx4a65c_63_Jx4a65c_add_9ea2d rfl rfl (fun g2 => ?_)
  refine j_aload_n (pc := 10) 0 dJx4a65c_add_9ea2d_10 rfl rfl ?_
  refine j_aload_n (pc := 11) 1 dJx4a65c_add_9ea2d_11 rfl rfl ?_
  refine j_aload_n (pc := 12) 0 dJx4a65c_add_9ea2d_12 rfl rfl ?_
  refine j_getR (pc := 13) (own := RJx4a65c) dJx4a65c_add_9ea2d_13 lf_Jx4a65c_9 rfl rfl (fun x3 => ?_)
  refine j_aload_n (pc := 16) 0 dJx4a65c_add_9ea2d_16 rfl rfl ?_
  refine j_getI (pc := 17) (own := RJx4a65c) dJx4a65c_add_9ea2d_17 lf_Jx4a65c_48 rfl rfl (fun x4 => ?_)
  refine j_callV (pc := 20) (own := RJx4a65c) [sR a0, sR x3, sI x4] [] dJx4a65c_add_9ea2d_20 lc_Jx4a65c_131 lv_Jx4a65c_add_72be8 rfl (m_Jx4a65c_add_72be8 z t a0 x3 x4 g2) ⟨⟨Nat.le_of_ble_eq_true rfl, Nat.le_of_ble_eq_true rfl⟩, Nat.le_of_ble_eq_true rfl⟩ rfl rfl (fun q5r q5g => ?_)
  refine j_iconst (pc := 23) (v := 1) dJx4a65c_add_9ea2d_23 (by decide) ?_
  exact j_zreturn dJx4a65c_add_9ea2d_24 hX rfl rfl
/-! J6_numberOfLeadingZeros_0f7a4 -/
noncomputable def f_J6_numberOfLeadingZeros_0f7a4 (z : Nat) (a0 : Int32) (g : Hp) : Option (Int32 × Hp) :=
  if 0 < a0 then (((if a0 < 65536 then (some (31, a0))
      else (some ((31 + (-16)), ((a0 : Int32).toUInt32 >>> ((16 : Int32).toUInt32 &&& Int32.toUInt32 31)).toInt32))) : Option (Int32 × Int32)).bind fun q1 =>
    ((if q1.2 < 256 then (some (q1.1, q1.2))
      else (some ((q1.1 + (-8)), ((q1.2 : Int32).toUInt32 >>> ((8 : Int32).toUInt32 &&& Int32.toUInt32 31)).toInt32))) : Option (Int32 × Int32)).bind fun q2 =>
    ((if q2.2 < 16 then (some (q2.1, q2.2))
      else (some ((q2.1 + (-4)), ((q2.2 : Int32).toUInt32 >>> ((4 : Int32).toUInt32 &&& Int32.toUInt32 31)).toInt32))) : Option (Int32 × Int32)).bind fun q3 =>
    ((if q3.2 < 4 then (some (q3.1, q3.2))
      else (some ((q3.1 + (-2)), ((q3.2 : Int32).toUInt32 >>> ((2 : Int32).toUInt32 &&& Int32.toUInt32 31)).toInt32))) : Option (Int32 × Int32)).bind fun q4 =>
    some ((q4.1 - ((q4.2 : Int32).toUInt32 >>> ((1 : Int32).toUInt32 &&& Int32.toUInt32 31)).toInt32), g))
  else (if a0 = 0 then (some (32, g))
    else (some (0, g)))
set_option maxRecDepth 20000 in
theorem m_J6_numberOfLeadingZeros_0f7a4 (z : Nat) (a0 : Int32) (g : Hp) : FM yJ6_numberOfLeadingZeros_0f7a4 cJ6_numberOfLeadingZeros_0f7a4 2 (some .int) 0 0 rtI [sI a0] g (f_J6_numberOfLeadingZeros_0f7a4 z a0 g) := by
  refine FM.entry (by decide +kernel) (Nat.le_of_ble_eq_true rfl) (fun X hX => ?_)
  unfold f_J6_numberOfLeadingZeros_0f7a4
  show J yJ6_numberOfLeadingZeros_0f7a4 cJ6_numberOfLeadingZeros_0f7a4 2 (some .int) 0 0 X g 0 [(0, sI a0)] [] _
  refine j_iload_n (pc := 0) 0 dJ6_numberOfLeadingZeros_0f7a4_0 rfl rfl ?_
  refine j_if_gt (pc := 1) (tgt := 15) dJ6_numberOfLeadingZeros_0f7a4_1 (by decide) rfl (fun hc => ?_) (fun hc => ?_)
  · refine j_bipush (pc := 15) (v := 31) dJ6_numberOfLeadingZeros_0f7a4_15 (by decide) ?_
    refine j_istore_n (pc := 17) (lv' := [(1, sI 31), (0, sI a0)]) dJ6_numberOfLeadingZeros_0f7a4_17 rfl (by decide) rfl ?_
    refine j_iload_n (pc := 18) 1 dJ6_numberOfLeadingZeros_0f7a4_18 rfl rfl ?_
    refine j_ldcw (pc := 19) (own := RJ6) (v := 65536) dJ6_numberOfLeadingZeros_0f7a4_19 rfl lk_J6_264 ?_
    refine J.jn (σ := Int32 × Int32) (fun q1 pr => J yJ6_numberOfLeadingZeros_0f7a4 cJ6_numberOfLeadingZeros_0f7a4 2 (some .int) 0 0 X g 33 [(1, sI q1.1), (0, sI q1.2)] [] pr) (fun K33 hK33 => ?_) (fun q1 => ?_)
    · refine j_icmp_lt (pc := 22) (tgt := 33) dJ6_numberOfLeadingZeros_0f7a4_22 (by decide) bi (fun hc => ?_) (fun hc => ?_)
      · exact hK33 (31, a0)
      · refine j_iinc (pc := 25) (v := (31 + (-16))) (lv' := [(1, sI (31 + (-16))), (0, sI a0)]) 0 dJ6_numberOfLeadingZeros_0f7a4_25 rfl rfl (by decide) rfl ?_
        refine j_iload_n (pc := 28) 1 dJ6_numberOfLeadingZeros_0f7a4_28 rfl rfl ?_
        refine j_bipush (pc := 29) (v := 16) dJ6_numberOfLeadingZeros_0f7a4_29 (by decide) ?_
        refine j_iushr (pc := 31) dJ6_numberOfLeadingZeros_0f7a4_31 ?_
        refine j_istore_n (pc := 32) (lv' := [(0, sI ((a0 : Int32).toUInt32 >>> ((16 : Int32).toUInt32 &&& Int32.toUInt32 31)).toInt32), (1, sI (31 + (-16)))]) dJ6_numberOfLeadingZeros_0f7a4_32 rfl (by decide) rfl ?_
        refine J.sub [1, 0] rfl ?_
        exact hK33 ((31 + (-16)), ((a0 : Int32).toUInt32 >>> ((16 : Int32).toUInt32 &&& Int32.toUInt32 31)).toInt32)
    · refine j_iload_n (pc := 33) 1 dJ6_numberOfLeadingZeros_0f7a4_33 rfl rfl ?_
      refine j_sipush (pc := 34) (v := 256) dJ6_numberOfLeadingZeros_0f7a4_34 (by decide) ?_
      refine J.jn (σ := Int32 × Int32) (fun q2 pr => J yJ6_numberOfLeadingZeros_0f7a4 cJ6_numberOfLeadingZeros_0f7a4 2 (some .int) 0 0 X g 48 [(1, sI q2.1), (0, sI q2.2)] [] pr) (fun K48 hK48 => ?_) (fun q2 => ?_)
      · refine j_icmp_lt (pc := 37) (tgt := 48) dJ6_numberOfLeadingZeros_0f7a4_37 (by decide) bi (fun hc => ?_) (fun hc => ?_)
        · exact hK48 (q1.1, q1.2)
        · refine j_iinc (pc := 40) (v := (q1.1 + (-8))) (lv' := [(1, sI (q1.1 + (-8))), (0, sI q1.2)]) 0 dJ6_numberOfLeadingZeros_0f7a4_40 rfl rfl (by decide) rfl ?_
          refine j_iload_n (pc := 43) 1 dJ6_numberOfLeadingZeros_0f7a4_43 rfl rfl ?_
          refine j_bipush (pc := 44) (v := 8) dJ6_numberOfLeadingZeros_0f7a4_44 (by decide) ?_
          refine j_iushr (pc := 46) dJ6_numberOfLeadingZeros_0f7a4_46 ?_
          refine j_istore_n (pc := 47) (lv' := [(0, sI ((q1.2 : Int32).toUInt32 >>> ((8 : Int32).toUInt32 &&& Int32.toUInt32 31)).toInt32), (1, sI (q1.1 + (-8)))]) dJ6_numberOfLeadingZeros_0f7a4_47 rfl (by decide) rfl ?_
          refine J.sub [1, 0] rfl ?_
          exact hK48 ((q1.1 + (-8)), ((q1.2 : Int32).toUInt32 >>> ((8 : Int32).toUInt32 &&& Int32.toUInt32 31)).toInt32)
      · refine j_iload_n (pc := 48) 1 dJ6_numberOfLeadingZeros_0f7a4_48 rfl rfl ?_
        refine j_bipush (pc := 49) (v := 16) dJ6_numberOfLeadingZeros_0f7a4_49 (by decide) ?_
        refine J.jn (σ := Int32 × Int32) (fun q3 pr => J yJ6_numberOfLeadingZeros_0f7a4 cJ6_numberOfLeadingZeros_0f7a4 2 (some .int) 0 0 X g 61 [(1, sI q3.1), (0, sI q3.2)] [] pr) (fun K61 hK61 => ?_) (fun q3 => ?_)
        · refine j_icmp_lt (pc := 51) (tgt := 61) dJ6_numberOfLeadingZeros_0f7a4_51 (by decide) bi (fun hc => ?_) (fun hc => ?_)
          · exact hK61 (q2.1, q2.2)
          · refine j_iinc (pc := 54) (v := (q2.1 + (-4))) (lv' := [(1, sI (q2.1 + (-4))), (0, sI q2.2)]) 0 dJ6_numberOfLeadingZeros_0f7a4_54 rfl rfl (by decide) rfl ?_
            refine j_iload_n (pc := 57) 1 dJ6_numberOfLeadingZeros_0f7a4_57 rfl rfl ?_
            refine j_iconst (pc := 58) (v := 4) dJ6_numberOfLeadingZeros_0f7a4_58 (by decide) ?_
            refine j_iushr (pc := 59) dJ6_numberOfLeadingZeros_0f7a4_59 ?_
            refine j_istore_n (pc := 60) (lv' := [(0, sI ((q2.2 : Int32).toUInt32 >>> ((4 : Int32).toUInt32 &&& Int32.toUInt32 31)).toInt32), (1, sI (q2.1 + (-4)))]) dJ6_numberOfLeadingZeros_0f7a4_60 rfl (by decide) rfl ?_
            refine J.sub [1, 0] rfl ?_
            exact hK61 ((q2.1 + (-4)), ((q2.2 : Int32).toUInt32 >>> ((4 : Int32).toUInt32 &&& Int32.toUInt32 31)).toInt32)
        · refine j_iload_n (pc := 61) 1 dJ6_numberOfLeadingZeros_0f7a4_61 rfl rfl ?_
          refine j_iconst (pc := 62) (v := 4) dJ6_numberOfLeadingZeros_0f7a4_62 (by decide) ?_
          refine J.jn (σ := Int32 × Int32) (fun q4 pr => J yJ6_numberOfLeadingZeros_0f7a4 cJ6_numberOfLeadingZeros_0f7a4 2 (some .int) 0 0 X g 73 [(1, sI q4.1), (0, sI q4.2)] [] pr) (fun K73 hK73 => ?_) (fun q4 => ?_)
          · refine j_icmp_lt (pc := 63) (tgt := 73) dJ6_numberOfLeadingZeros_0f7a4_63 (by decide) bi (fun hc => ?_) (fun hc => ?_)
            · exact hK73 (q3.1, q3.2)
            · refine j_iinc (pc := 66) (v := (q3.1 + (-2))) (lv' := [(1, sI (q3.1 + (-2))), (0, sI q3.2)]) 0 dJ6_numberOfLeadingZeros_0f7a4_66 rfl rfl (by decide) rfl ?_
              refine j_iload_n (pc := 69) 1 dJ6_numberOfLeadingZeros_0f7a4_69 rfl rfl ?_
              refine j_iconst (pc := 70) (v := 2) dJ6_numberOfLeadingZeros_0f7a4_70 (by decide) ?_
              refine j_iushr (pc := 71) dJ6_numberOfLeadingZeros_0f7a4_71 ?_
              refine j_istore_n (pc := 72) (lv' := [(0, sI ((q3.2 : Int32).toUInt32 >>> ((2 : Int32).toUInt32 &&& Int32.toUInt32 31)).toInt32), (1, sI (q3.1 + (-2)))]) dJ6_numberOfLeadingZeros_0f7a4_72 rfl (by decide) rfl ?_
              refine J.sub [1, 0] rfl ?_
              exact hK73 ((q3.1 + (-2)), ((q3.2 : Int32).toUInt32 >>> ((2 : Int32).toUInt32 &&& Int32.toUInt32 31)).toInt32)
          · refine j_iload_n (pc := 73) 0 dJ6_numberOfLeadingZeros_0f7a4_73 rfl rfl ?_
            refine j_iload_n (pc := 74) 1 dJ6_numberOfLeadingZeros_0f7a4_74 rfl rfl ?_
            refine j_iconst (pc := 75) (v := 1) dJ6_numberOfLeadingZeros_0f7a4_75 (by decide) ?_
            refine j_iushr (pc := 76) dJ6_numberOfLeadingZeros_0f7a4_76 ?_
            refine j_isub (pc := 77) dJ6_numberOfLeadingZeros_0f7a4_77 ?_
            exact j_ireturn dJ6_numberOfLeadingZeros_0f7a4_78 hX rfl rfl
  · refine j_iload_n (pc := 4) 0 dJ6_numberOfLeadingZeros_0f7a4_4 rfl rfl ?_
    refine j_if_ne (pc := 5) (tgt := 13) dJ6_numberOfLeadingZeros_0f7a4_5 (by decide) rfl (fun hc => ?_) (fun hc => ?_)
    · refine j_iconst (pc := 13) (v := 0) dJ6_numberOfLeadingZeros_0f7a4_13 (by decide) ?_
      exact j_ireturn dJ6_numberOfLeadingZeros_0f7a4_14 hX rfl rfl
    · refine j_bipush (pc := 8) (v := 32) dJ6_numberOfLeadingZeros_0f7a4_8 (by decide) ?_
      refine j_goto (pc := 10) (tgt := 14) dJ6_numberOfLeadingZeros_0f7a4_10 (by decide) ?_
      exact j_ireturn dJ6_numberOfLeadingZeros_0f7a4_14 hX rfl rfl
end
section
/-! by program: words of the tables -/
set_option maxRecDepth 20000 in
theorem lo_X7_3 : FLI RX7 3 := ⟨⟨List.mem_append_right _ (List.mem_of_getElem? (i := 34) (by decide +kernel)), rfl⟩, ⟨List.mem_append_right _ (List.mem_of_getElem? (i := 27) (by decide +kernel)), rfl⟩, ⟨List.mem_append_right _ (List.mem_of_getElem? (i := 28) (by decide +kernel)), rfl⟩⟩
set_option maxRecDepth 20000 in
theorem lA_int : Cond.arrayClass .int ∈ lw_tbl := List.mem_append_right _ (List.mem_of_getElem? (i := 46) (by decide +kernel))
set_option maxRecDepth 20000 in
theorem inTX7 : ∀ w ∈ u_ws RX7 TX7 1, w ∈ lw_tbl ∧ okW w = true := List.forall_mem_map.mpr fun k hk => by
  have hk2 := List.mem_range.mp hk
  obtain rfl : k = 0 := by omega
  exact ⟨List.mem_append_right _ (List.mem_of_getElem? (i := 43) (by decide +kernel)), rfl⟩
set_option maxRecDepth 20000 in
theorem lf_X7_9 : FLK RX7 9 8 0 true := ⟨RX7, TX7, 1, RX7, ⟨rfl, by decide, rfl, by decide⟩, inTX7, Or.inl ⟨List.mem_append_right _ (List.mem_of_getElem? (i := 42) (by decide +kernel)), rfl⟩, Or.inl rfl⟩
set_option maxRecDepth 20000 in
theorem lt_8_0 : FLT 8 0 (.array .int) := ⟨RX7, TX7, 1, tyX7, rfl, by decide +kernel, tyX7_ok, nmX7⟩
set_option maxRecDepth 20000 in
theorem lw_X7_9_X7_init : FLW yX7_init RX7 9 8 0 := ⟨RX7, TX7, 1, rfl, Or.inr ⟨rfl, rfl, rfl, List.mem_append_right _ (List.mem_of_getElem? (i := 42) (by decide +kernel)), rfl⟩⟩
set_option maxRecDepth 20000 in
theorem lc_X7_19 : FLC RX7 19 yX7_root cX7_root 3 (some .int) 1 := ⟨Or.inl ⟨List.mem_append_right _ (List.mem_of_getElem? (i := 39) (by decide +kernel)), rfl⟩, ⟨List.mem_append_right _ (List.mem_of_getElem? (i := 41) (by decide +kernel)), rfl⟩, ⟨List.mem_append_right _ (List.mem_of_getElem? (i := 2) (by decide +kernel)), rfl⟩, ⟨⟨by decide +kernel, by decide +kernel⟩, by decide +kernel⟩⟩
set_option maxRecDepth 20000 in
theorem ls_X7_root : FLS yX7_root := ⟨List.mem_append_right _ (List.mem_of_getElem? (i := 40) (by decide +kernel)), rfl⟩
set_option maxRecDepth 20000 in
theorem lc_X7_15 : FLC RX7 15 yX7_reckon cX7_reckon 5 none 1 := ⟨Or.inl ⟨List.mem_append_right _ (List.mem_of_getElem? (i := 35) (by decide +kernel)), rfl⟩, ⟨List.mem_append_right _ (List.mem_of_getElem? (i := 38) (by decide +kernel)), rfl⟩, ⟨List.mem_append_right _ (List.mem_of_getElem? (i := 2) (by decide +kernel)), rfl⟩, ⟨⟨by decide +kernel, by decide +kernel⟩, by decide +kernel⟩⟩
set_option maxRecDepth 20000 in
theorem lv_X7_reckon : FLV yX7_reckon 8 := ⟨by decide, by decide +kernel, ⟨List.mem_append_right _ (List.mem_of_getElem? (i := 37) (by decide +kernel)), rfl⟩, ⟨List.mem_append_left _ (List.mem_of_getElem? (i := 0) (by decide +kernel)), rfl⟩⟩
set_option maxRecDepth 20000 in
theorem lM_X7_23 : FLM RX7 23 Lib.Math.abs.name Lib.Math.abs.code 1 := ⟨⟨List.mem_append_right _ (List.mem_of_getElem? (i := 310) (by decide +kernel)), rfl⟩, ⟨List.mem_append_right _ (List.mem_of_getElem? (i := 311) (by decide +kernel)), rfl⟩, ⟨List.mem_append_right _ (List.mem_of_getElem? (i := 11) (by decide +kernel)), rfl⟩, ⟨List.mem_append_right _ (List.mem_of_getElem? (i := 312) (by decide +kernel)), rfl⟩⟩
set_option maxRecDepth 20000 in
theorem lo_X4_3 : FLI RX4 3 := ⟨⟨List.mem_append_right _ (List.mem_of_getElem? (i := 181) (by decide +kernel)), rfl⟩, ⟨List.mem_append_right _ (List.mem_of_getElem? (i := 27) (by decide +kernel)), rfl⟩, ⟨List.mem_append_right _ (List.mem_of_getElem? (i := 28) (by decide +kernel)), rfl⟩⟩
set_option maxRecDepth 20000 in
theorem inTX4 : ∀ w ∈ u_ws RX4 TX4 2, w ∈ lw_tbl ∧ okW w = true := List.forall_mem_map.mpr fun k hk => by
  have hk2 := List.mem_range.mp hk
  rcases (show k = 0 ∨ k = 1 by omega) with rfl | rfl
  · exact ⟨List.mem_append_right _ (List.mem_of_getElem? (i := 186) (by decide +kernel)), rfl⟩
  · exact ⟨List.mem_append_right _ (List.mem_of_getElem? (i := 188) (by decide +kernel)), rfl⟩
set_option maxRecDepth 20000 in
theorem lf_X4_9 : FLK RX4 9 5 0 true := ⟨RX4, TX4, 2, RX4, ⟨rfl, by decide, rfl, by decide⟩, inTX4, Or.inl ⟨List.mem_append_right _ (List.mem_of_getElem? (i := 182) (by decide +kernel)), rfl⟩, Or.inl rfl⟩
set_option maxRecDepth 20000 in
theorem lt_5_0 : FLT 5 0 (.array .int) := ⟨RX4, TX4, 2, tyX4, rfl, by decide +kernel, tyX4_ok, nmX4⟩
set_option maxRecDepth 20000 in
theorem lw_X4_9_X4_init : FLW yX4_init RX4 9 5 0 := ⟨RX4, TX4, 2, rfl, Or.inr ⟨rfl, rfl, rfl, List.mem_append_right _ (List.mem_of_getElem? (i := 182) (by decide +kernel)), rfl⟩⟩
set_option maxRecDepth 20000 in
theorem lf_X4_15 : FLK RX4 15 5 1 false := ⟨RX4, TX4, 2, RX4, ⟨rfl, by decide, rfl, by decide⟩, inTX4, Or.inl ⟨List.mem_append_right _ (List.mem_of_getElem? (i := 184) (by decide +kernel)), rfl⟩, Or.inl rfl⟩
set_option maxRecDepth 20000 in
theorem lt_5_1 : FLT 5 1 .int := ⟨RX4, TX4, 2, tyX4, rfl, by decide +kernel, tyX4_ok, nmX4⟩
set_option maxRecDepth 20000 in
theorem lw_X4_15_X4_init : FLW yX4_init RX4 15 5 1 := ⟨RX4, TX4, 2, rfl, Or.inl rfl⟩
set_option maxRecDepth 20000 in
theorem lw_X4_15_X4_begin : FLW yX4_begin RX4 15 5 1 := ⟨RX4, TX4, 2, rfl, Or.inl rfl⟩
set_option maxRecDepth 20000 in
theorem lM_X4_19 : FLM RX4 19 Lib.Math.abs.name Lib.Math.abs.code 1 := ⟨⟨List.mem_append_right _ (List.mem_of_getElem? (i := 364) (by decide +kernel)), rfl⟩, ⟨List.mem_append_right _ (List.mem_of_getElem? (i := 311) (by decide +kernel)), rfl⟩, ⟨List.mem_append_right _ (List.mem_of_getElem? (i := 11) (by decide +kernel)), rfl⟩, ⟨List.mem_append_right _ (List.mem_of_getElem? (i := 312) (by decide +kernel)), rfl⟩⟩
set_option maxRecDepth 20000 in
theorem lc_X4_25 : FLC RX4 25 yX4_sizes cX4_sizes 6 (some .long) 2 := ⟨Or.inl ⟨List.mem_append_right _ (List.mem_of_getElem? (i := 373) (by decide +kernel)), rfl⟩, ⟨List.mem_append_right _ (List.mem_of_getElem? (i := 363) (by decide +kernel)), rfl⟩, ⟨List.mem_append_right _ (List.mem_of_getElem? (i := 9) (by decide +kernel)), rfl⟩, ⟨⟨by decide +kernel, by decide +kernel⟩, by decide +kernel⟩⟩
set_option maxRecDepth 20000 in
theorem lv_X4_sizes : FLV yX4_sizes 5 := ⟨by decide, by decide +kernel, ⟨List.mem_append_right _ (List.mem_of_getElem? (i := 362) (by decide +kernel)), rfl⟩, ⟨List.mem_append_left _ (List.mem_of_getElem? (i := 12) (by decide +kernel)), rfl⟩⟩
set_option maxRecDepth 20000 in
theorem lo_X5_1 : FLI RX5 1 := ⟨⟨List.mem_append_right _ (List.mem_of_getElem? (i := 175) (by decide +kernel)), rfl⟩, ⟨List.mem_append_right _ (List.mem_of_getElem? (i := 27) (by decide +kernel)), rfl⟩, ⟨List.mem_append_right _ (List.mem_of_getElem? (i := 28) (by decide +kernel)), rfl⟩⟩
set_option maxRecDepth 20000 in
theorem ln_X5_7 : FLN RX5 7 5 := ⟨RX4, TX4, 2, tyX4, ⟨rfl, by decide, rfl⟩, tyX4_ok, (fun j hj b hb => by
  rcases (show j = 0 ∨ j = 1 by omega) with rfl | rfl <;> (cases hb; rfl)), inTX4, ⟨List.mem_append_right _ (List.mem_of_getElem? (i := 176) (by decide +kernel)), rfl⟩, ⟨List.mem_append_right _ (List.mem_of_getElem? (i := 177) (by decide +kernel)), rfl⟩, ⟨List.mem_append_right _ (List.mem_of_getElem? (i := 9) (by decide +kernel)), rfl⟩⟩
set_option maxRecDepth 20000 in
theorem lc_X5_9 : FLC RX5 9 yX4_init cX4_init 1 none 0 := ⟨Or.inr ⟨RX8, List.mem_append_right _ (List.mem_of_getElem? (i := 178) (by decide +kernel))⟩, ⟨List.mem_append_right _ (List.mem_of_getElem? (i := 180) (by decide +kernel)), rfl⟩, ⟨List.mem_append_right _ (List.mem_of_getElem? (i := 9) (by decide +kernel)), rfl⟩, ⟨⟨by decide +kernel, by decide +kernel⟩, by decide +kernel⟩⟩
set_option maxRecDepth 20000 in
theorem li_X4_init : FLN0 yX4_init := ⟨by decide +kernel, List.mem_append_right _ (List.mem_of_getElem? (i := 179) (by decide +kernel)), rfl⟩
set_option maxRecDepth 20000 in
theorem inTX5 : ∀ w ∈ u_ws RX5 TX5 3, w ∈ lw_tbl ∧ okW w = true := List.forall_mem_map.mpr fun k hk => by
  have hk2 := List.mem_range.mp hk
  rcases (show k = 0 ∨ k = 1 ∨ k = 2 by omega) with rfl | rfl | rfl
  · exact ⟨List.mem_append_right _ (List.mem_of_getElem? (i := 196) (by decide +kernel)), rfl⟩
  · exact ⟨List.mem_append_right _ (List.mem_of_getElem? (i := 198) (by decide +kernel)), rfl⟩
  · exact ⟨List.mem_append_right _ (List.mem_of_getElem? (i := 200) (by decide +kernel)), rfl⟩
set_option maxRecDepth 20000 in
theorem lf_X5_10 : FLK RX5 10 6 1 true := ⟨RX5, TX5, 3, RX5, ⟨rfl, by decide, rfl, by decide⟩, inTX5, Or.inl ⟨List.mem_append_right _ (List.mem_of_getElem? (i := 193) (by decide +kernel)), rfl⟩, Or.inl rfl⟩
set_option maxRecDepth 20000 in
theorem lt_6_1 : FLT 6 1 (.object "FirstSeconds$Row") := ⟨RX5, TX5, 3, tyX5, rfl, by decide +kernel, tyX5_ok, nmX5⟩
set_option maxRecDepth 20000 in
theorem lw_X5_10_X5_init : FLW yX5_init RX5 10 6 1 := ⟨RX5, TX5, 3, rfl, Or.inr ⟨rfl, rfl, rfl, List.mem_append_right _ (List.mem_of_getElem? (i := 193) (by decide +kernel)), rfl⟩⟩
set_option maxRecDepth 20000 in
theorem lf_X5_16 : FLK RX5 16 6 0 false := ⟨RX5, TX5, 3, RX5, ⟨rfl, by decide, rfl, by decide⟩, inTX5, Or.inl ⟨List.mem_append_right _ (List.mem_of_getElem? (i := 191) (by decide +kernel)), rfl⟩, Or.inl rfl⟩
set_option maxRecDepth 20000 in
theorem lt_6_0 : FLT 6 0 .int := ⟨RX5, TX5, 3, tyX5, rfl, by decide +kernel, tyX5_ok, nmX5⟩
set_option maxRecDepth 20000 in
theorem lw_X5_16_X5_init : FLW yX5_init RX5 16 6 0 := ⟨RX5, TX5, 3, rfl, Or.inr ⟨rfl, rfl, rfl, List.mem_append_right _ (List.mem_of_getElem? (i := 191) (by decide +kernel)), rfl⟩⟩
set_option maxRecDepth 20000 in
theorem lo_X6_1 : FLI RX6 1 := ⟨⟨List.mem_append_right _ (List.mem_of_getElem? (i := 270) (by decide +kernel)), rfl⟩, ⟨List.mem_append_right _ (List.mem_of_getElem? (i := 27) (by decide +kernel)), rfl⟩, ⟨List.mem_append_right _ (List.mem_of_getElem? (i := 28) (by decide +kernel)), rfl⟩⟩
set_option maxRecDepth 20000 in
theorem inTX6 : ∀ w ∈ u_ws RX6 TX6 1, w ∈ lw_tbl ∧ okW w = true := List.forall_mem_map.mpr fun k hk => by
  have hk2 := List.mem_range.mp hk
  obtain rfl : k = 0 := by omega
  exact ⟨List.mem_append_right _ (List.mem_of_getElem? (i := 273) (by decide +kernel)), rfl⟩
set_option maxRecDepth 20000 in
theorem lf_X6_7 : FLK RX6 7 7 0 false := ⟨RX6, TX6, 1, RX6, ⟨rfl, by decide, rfl, by decide⟩, inTX6, Or.inl ⟨List.mem_append_right _ (List.mem_of_getElem? (i := 271) (by decide +kernel)), rfl⟩, Or.inl rfl⟩
set_option maxRecDepth 20000 in
theorem lt_7_0 : FLT 7 0 .int := ⟨RX6, TX6, 1, tyX6, rfl, by decide +kernel, tyX6_ok, nmX6⟩
set_option maxRecDepth 20000 in
theorem lw_X6_7_X6_init : FLW yX6_init RX6 7 7 0 := ⟨RX6, TX6, 1, rfl, Or.inr ⟨rfl, rfl, rfl, List.mem_append_right _ (List.mem_of_getElem? (i := 271) (by decide +kernel)), rfl⟩⟩
set_option maxRecDepth 20000 in
theorem lo_X2_3 : FLI RX2 3 := ⟨⟨List.mem_append_right _ (List.mem_of_getElem? (i := 442) (by decide +kernel)), rfl⟩, ⟨List.mem_append_right _ (List.mem_of_getElem? (i := 27) (by decide +kernel)), rfl⟩, ⟨List.mem_append_right _ (List.mem_of_getElem? (i := 28) (by decide +kernel)), rfl⟩⟩
set_option maxRecDepth 20000 in
theorem inTX2 : ∀ w ∈ u_ws RX2 TX2 5, w ∈ lw_tbl ∧ okW w = true := List.forall_mem_map.mpr fun k hk => by
  have hk2 := List.mem_range.mp hk
  rcases (show k = 0 ∨ k = 1 ∨ k = 2 ∨ k = 3 ∨ k = 4 by omega) with rfl | rfl | rfl | rfl | rfl
  · exact ⟨List.mem_append_right _ (List.mem_of_getElem? (i := 453) (by decide +kernel)), rfl⟩
  · exact ⟨List.mem_append_right _ (List.mem_of_getElem? (i := 455) (by decide +kernel)), rfl⟩
  · exact ⟨List.mem_append_right _ (List.mem_of_getElem? (i := 457) (by decide +kernel)), rfl⟩
  · exact ⟨List.mem_append_right _ (List.mem_of_getElem? (i := 459) (by decide +kernel)), rfl⟩
  · exact ⟨List.mem_append_right _ (List.mem_of_getElem? (i := 461) (by decide +kernel)), rfl⟩
set_option maxRecDepth 20000 in
theorem lf_X2_9 : FLK RX2 9 3 0 false := ⟨RX2, TX2, 5, RX2, ⟨rfl, by decide, rfl, by decide⟩, inTX2, Or.inl ⟨List.mem_append_right _ (List.mem_of_getElem? (i := 443) (by decide +kernel)), rfl⟩, Or.inl rfl⟩
set_option maxRecDepth 20000 in
theorem lt_3_0 : FLT 3 0 .int := ⟨RX2, TX2, 5, tyX2, rfl, by decide +kernel, tyX2_ok, nmX2⟩
set_option maxRecDepth 20000 in
theorem lw_X2_9_X2_init : FLW yX2_init RX2 9 3 0 := ⟨RX2, TX2, 5, rfl, Or.inr ⟨rfl, rfl, rfl, List.mem_append_right _ (List.mem_of_getElem? (i := 443) (by decide +kernel)), rfl⟩⟩
set_option maxRecDepth 20000 in
theorem lf_X2_15 : FLK RX2 15 3 1 false := ⟨RX2, TX2, 5, RX2, ⟨rfl, by decide, rfl, by decide⟩, inTX2, Or.inl ⟨List.mem_append_right _ (List.mem_of_getElem? (i := 445) (by decide +kernel)), rfl⟩, Or.inl rfl⟩
set_option maxRecDepth 20000 in
theorem lt_3_1 : FLT 3 1 .int := ⟨RX2, TX2, 5, tyX2, rfl, by decide +kernel, tyX2_ok, nmX2⟩
set_option maxRecDepth 20000 in
theorem lw_X2_15_X2_init : FLW yX2_init RX2 15 3 1 := ⟨RX2, TX2, 5, rfl, Or.inr ⟨rfl, rfl, rfl, List.mem_append_right _ (List.mem_of_getElem? (i := 445) (by decide +kernel)), rfl⟩⟩
set_option maxRecDepth 20000 in
theorem lf_X2_18 : FLK RX2 18 3 2 false := ⟨RX2, TX2, 5, RX2, ⟨rfl, by decide, rfl, by decide⟩, inTX2, Or.inl ⟨List.mem_append_right _ (List.mem_of_getElem? (i := 447) (by decide +kernel)), rfl⟩, Or.inl rfl⟩
set_option maxRecDepth 20000 in
theorem lt_3_2 : FLT 3 2 .int := ⟨RX2, TX2, 5, tyX2, rfl, by decide +kernel, tyX2_ok, nmX2⟩
set_option maxRecDepth 20000 in
theorem lw_X2_18_X2_init : FLW yX2_init RX2 18 3 2 := ⟨RX2, TX2, 5, rfl, Or.inr ⟨rfl, rfl, rfl, List.mem_append_right _ (List.mem_of_getElem? (i := 447) (by decide +kernel)), rfl⟩⟩
set_option maxRecDepth 20000 in
theorem lf_X2_21 : FLK RX2 21 3 3 false := ⟨RX2, TX2, 5, RX2, ⟨rfl, by decide, rfl, by decide⟩, inTX2, Or.inl ⟨List.mem_append_right _ (List.mem_of_getElem? (i := 449) (by decide +kernel)), rfl⟩, Or.inl rfl⟩
set_option maxRecDepth 20000 in
theorem lt_3_3 : FLT 3 3 .int := ⟨RX2, TX2, 5, tyX2, rfl, by decide +kernel, tyX2_ok, nmX2⟩
set_option maxRecDepth 20000 in
theorem lw_X2_21_X2_init : FLW yX2_init RX2 21 3 3 := ⟨RX2, TX2, 5, rfl, Or.inr ⟨rfl, rfl, rfl, List.mem_append_right _ (List.mem_of_getElem? (i := 449) (by decide +kernel)), rfl⟩⟩
set_option maxRecDepth 20000 in
theorem lf_X2_24 : FLK RX2 24 3 4 false := ⟨RX2, TX2, 5, RX2, ⟨rfl, by decide, rfl, by decide⟩, inTX2, Or.inl ⟨List.mem_append_right _ (List.mem_of_getElem? (i := 451) (by decide +kernel)), rfl⟩, Or.inl rfl⟩
set_option maxRecDepth 20000 in
theorem lt_3_4 : FLT 3 4 .int := ⟨RX2, TX2, 5, tyX2, rfl, by decide +kernel, tyX2_ok, nmX2⟩
set_option maxRecDepth 20000 in
theorem lw_X2_24_X2_init : FLW yX2_init RX2 24 3 4 := ⟨RX2, TX2, 5, rfl, Or.inr ⟨rfl, rfl, rfl, List.mem_append_right _ (List.mem_of_getElem? (i := 451) (by decide +kernel)), rfl⟩⟩
set_option maxRecDepth 20000 in
theorem lo_X3_3 : FLI RX3 3 := ⟨⟨List.mem_append_right _ (List.mem_of_getElem? (i := 467) (by decide +kernel)), rfl⟩, ⟨List.mem_append_right _ (List.mem_of_getElem? (i := 27) (by decide +kernel)), rfl⟩, ⟨List.mem_append_right _ (List.mem_of_getElem? (i := 28) (by decide +kernel)), rfl⟩⟩
set_option maxRecDepth 20000 in
theorem inTX3 : ∀ w ∈ u_ws RX3 TX3 6, w ∈ lw_tbl ∧ okW w = true := List.forall_mem_map.mpr fun k hk => by
  have hk2 := List.mem_range.mp hk
  rcases (show k = 0 ∨ k = 1 ∨ k = 2 ∨ k = 3 ∨ k = 4 ∨ k = 5 by omega) with rfl | rfl | rfl | rfl | rfl | rfl
  · exact ⟨List.mem_append_right _ (List.mem_of_getElem? (i := 479) (by decide +kernel)), rfl⟩
  · exact ⟨List.mem_append_right _ (List.mem_of_getElem? (i := 481) (by decide +kernel)), rfl⟩
  · exact ⟨List.mem_append_right _ (List.mem_of_getElem? (i := 483) (by decide +kernel)), rfl⟩
  · exact ⟨List.mem_append_right _ (List.mem_of_getElem? (i := 485) (by decide +kernel)), rfl⟩
  · exact ⟨List.mem_append_right _ (List.mem_of_getElem? (i := 487) (by decide +kernel)), rfl⟩
  · exact ⟨List.mem_append_right _ (List.mem_of_getElem? (i := 489) (by decide +kernel)), rfl⟩
set_option maxRecDepth 20000 in
theorem lf_X3_9 : FLK RX3 9 4 2 true := ⟨RX3, TX3, 6, RX3, ⟨rfl, by decide, rfl, by decide⟩, inTX3, Or.inl ⟨List.mem_append_right _ (List.mem_of_getElem? (i := 473) (by decide +kernel)), rfl⟩, Or.inl rfl⟩
set_option maxRecDepth 20000 in
theorem lt_4_2 : FLT 4 2 (.array .int) := ⟨RX3, TX3, 6, tyX3, rfl, by decide +kernel, tyX3_ok, nmX3⟩
set_option maxRecDepth 20000 in
theorem lw_X3_9_X3_init : FLW yX3_init RX3 9 4 2 := ⟨RX3, TX3, 6, rfl, Or.inr ⟨rfl, rfl, rfl, List.mem_append_right _ (List.mem_of_getElem? (i := 473) (by decide +kernel)), rfl⟩⟩
set_option maxRecDepth 20000 in
theorem lf_X3_15 : FLK RX3 15 4 4 true := ⟨RX3, TX3, 6, RX3, ⟨rfl, by decide, rfl, by decide⟩, inTX3, Or.inl ⟨List.mem_append_right _ (List.mem_of_getElem? (i := 477) (by decide +kernel)), rfl⟩, Or.inl rfl⟩
set_option maxRecDepth 20000 in
theorem lt_4_4 : FLT 4 4 (.array .int) := ⟨RX3, TX3, 6, tyX3, rfl, by decide +kernel, tyX3_ok, nmX3⟩
set_option maxRecDepth 20000 in
theorem lw_X3_15_X3_init : FLW yX3_init RX3 15 4 4 := ⟨RX3, TX3, 6, rfl, Or.inr ⟨rfl, rfl, rfl, List.mem_append_right _ (List.mem_of_getElem? (i := 477) (by decide +kernel)), rfl⟩⟩
set_option maxRecDepth 20000 in
theorem lf_X3_18 : FLK RX3 18 4 5 true := ⟨RX3, TX3, 6, RX3, ⟨rfl, by decide, rfl, by decide⟩, inTX3, Or.inl ⟨List.mem_append_right _ (List.mem_of_getElem? (i := 478) (by decide +kernel)), rfl⟩, Or.inl rfl⟩
set_option maxRecDepth 20000 in
theorem lt_4_5 : FLT 4 5 (.array .int) := ⟨RX3, TX3, 6, tyX3, rfl, by decide +kernel, tyX3_ok, nmX3⟩
set_option maxRecDepth 20000 in
theorem lw_X3_18_X3_init : FLW yX3_init RX3 18 4 5 := ⟨RX3, TX3, 6, rfl, Or.inr ⟨rfl, rfl, rfl, List.mem_append_right _ (List.mem_of_getElem? (i := 478) (by decide +kernel)), rfl⟩⟩
set_option maxRecDepth 20000 in
theorem lf_X3_21 : FLK RX3 21 4 0 false := ⟨RX3, TX3, 6, RX3, ⟨rfl, by decide, rfl, by decide⟩, inTX3, Or.inl ⟨List.mem_append_right _ (List.mem_of_getElem? (i := 469) (by decide +kernel)), rfl⟩, Or.inl rfl⟩
set_option maxRecDepth 20000 in
theorem lt_4_0 : FLT 4 0 .int := ⟨RX3, TX3, 6, tyX3, rfl, by decide +kernel, tyX3_ok, nmX3⟩
set_option maxRecDepth 20000 in
theorem lw_X3_21_X3_init : FLW yX3_init RX3 21 4 0 := ⟨RX3, TX3, 6, rfl, Or.inr ⟨rfl, rfl, rfl, List.mem_append_right _ (List.mem_of_getElem? (i := 469) (by decide +kernel)), rfl⟩⟩
set_option maxRecDepth 20000 in
theorem lf_X3_25 : FLK RX3 25 4 1 false := ⟨RX3, TX3, 6, RX3, ⟨rfl, by decide, rfl, by decide⟩, inTX3, Or.inl ⟨List.mem_append_right _ (List.mem_of_getElem? (i := 471) (by decide +kernel)), rfl⟩, Or.inl rfl⟩
set_option maxRecDepth 20000 in
theorem lt_4_1 : FLT 4 1 .int := ⟨RX3, TX3, 6, tyX3, rfl, by decide +kernel, tyX3_ok, nmX3⟩
set_option maxRecDepth 20000 in
theorem lw_X3_25_X3_init : FLW yX3_init RX3 25 4 1 := ⟨RX3, TX3, 6, rfl, Or.inr ⟨rfl, rfl, rfl, List.mem_append_right _ (List.mem_of_getElem? (i := 471) (by decide +kernel)), rfl⟩⟩
set_option maxRecDepth 20000 in
theorem lf_X3_32 : FLK RX3 32 4 3 false := ⟨RX3, TX3, 6, RX3, ⟨rfl, by decide, rfl, by decide⟩, inTX3, Or.inl ⟨List.mem_append_right _ (List.mem_of_getElem? (i := 475) (by decide +kernel)), rfl⟩, Or.inl rfl⟩
set_option maxRecDepth 20000 in
theorem lt_4_3 : FLT 4 3 .int := ⟨RX3, TX3, 6, tyX3, rfl, by decide +kernel, tyX3_ok, nmX3⟩
set_option maxRecDepth 20000 in
theorem lw_X3_32_X3_hear : FLW yX3_hear RX3 32 4 3 := ⟨RX3, TX3, 6, rfl, Or.inl rfl⟩
set_option maxRecDepth 20000 in
theorem lc_X3_28 : FLC RX3 28 yX3_hear cX3_hear 3 none 2 := ⟨Or.inl ⟨List.mem_append_right _ (List.mem_of_getElem? (i := 468) (by decide +kernel)), rfl⟩, ⟨List.mem_append_right _ (List.mem_of_getElem? (i := 436) (by decide +kernel)), rfl⟩, ⟨List.mem_append_right _ (List.mem_of_getElem? (i := 19) (by decide +kernel)), rfl⟩, ⟨⟨by decide +kernel, by decide +kernel⟩, by decide +kernel⟩⟩
set_option maxRecDepth 20000 in
theorem lv_X3_hear : FLV yX3_hear 4 := ⟨by decide, by decide +kernel, ⟨List.mem_append_right _ (List.mem_of_getElem? (i := 435) (by decide +kernel)), rfl⟩, ⟨List.mem_append_left _ (List.mem_of_getElem? (i := 24) (by decide +kernel)), rfl⟩⟩
set_option maxRecDepth 20000 in
theorem lo_X1_1 : FLI RX1 1 := ⟨⟨List.mem_append_right _ (List.mem_of_getElem? (i := 584) (by decide +kernel)), rfl⟩, ⟨List.mem_append_right _ (List.mem_of_getElem? (i := 27) (by decide +kernel)), rfl⟩, ⟨List.mem_append_right _ (List.mem_of_getElem? (i := 28) (by decide +kernel)), rfl⟩⟩
set_option maxRecDepth 20000 in
theorem inTX1 : ∀ w ∈ u_ws RX1 TX1 4, w ∈ lw_tbl ∧ okW w = true := List.forall_mem_map.mpr fun k hk => by
  have hk2 := List.mem_range.mp hk
  rcases (show k = 0 ∨ k = 1 ∨ k = 2 ∨ k = 3 by omega) with rfl | rfl | rfl | rfl
  · exact ⟨List.mem_append_right _ (List.mem_of_getElem? (i := 593) (by decide +kernel)), rfl⟩
  · exact ⟨List.mem_append_right _ (List.mem_of_getElem? (i := 595) (by decide +kernel)), rfl⟩
  · exact ⟨List.mem_append_right _ (List.mem_of_getElem? (i := 597) (by decide +kernel)), rfl⟩
  · exact ⟨List.mem_append_right _ (List.mem_of_getElem? (i := 599) (by decide +kernel)), rfl⟩
set_option maxRecDepth 20000 in
theorem lf_X1_7 : FLK RX1 7 2 0 false := ⟨RX1, TX1, 4, RX1, ⟨rfl, by decide, rfl, by decide⟩, inTX1, Or.inl ⟨List.mem_append_right _ (List.mem_of_getElem? (i := 585) (by decide +kernel)), rfl⟩, Or.inl rfl⟩
set_option maxRecDepth 20000 in
theorem lt_2_0 : FLT 2 0 .int := ⟨RX1, TX1, 4, tyX1, rfl, by decide +kernel, tyX1_ok, nmX1⟩
set_option maxRecDepth 20000 in
theorem lw_X1_7_X1_init : FLW yX1_init RX1 7 2 0 := ⟨RX1, TX1, 4, rfl, Or.inr ⟨rfl, rfl, rfl, List.mem_append_right _ (List.mem_of_getElem? (i := 585) (by decide +kernel)), rfl⟩⟩
set_option maxRecDepth 20000 in
theorem lf_X1_13 : FLK RX1 13 2 1 false := ⟨RX1, TX1, 4, RX1, ⟨rfl, by decide, rfl, by decide⟩, inTX1, Or.inl ⟨List.mem_append_right _ (List.mem_of_getElem? (i := 587) (by decide +kernel)), rfl⟩, Or.inl rfl⟩
set_option maxRecDepth 20000 in
theorem lt_2_1 : FLT 2 1 .int := ⟨RX1, TX1, 4, tyX1, rfl, by decide +kernel, tyX1_ok, nmX1⟩
set_option maxRecDepth 20000 in
theorem lw_X1_13_X1_init : FLW yX1_init RX1 13 2 1 := ⟨RX1, TX1, 4, rfl, Or.inr ⟨rfl, rfl, rfl, List.mem_append_right _ (List.mem_of_getElem? (i := 587) (by decide +kernel)), rfl⟩⟩
set_option maxRecDepth 20000 in
theorem lf_X1_16 : FLK RX1 16 2 2 false := ⟨RX1, TX1, 4, RX1, ⟨rfl, by decide, rfl, by decide⟩, inTX1, Or.inl ⟨List.mem_append_right _ (List.mem_of_getElem? (i := 589) (by decide +kernel)), rfl⟩, Or.inl rfl⟩
set_option maxRecDepth 20000 in
theorem lt_2_2 : FLT 2 2 .int := ⟨RX1, TX1, 4, tyX1, rfl, by decide +kernel, tyX1_ok, nmX1⟩
set_option maxRecDepth 20000 in
theorem lw_X1_16_X1_init : FLW yX1_init RX1 16 2 2 := ⟨RX1, TX1, 4, rfl, Or.inr ⟨rfl, rfl, rfl, List.mem_append_right _ (List.mem_of_getElem? (i := 589) (by decide +kernel)), rfl⟩⟩
set_option maxRecDepth 20000 in
theorem lf_X1_19 : FLK RX1 19 2 3 false := ⟨RX1, TX1, 4, RX1, ⟨rfl, by decide, rfl, by decide⟩, inTX1, Or.inl ⟨List.mem_append_right _ (List.mem_of_getElem? (i := 591) (by decide +kernel)), rfl⟩, Or.inl rfl⟩
set_option maxRecDepth 20000 in
theorem lt_2_3 : FLT 2 3 .int := ⟨RX1, TX1, 4, tyX1, rfl, by decide +kernel, tyX1_ok, nmX1⟩
set_option maxRecDepth 20000 in
theorem lw_X1_19_X1_init : FLW yX1_init RX1 19 2 3 := ⟨RX1, TX1, 4, rfl, Or.inr ⟨rfl, rfl, rfl, List.mem_append_right _ (List.mem_of_getElem? (i := 591) (by decide +kernel)), rfl⟩⟩
set_option maxRecDepth 20000 in
theorem lo_X0_3 : FLI RX0 3 := ⟨⟨List.mem_append_right _ (List.mem_of_getElem? (i := 78) (by decide +kernel)), rfl⟩, ⟨List.mem_append_right _ (List.mem_of_getElem? (i := 27) (by decide +kernel)), rfl⟩, ⟨List.mem_append_right _ (List.mem_of_getElem? (i := 28) (by decide +kernel)), rfl⟩⟩
set_option maxRecDepth 20000 in
theorem inTX0 : ∀ w ∈ u_ws RX0 TX0 6, w ∈ lw_tbl ∧ okW w = true := List.forall_mem_map.mpr fun k hk => by
  have hk2 := List.mem_range.mp hk
  rcases (show k = 0 ∨ k = 1 ∨ k = 2 ∨ k = 3 ∨ k = 4 ∨ k = 5 by omega) with rfl | rfl | rfl | rfl | rfl | rfl
  · exact ⟨List.mem_append_right _ (List.mem_of_getElem? (i := 91) (by decide +kernel)), rfl⟩
  · exact ⟨List.mem_append_right _ (List.mem_of_getElem? (i := 93) (by decide +kernel)), rfl⟩
  · exact ⟨List.mem_append_right _ (List.mem_of_getElem? (i := 95) (by decide +kernel)), rfl⟩
  · exact ⟨List.mem_append_right _ (List.mem_of_getElem? (i := 97) (by decide +kernel)), rfl⟩
  · exact ⟨List.mem_append_right _ (List.mem_of_getElem? (i := 99) (by decide +kernel)), rfl⟩
  · exact ⟨List.mem_append_right _ (List.mem_of_getElem? (i := 101) (by decide +kernel)), rfl⟩
set_option maxRecDepth 20000 in
theorem lf_X0_9 : FLK RX0 9 1 0 true := ⟨RX0, TX0, 6, RX0, ⟨rfl, by decide, rfl, by decide⟩, inTX0, Or.inl ⟨List.mem_append_right _ (List.mem_of_getElem? (i := 79) (by decide +kernel)), rfl⟩, Or.inl rfl⟩
set_option maxRecDepth 20000 in
theorem lt_1_0 : FLT 1 0 (.array .int) := ⟨RX0, TX0, 6, tyX0, rfl, by decide +kernel, tyX0_ok, nmX0⟩
set_option maxRecDepth 20000 in
theorem lw_X0_9_X0_init : FLW yX0_init RX0 9 1 0 := ⟨RX0, TX0, 6, rfl, Or.inr ⟨rfl, rfl, rfl, List.mem_append_right _ (List.mem_of_getElem? (i := 79) (by decide +kernel)), rfl⟩⟩
set_option maxRecDepth 20000 in
theorem lf_X0_15 : FLK RX0 15 1 1 true := ⟨RX0, TX0, 6, RX0, ⟨rfl, by decide, rfl, by decide⟩, inTX0, Or.inl ⟨List.mem_append_right _ (List.mem_of_getElem? (i := 81) (by decide +kernel)), rfl⟩, Or.inl rfl⟩
set_option maxRecDepth 20000 in
theorem lt_1_1 : FLT 1 1 (.array .int) := ⟨RX0, TX0, 6, tyX0, rfl, by decide +kernel, tyX0_ok, nmX0⟩
set_option maxRecDepth 20000 in
theorem lw_X0_15_X0_init : FLW yX0_init RX0 15 1 1 := ⟨RX0, TX0, 6, rfl, Or.inr ⟨rfl, rfl, rfl, List.mem_append_right _ (List.mem_of_getElem? (i := 81) (by decide +kernel)), rfl⟩⟩
set_option maxRecDepth 20000 in
theorem lf_X0_18 : FLK RX0 18 1 5 false := ⟨RX0, TX0, 6, RX0, ⟨rfl, by decide, rfl, by decide⟩, inTX0, Or.inl ⟨List.mem_append_right _ (List.mem_of_getElem? (i := 89) (by decide +kernel)), rfl⟩, Or.inl rfl⟩
set_option maxRecDepth 20000 in
theorem lt_1_5 : FLT 1 5 .int := ⟨RX0, TX0, 6, tyX0, rfl, by decide +kernel, tyX0_ok, nmX0⟩
set_option maxRecDepth 20000 in
theorem lw_X0_18_X0_init : FLW yX0_init RX0 18 1 5 := ⟨RX0, TX0, 6, rfl, Or.inl rfl⟩
set_option maxRecDepth 20000 in
theorem lw_X0_18_X0_forget : FLW yX0_forget RX0 18 1 5 := ⟨RX0, TX0, 6, rfl, Or.inl rfl⟩
set_option maxRecDepth 20000 in
theorem lw_X0_18_X0_clear : FLW yX0_clear RX0 18 1 5 := ⟨RX0, TX0, 6, rfl, Or.inl rfl⟩
set_option maxRecDepth 20000 in
theorem lk_X0_22 : Cond.constant RX0 22 (-1000000) ∈ lw_tbl := List.mem_append_right _ (List.mem_of_getElem? (i := 405) (by decide +kernel))
set_option maxRecDepth 20000 in
theorem lk_X0_23 : Cond.constant RX0 23 1000000 ∈ lw_tbl := List.mem_append_right _ (List.mem_of_getElem? (i := 406) (by decide +kernel))
set_option maxRecDepth 20000 in
theorem lc_X0_24 : FLC RX0 24 yX7_between cX7_between 5 (some .int) 2 := ⟨Or.inr ⟨RX8, List.mem_append_right _ (List.mem_of_getElem? (i := 411) (by decide +kernel))⟩, ⟨List.mem_append_right _ (List.mem_of_getElem? (i := 309) (by decide +kernel)), rfl⟩, ⟨List.mem_append_right _ (List.mem_of_getElem? (i := 2) (by decide +kernel)), rfl⟩, ⟨⟨by decide +kernel, by decide +kernel⟩, by decide +kernel⟩⟩
set_option maxRecDepth 20000 in
theorem lv_X7_between : FLV yX7_between 8 := ⟨by decide, by decide +kernel, ⟨List.mem_append_right _ (List.mem_of_getElem? (i := 308) (by decide +kernel)), rfl⟩, ⟨List.mem_append_left _ (List.mem_of_getElem? (i := 6) (by decide +kernel)), rfl⟩⟩
set_option maxRecDepth 20000 in
theorem lM_X0_30 : FLM RX0 30 Lib.Math.max.name Lib.Math.max.code 2 := ⟨⟨List.mem_append_right _ (List.mem_of_getElem? (i := 412) (by decide +kernel)), rfl⟩, ⟨List.mem_append_right _ (List.mem_of_getElem? (i := 223) (by decide +kernel)), rfl⟩, ⟨List.mem_append_right _ (List.mem_of_getElem? (i := 11) (by decide +kernel)), rfl⟩, ⟨List.mem_append_right _ (List.mem_of_getElem? (i := 224) (by decide +kernel)), rfl⟩⟩
set_option maxRecDepth 20000 in
theorem lM_X0_35 : FLM RX0 35 Lib.Math.min.name Lib.Math.min.code 2 := ⟨⟨List.mem_append_right _ (List.mem_of_getElem? (i := 413) (by decide +kernel)), rfl⟩, ⟨List.mem_append_right _ (List.mem_of_getElem? (i := 254) (by decide +kernel)), rfl⟩, ⟨List.mem_append_right _ (List.mem_of_getElem? (i := 11) (by decide +kernel)), rfl⟩, ⟨List.mem_append_right _ (List.mem_of_getElem? (i := 255) (by decide +kernel)), rfl⟩⟩
set_option maxRecDepth 20000 in
theorem lf_X0_38 : FLK RX0 38 1 2 false := ⟨RX0, TX0, 6, RX0, ⟨rfl, by decide, rfl, by decide⟩, inTX0, Or.inl ⟨List.mem_append_right _ (List.mem_of_getElem? (i := 83) (by decide +kernel)), rfl⟩, Or.inl rfl⟩
set_option maxRecDepth 20000 in
theorem lt_1_2 : FLT 1 2 .int := ⟨RX0, TX0, 6, tyX0, rfl, by decide +kernel, tyX0_ok, nmX0⟩
set_option maxRecDepth 20000 in
theorem lw_X0_38_X0_countCells : FLW yX0_countCells RX0 38 1 2 := ⟨RX0, TX0, 6, rfl, Or.inl rfl⟩
set_option maxRecDepth 20000 in
theorem lc_X0_41 : FLC RX0 41 yX0_has cX0_has 2 (some .boolean) 1 := ⟨Or.inl ⟨List.mem_append_right _ (List.mem_of_getElem? (i := 418) (by decide +kernel)), rfl⟩, ⟨List.mem_append_right _ (List.mem_of_getElem? (i := 421) (by decide +kernel)), rfl⟩, ⟨List.mem_append_right _ (List.mem_of_getElem? (i := 6) (by decide +kernel)), rfl⟩, ⟨⟨by decide +kernel, by decide +kernel⟩, by decide +kernel⟩⟩
set_option maxRecDepth 20000 in
theorem lv_X0_has : FLV yX0_has 1 := ⟨by decide, by decide +kernel, ⟨List.mem_append_right _ (List.mem_of_getElem? (i := 420) (by decide +kernel)), rfl⟩, ⟨List.mem_append_left _ (List.mem_of_getElem? (i := 22) (by decide +kernel)), rfl⟩⟩
/-! by program: what the methods do, and that their bytecode does it -/
/-! X7_root -/
noncomputable def f_X7_root_6_b (z : Nat) (p0 : Int32) (rec : Int32 → Int32 → Hp → Option (Int32 × Int32 × Hp)) (v2 : Int32) (v1 : Int32) (g : Hp) : Option (Int32 × Int32 × Hp) :=
  if v2 ≤ 0 then (some (v2, v1, g))
  else (((if p0 < ((v1 + v2) * (v1 + v2)) then (some (v1))
      else (some ((v1 + v2)))) : Option (Int32)).bind fun q1 =>
    (dvI v2 2).bind fun x2 =>
    rec x2 q1 g)
noncomputable def f_X7_root_6_L (z : Nat) (p0 : Int32) : Nat → Int32 → Int32 → Hp → Option (Int32 × Int32 × Hp)
  | 0, _, _, _ => none
  | n + 1, v2, v1, g => f_X7_root_6_b z p0 (f_X7_root_6_L z p0 n) v2 v1 g
noncomputable def f_X7_root (z : Nat) (a0 : Int32) (g : Hp) : Option (Int32 × Hp) :=
  (f_X7_root_6_L z a0 z 256 0 g).bind fun q3 =>
  some (q3.2.1, q3.2.2)
set_option maxRecDepth 20000 in
theorem b_X7_root_6 {X : Xt Int32} (hX : IsM rtI X) (z : Nat) (p0 : Int32) (rec : Int32 → Int32 → Hp → Option (Int32 × Int32 × Hp)) (K : Int32 × Int32 × Hp → Option (Int32 × Hp)) (he : ∀ (v2 : Int32) (v1 : Int32) (g : Hp), J yX7_root cX7_root 3 (some .int) 0 0 X g 32 [(2, sI v2), (1, sI v1), (0, sI p0)] [] (K (v2, v1, g))) (hr : ∀ (v2 : Int32) (v1 : Int32) (g : Hp), J yX7_root cX7_root 3 (some .int) 0 0 X g 6 [(2, sI v2), (1, sI v1), (0, sI p0)] [] ((rec v2 v1 g).bind K)) (v2 : Int32) (v1 : Int32) (g : Hp) : J yX7_root cX7_root 3 (some .int) 0 0 X g 6 [(2, sI v2), (1, sI v1), (0, sI p0)] [] ((f_X7_root_6_b z p0 rec v2 v1 g).bind K) := by
  unfold f_X7_root_6_b
  refine j_iload_n (pc := 6) 0 dX7_root_6 rfl rfl ?_
  refine j_if_le (pc := 7) (tgt := 32) dX7_root_7 (by decide) bi (fun hc => ?_) (fun hc => ?_)
  · exact he v2 v1 g
  · refine j_iload_n (pc := 10) 1 dX7_root_10 rfl rfl ?_
    refine j_iload_n (pc := 11) 0 dX7_root_11 rfl rfl ?_
    refine j_iadd (pc := 12) dX7_root_12 ?_
    refine j_iload_n (pc := 13) 1 dX7_root_13 rfl rfl ?_
    refine j_iload_n (pc := 14) 0 dX7_root_14 rfl rfl ?_
    refine j_iadd (pc := 15) dX7_root_15 ?_
    refine j_imul (pc := 16) dX7_root_16 ?_
    refine j_iload_n (pc := 17) 2 dX7_root_17 rfl rfl ?_
    refine J.eq bb ?_
    refine J.jn (σ := Int32) (fun q1 pr => J yX7_root cX7_root 3 (some .int) 0 0 X g 25 [(2, sI v2), (1, sI q1), (0, sI p0)] [] pr) (fun K25 hK25 => ?_) (fun q1 => ?_)
    · refine j_icmp_gt (pc := 18) (tgt := 25) dX7_root_18 (by decide) bi (fun hc => ?_) (fun hc => ?_)
      · exact hK25 (v1)
      · refine j_iload_n (pc := 21) 1 dX7_root_21 rfl rfl ?_
        refine j_iload_n (pc := 22) 0 dX7_root_22 rfl rfl ?_
        refine j_iadd (pc := 23) dX7_root_23 ?_
        refine j_istore_n (pc := 24) (lv' := [(1, sI (v1 + v2)), (2, sI v2), (0, sI p0)]) dX7_root_24 rfl (by decide) rfl ?_
        refine J.sub [1, 0, 2] rfl ?_
        exact hK25 ((v1 + v2))
    · refine j_iload_n (pc := 25) 0 dX7_root_25 rfl rfl ?_
      refine j_iconst (pc := 26) (v := 2) dX7_root_26 (by decide) ?_
      refine b_idiv (pc := 27) dX7_root_27 bb (fun x2 => ?_)
      refine j_istore_n (pc := 28) (lv' := [(2, sI x2), (1, sI q1), (0, sI p0)]) dX7_root_28 rfl (by decide) rfl ?_
      refine j_goto (pc := 29) (tgt := 6) dX7_root_29 (by decide) ?_
      exact hr x2 q1 g
set_option maxRecDepth 20000 in
theorem l_X7_root_6 {X : Xt Int32} (hX : IsM rtI X) (z : Nat) (p0 : Int32) (K : Int32 × Int32 × Hp → Option (Int32 × Hp)) (he : ∀ (v2 : Int32) (v1 : Int32) (g : Hp), J yX7_root cX7_root 3 (some .int) 0 0 X g 32 [(2, sI v2), (1, sI v1), (0, sI p0)] [] (K (v2, v1, g))) : ∀ (n : Nat) (v2 : Int32) (v1 : Int32) (g : Hp), J yX7_root cX7_root 3 (some .int) 0 0 X g 6 [(2, sI v2), (1, sI v1), (0, sI p0)] [] ((f_X7_root_6_L z p0 n v2 v1 g).bind K)
  | 0, _, _, _ => J.eq rfl J.none
  | n + 1, v2, v1, g => b_X7_root_6 hX z p0 _ K he (fun v2 v1 g => l_X7_root_6 hX z p0 K he n v2 v1 g) v2 v1 g
set_option maxRecDepth 20000 in
theorem m_X7_root (z : Nat) (a0 : Int32) (g : Hp) : FM yX7_root cX7_root 3 (some .int) 0 0 rtI [sI a0] g (f_X7_root z a0 g) := by
  refine FM.entry (by decide +kernel) (Nat.le_of_ble_eq_true rfl) (fun X hX => ?_)
  unfold f_X7_root
  show J yX7_root cX7_root 3 (some .int) 0 0 X g 0 [(0, sI a0)] [] _
  refine j_iconst (pc := 0) (v := 0) dX7_root_0 (by decide) ?_
  refine j_istore_n (pc := 1) (lv' := [(1, sI 0), (0, sI a0)]) dX7_root_1 rfl (by decide) rfl ?_
  refine j_sipush (pc := 2) (v := 256) dX7_root_2 (by decide) ?_
  refine j_istore_n (pc := 5) (lv' := [(2, sI 256), (1, sI 0), (0, sI a0)]) dX7_root_5 rfl (by decide) rfl ?_
  refine l_X7_root_6 hX z a0 _ (fun q3_0 q3_1 q3_g => ?_) z 256 0 g
  refine j_iload_n (pc := 32) 1 dX7_root_32 rfl rfl ?_
  exact j_ireturn dX7_root_33 hX rfl rfl
/-! X7_reckon -/
noncomputable def f_X7_reckon_2_b (z : Nat) (p0 : Option Nm) (p1 : Int32) (rec : Int32 → Hp → Option (Int32 × Hp)) (v2 : Int32) (g : Hp) : Option (Int32 × Hp) :=
  if 144 ≤ v2 then (some (v2, g))
  else ((dvI v2 12).bind fun x1 =>
    (rmI v2 12).bind fun x2 =>
    (getR p0 8 0 g).bind fun x3 =>
    (f_X7_root z (p1 * ((x1 * x1) + (x2 * x2))) g).bind fun q4 =>
    (astI x3 v2 q4.1 q4.2).bind fun g5 =>
    rec (v2 + 1) g5)
noncomputable def f_X7_reckon_2_L (z : Nat) (p0 : Option Nm) (p1 : Int32) : Nat → Int32 → Hp → Option (Int32 × Hp)
  | 0, _, _ => none
  | n + 1, v2, g => f_X7_reckon_2_b z p0 p1 (f_X7_reckon_2_L z p0 p1 n) v2 g
noncomputable def f_X7_reckon (z : Nat) (t : Option Nm) (a0 : Int32) (g : Hp) : Option (Unit × Hp) :=
  (f_X7_reckon_2_L z t a0 z 0 g).bind fun q6 =>
  some ((), q6.2)
set_option maxRecDepth 20000 in
theorem b_X7_reckon_2 {X : Xt Unit} (hX : IsM rtV X) (z : Nat) (p0 : Option Nm) (p1 : Int32) (rec : Int32 → Hp → Option (Int32 × Hp)) (K : Int32 × Hp → Option (Unit × Hp)) (he : ∀ (v2 : Int32) (g : Hp), J yX7_reckon cX7_reckon 5 none 1 22 X g 46 [(2, sI v2), (0, sR p0), (1, sI p1)] [] (K (v2, g))) (hr : ∀ (v2 : Int32) (g : Hp), J yX7_reckon cX7_reckon 5 none 1 22 X g 2 [(2, sI v2), (0, sR p0), (1, sI p1)] [] ((rec v2 g).bind K)) (v2 : Int32) (g : Hp) : J yX7_reckon cX7_reckon 5 none 1 22 X g 2 [(2, sI v2), (0, sR p0), (1, sI p1)] [] ((f_X7_reckon_2_b z p0 p1 rec v2 g).bind K) := by
  unfold f_X7_reckon_2_b
  refine j_iload_n (pc := 2) 0 dX7_reckon_2 rfl rfl ?_
  refine j_sipush (pc := 3) (v := 144) dX7_reckon_3 (by decide) ?_
  refine j_icmp_ge (pc := 6) (tgt := 46) dX7_reckon_6 (by decide) bi (fun hc => ?_) (fun hc => ?_)
  · exact he v2 g
  · refine j_iload_n (pc := 9) 0 dX7_reckon_9 rfl rfl ?_
    refine j_bipush (pc := 10) (v := 12) dX7_reckon_10 (by decide) ?_
    refine b_idiv (pc := 12) dX7_reckon_12 bb (fun x1 => ?_)
    refine j_istore_n (pc := 13) (lv' := [(3, sI x1), (2, sI v2), (0, sR p0), (1, sI p1)]) dX7_reckon_13 rfl (by decide) rfl ?_
    refine j_iload_n (pc := 14) 1 dX7_reckon_14 rfl rfl ?_
    refine j_bipush (pc := 15) (v := 12) dX7_reckon_15 (by decide) ?_
    refine b_irem (pc := 17) dX7_reckon_17 bb (fun x2 => ?_)
    refine j_istore (pc := 18) (lv' := [(4, sI x2), (3, sI x1), (2, sI v2), (0, sR p0), (1, sI p1)]) dX7_reckon_18 (by decide) rfl ?_
    refine j_aload_n (pc := 20) 3 dX7_reckon_20 rfl rfl ?_
    refine j_getR (pc := 21) (own := RX7) dX7_reckon_21 lf_X7_9 rfl bb (fun x3 => ?_)
    refine j_iload_n (pc := 24) 2 dX7_reckon_24 rfl rfl ?_
    refine j_iload_n (pc := 25) 4 dX7_reckon_25 rfl rfl ?_
    refine j_iload_n (pc := 26) 1 dX7_reckon_26 rfl rfl ?_
    refine j_iload_n (pc := 27) 1 dX7_reckon_27 rfl rfl ?_
    refine j_imul (pc := 28) dX7_reckon_28 ?_
    refine j_iload (pc := 29) 0 dX7_reckon_29 rfl ?_
    refine j_iload (pc := 31) 0 dX7_reckon_31 rfl ?_
    refine j_imul (pc := 33) dX7_reckon_33 ?_
    refine j_iadd (pc := 34) dX7_reckon_34 ?_
    refine j_imul (pc := 35) dX7_reckon_35 ?_
    refine j_callS (pc := 36) (own := RX7) [sI (p1 * ((x1 * x1) + (x2 * x2)))] [sI v2, sR x3] dX7_reckon_36 lc_X7_19 ls_X7_root rfl (m_X7_root z (p1 * ((x1 * x1) + (x2 * x2))) g) ⟨⟨Nat.le_of_ble_eq_true rfl, Nat.le_of_ble_eq_true rfl⟩, Nat.le_of_ble_eq_true rfl⟩ rfl bb (fun q4r q4g => ?_)
    refine j_astI (pc := 39) dX7_reckon_39 bb (fun g5 => ?_)
    refine j_iinc (pc := 40) (v := (v2 + 1)) (lv' := [(2, sI (v2 + 1)), (4, sI x2), (3, sI x1), (0, sR p0), (1, sI p1)]) 2 dX7_reckon_40 rfl rfl (by decide) rfl ?_
    refine j_goto (pc := 43) (tgt := 2) dX7_reckon_43 (by decide) ?_
    refine J.sub [0, 3, 4] rfl ?_
    exact hr (v2 + 1) g5
set_option maxRecDepth 20000 in
theorem l_X7_reckon_2 {X : Xt Unit} (hX : IsM rtV X) (z : Nat) (p0 : Option Nm) (p1 : Int32) (K : Int32 × Hp → Option (Unit × Hp)) (he : ∀ (v2 : Int32) (g : Hp), J yX7_reckon cX7_reckon 5 none 1 22 X g 46 [(2, sI v2), (0, sR p0), (1, sI p1)] [] (K (v2, g))) : ∀ (n : Nat) (v2 : Int32) (g : Hp), J yX7_reckon cX7_reckon 5 none 1 22 X g 2 [(2, sI v2), (0, sR p0), (1, sI p1)] [] ((f_X7_reckon_2_L z p0 p1 n v2 g).bind K)
  | 0, _, _ => J.eq rfl J.none
  | n + 1, v2, g => b_X7_reckon_2 hX z p0 p1 _ K he (fun v2 g => l_X7_reckon_2 hX z p0 p1 K he n v2 g) v2 g
set_option maxRecDepth 20000 in
theorem m_X7_reckon (z : Nat) (t : Option Nm) (a0 : Int32) (g : Hp) : FM yX7_reckon cX7_reckon 5 none 1 22 rtV [sR t, sI a0] g (f_X7_reckon z t a0 g) := by
  refine FM.entry (by decide +kernel) (Nat.le_of_ble_eq_true rfl) (fun X hX => ?_)
  unfold f_X7_reckon
  show J yX7_reckon cX7_reckon 5 none 1 22 X g 0 [(0, sR t), (1, sI a0)] [] _
  refine j_iconst (pc := 0) (v := 0) dX7_reckon_0 (by decide) ?_
  refine j_istore_n (pc := 1) (lv' := [(2, sI 0), (0, sR t), (1, sI a0)]) dX7_reckon_1 rfl (by decide) rfl ?_
  refine l_X7_reckon_2 hX z t a0 _ (fun q6_0 q6_g => ?_) z 0 g
  exact j_return dX7_reckon_46 hX rfl rfl
/-! X7_init -/
noncomputable def f_X7_init (z : Nat) (t : Option Nm) (a0 : Int32) (g : Hp) : Option (Unit × Hp) :=
  (nnu t).bind fun _ =>
  (mkI (20, nix t) 144 g).bind fun q1 =>
  (putR t 8 0 q1.1 q1.2).bind fun g2 =>
  (ick t 8 (f_X7_reckon z t a0 g2)).bind fun q3 =>
  some ((), q3.2)
set_option maxRecDepth 20000 in
theorem m_X7_init (z : Nat) (t : Option Nm) (a0 : Int32) (g : Hp) : FM yX7_init cX7_init 2 none 2 46 rtV [sR t, sI a0] g (f_X7_init z t a0 g) := by
  refine FM.entry (by decide +kernel) (Nat.le_of_ble_eq_true rfl) (fun X hX => ?_)
  unfold f_X7_init
  show J yX7_init cX7_init 2 none 2 46 X g 0 [(0, sR t), (1, sI a0)] [] _
  refine j_aload_n (pc := 0) 0 dX7_init_0 rfl rfl ?_
  refine b_oinit (pc := 1) (own := RX7) dX7_init_1 lo_X7_3 rfl ⟨Nat.le_of_ble_eq_true rfl, Nat.le_of_ble_eq_true rfl⟩ rfl ?_
  refine j_aload_n (pc := 4) 0 dX7_init_4 rfl rfl ?_
  refine j_sipush (pc := 5) (v := 144) dX7_init_5 (by decide) ?_
  refine j_mkI (pc := 8) dX7_init_8 lA_int rfl (fun q1r q1g => ?_)
  refine j_putR (pc := 10) (own := RX7) dX7_init_10 lf_X7_9 lt_8_0 rfl lw_X7_9_X7_init rfl rfl (fun g2 => ?_)
  refine j_aload_n (pc := 13) 0 dX7_init_13 rfl rfl ?_
  refine j_iload_n (pc := 14) 1 dX7_init_14 rfl rfl ?_
  refine j_callV (pc := 15) (own := RX7) [sI a0] [] dX7_init_15 lc_X7_15 lv_X7_reckon rfl (m_X7_reckon z t a0 g2) ⟨⟨Nat.le_of_ble_eq_true rfl, Nat.le_of_ble_eq_true rfl⟩, Nat.le_of_ble_eq_true rfl⟩ rfl rfl (fun q3r q3g => ?_)
  exact j_return dX7_init_18 hX rfl rfl
/-! X7_between -/
noncomputable def f_X7_between (z : Nat) (t : Option Nm) (a0 : Int32) (a1 : Int32) (g : Hp) : Option (Int32 × Hp) :=
  (dvI a0 12).bind fun x1 =>
  (dvI a1 12).bind fun x2 =>
  (rmI a0 12).bind fun x3 =>
  (rmI a1 12).bind fun x4 =>
  (getR t 8 0 g).bind fun x5 =>
  (aldI x5 ((12 * (iabs (x1 - x2))) + (iabs (x3 - x4))) g).bind fun x6 =>
  some (x6, g)
set_option maxRecDepth 20000 in
theorem m_X7_between (z : Nat) (t : Option Nm) (a0 : Int32) (a1 : Int32) (g : Hp) : FM yX7_between cX7_between 5 (some .int) 1 13 rtI [sR t, sI a0, sI a1] g (f_X7_between z t a0 a1 g) := by
  refine FM.entry (by decide +kernel) (Nat.le_of_ble_eq_true rfl) (fun X hX => ?_)
  unfold f_X7_between
  show J yX7_between cX7_between 5 (some .int) 1 13 X g 0 [(0, sR t), (1, sI a0), (2, sI a1)] [] _
  refine j_iload_n (pc := 0) 1 dX7_between_0 rfl rfl ?_
  refine j_bipush (pc := 1) (v := 12) dX7_between_1 (by decide) ?_
  refine b_idiv (pc := 3) dX7_between_3 rfl (fun x1 => ?_)
  refine j_iload_n (pc := 4) 2 dX7_between_4 rfl rfl ?_
  refine j_bipush (pc := 5) (v := 12) dX7_between_5 (by decide) ?_
  refine b_idiv (pc := 7) dX7_between_7 rfl (fun x2 => ?_)
  refine j_isub (pc := 8) dX7_between_8 ?_
  refine j_abs (pc := 9) (own := RX7) dX7_between_9 lM_X7_23 rfl ⟨Nat.le_of_ble_eq_true rfl, Nat.le_of_ble_eq_true rfl⟩ ?_
  refine j_istore_n (pc := 12) (lv' := [(3, sI (iabs (x1 - x2))), (0, sR t), (1, sI a0), (2, sI a1)]) dX7_between_12 rfl (by decide) rfl ?_
  refine j_iload_n (pc := 13) 2 dX7_between_13 rfl rfl ?_
  refine j_bipush (pc := 14) (v := 12) dX7_between_14 (by decide) ?_
  refine b_irem (pc := 16) dX7_between_16 rfl (fun x3 => ?_)
  refine j_iload_n (pc := 17) 3 dX7_between_17 rfl rfl ?_
  refine j_bipush (pc := 18) (v := 12) dX7_between_18 (by decide) ?_
  refine b_irem (pc := 20) dX7_between_20 rfl (fun x4 => ?_)
  refine j_isub (pc := 21) dX7_between_21 ?_
  refine j_abs (pc := 22) (own := RX7) dX7_between_22 lM_X7_23 rfl ⟨Nat.le_of_ble_eq_true rfl, Nat.le_of_ble_eq_true rfl⟩ ?_
  refine j_istore (pc := 25) (lv' := [(4, sI (iabs (x3 - x4))), (3, sI (iabs (x1 - x2))), (0, sR t), (1, sI a0), (2, sI a1)]) dX7_between_25 (by decide) rfl ?_
  refine j_aload_n (pc := 27) 2 dX7_between_27 rfl rfl ?_
  refine j_getR (pc := 28) (own := RX7) dX7_between_28 lf_X7_9 rfl rfl (fun x5 => ?_)
  refine j_bipush (pc := 31) (v := 12) dX7_between_31 (by decide) ?_
  refine j_iload_n (pc := 33) 1 dX7_between_33 rfl rfl ?_
  refine j_imul (pc := 34) dX7_between_34 ?_
  refine j_iload (pc := 35) 0 dX7_between_35 rfl ?_
  refine j_iadd (pc := 37) dX7_between_37 ?_
  refine j_aldI (pc := 38) dX7_between_38 rfl (fun x6 => ?_)
  exact j_ireturn dX7_between_39 hX rfl rfl
/-! X4_init -/
noncomputable def f_X4_init (z : Nat) (t : Option Nm) (g : Hp) : Option (Unit × Hp) :=
  (nnu t).bind fun _ =>
  (mkI (25, nix t) 30 g).bind fun q1 =>
  (putR t 5 0 q1.1 q1.2).bind fun g2 =>
  (putI t 5 1 (-1) g2).bind fun g3 =>
  some ((), g3)
set_option maxRecDepth 20000 in
theorem m_X4_init (z : Nat) (t : Option Nm) (g : Hp) : FM yX4_init cX4_init 1 none 1 12 rtV [sR t] g (f_X4_init z t g) := by
  refine FM.entry (by decide +kernel) (Nat.le_of_ble_eq_true rfl) (fun X hX => ?_)
  unfold f_X4_init
  show J yX4_init cX4_init 1 none 1 12 X g 0 [(0, sR t)] [] _
  refine j_aload_n (pc := 0) 0 dX4_init_0 rfl rfl ?_
  refine b_oinit (pc := 1) (own := RX4) dX4_init_1 lo_X4_3 rfl ⟨Nat.le_of_ble_eq_true rfl, Nat.le_of_ble_eq_true rfl⟩ rfl ?_
  refine j_aload_n (pc := 4) 0 dX4_init_4 rfl rfl ?_
  refine j_bipush (pc := 5) (v := 30) dX4_init_5 (by decide) ?_
  refine j_mkI (pc := 7) dX4_init_7 lA_int rfl (fun q1r q1g => ?_)
  refine j_putR (pc := 9) (own := RX4) dX4_init_9 lf_X4_9 lt_5_0 rfl lw_X4_9_X4_init rfl rfl (fun g2 => ?_)
  refine j_aload_n (pc := 12) 0 dX4_init_12 rfl rfl ?_
  refine j_iconst (pc := 13) (v := (-1)) dX4_init_13 (by decide) ?_
  refine j_putI (pc := 14) (own := RX4) dX4_init_14 lf_X4_15 lt_5_1 lw_X4_15_X4_init rfl rfl (fun g3 => ?_)
  exact j_return dX4_init_17 hX rfl rfl
/-! X4_isMissing -/
noncomputable def f_X4_isMissing (z : Nat) (t : Option Nm) (g : Hp) : Option (Int32 × Hp) :=
  (getI t 5 1 g).bind fun x1 =>
  if x1 = (-1) then (rtZ 1 g)
  else (rtZ 0 g)
set_option maxRecDepth 20000 in
theorem m_X4_isMissing (z : Nat) (t : Option Nm) (g : Hp) : FM yX4_isMissing cX4_isMissing 1 (some .boolean) 0 0 rtI [sR t] g (f_X4_isMissing z t g) := by
  refine FM.entry (by decide +kernel) (Nat.le_of_ble_eq_true rfl) (fun X hX => ?_)
  unfold f_X4_isMissing
  show J yX4_isMissing cX4_isMissing 1 (some .boolean) 0 0 X g 0 [(0, sR t)] [] _
  refine j_aload_n (pc := 0) 0 dX4_isMissing_0 rfl rfl ?_
  refine j_getI (pc := 1) (own := RX4) dX4_isMissing_1 lf_X4_15 rfl rfl (fun x1 => ?_)
  refine j_iconst (pc := 4) (v := (-1)) dX4_isMissing_4 (by decide) ?_
  refine j_icmp_ne (pc := 5) (tgt := 12) dX4_isMissing_5 (by decide) rfl (fun hc => ?_) (fun hc => ?_)
  · refine j_iconst (pc := 12) (v := 0) dX4_isMissing_12 (by decide) ?_
    exact j_zreturn dX4_isMissing_13 hX rfl rfl
  · refine j_iconst (pc := 8) (v := 1) dX4_isMissing_8 (by decide) ?_
    refine j_goto (pc := 9) (tgt := 13) dX4_isMissing_9 (by decide) ?_
    exact j_zreturn dX4_isMissing_13 hX rfl rfl
/-! X4_begin -/
noncomputable def f_X4_begin_2_b (z : Nat) (p0 : Option Nm) (p1 : Int32) (rec : Int32 → Hp → Option (Int32 × Hp)) (v2 : Int32) (g : Hp) : Option (Int32 × Hp) :=
  (getR p0 5 0 g).bind fun x1 =>
  (alen x1 g).bind fun x2 =>
  if x2 ≤ v2 then (some (v2, g))
  else ((getR p0 5 0 g).bind fun x3 =>
    (astI x3 v2 0 g).bind fun g4 =>
    rec (v2 + 1) g4)
noncomputable def f_X4_begin_2_L (z : Nat) (p0 : Option Nm) (p1 : Int32) : Nat → Int32 → Hp → Option (Int32 × Hp)
  | 0, _, _ => none
  | n + 1, v2, g => f_X4_begin_2_b z p0 p1 (f_X4_begin_2_L z p0 p1 n) v2 g
noncomputable def f_X4_begin (z : Nat) (t : Option Nm) (a0 : Int32) (g : Hp) : Option (Unit × Hp) :=
  (f_X4_begin_2_L z t a0 z 0 g).bind fun q5 =>
  (putI t 5 1 a0 q5.2).bind fun g6 =>
  some ((), g6)
set_option maxRecDepth 20000 in
theorem b_X4_begin_2 {X : Xt Unit} (hX : IsM rtV X) (z : Nat) (p0 : Option Nm) (p1 : Int32) (rec : Int32 → Hp → Option (Int32 × Hp)) (K : Int32 × Hp → Option (Unit × Hp)) (he : ∀ (v2 : Int32) (g : Hp), J yX4_begin cX4_begin 3 none 0 0 X g 24 [(2, sI v2), (0, sR p0), (1, sI p1)] [] (K (v2, g))) (hr : ∀ (v2 : Int32) (g : Hp), J yX4_begin cX4_begin 3 none 0 0 X g 2 [(2, sI v2), (0, sR p0), (1, sI p1)] [] ((rec v2 g).bind K)) (v2 : Int32) (g : Hp) : J yX4_begin cX4_begin 3 none 0 0 X g 2 [(2, sI v2), (0, sR p0), (1, sI p1)] [] ((f_X4_begin_2_b z p0 p1 rec v2 g).bind K) := by
  unfold f_X4_begin_2_b
  refine j_iload_n (pc := 2) 0 dX4_begin_2 rfl rfl ?_
  refine j_aload_n (pc := 3) 1 dX4_begin_3 rfl rfl ?_
  refine j_getR (pc := 4) (own := RX4) dX4_begin_4 lf_X4_9 rfl bb (fun x1 => ?_)
  refine j_alen (pc := 7) dX4_begin_7 bb (fun x2 => ?_)
  refine j_icmp_ge (pc := 8) (tgt := 24) dX4_begin_8 (by decide) bi (fun hc => ?_) (fun hc => ?_)
  · exact he v2 g
  · refine j_aload_n (pc := 11) 1 dX4_begin_11 rfl rfl ?_
    refine j_getR (pc := 12) (own := RX4) dX4_begin_12 lf_X4_9 rfl bb (fun x3 => ?_)
    refine j_iload_n (pc := 15) 0 dX4_begin_15 rfl rfl ?_
    refine j_iconst (pc := 16) (v := 0) dX4_begin_16 (by decide) ?_
    refine j_astI (pc := 17) dX4_begin_17 bb (fun g4 => ?_)
    refine j_iinc (pc := 18) (v := (v2 + 1)) (lv' := [(2, sI (v2 + 1)), (0, sR p0), (1, sI p1)]) 0 dX4_begin_18 rfl rfl (by decide) rfl ?_
    refine j_goto (pc := 21) (tgt := 2) dX4_begin_21 (by decide) ?_
    exact hr (v2 + 1) g4
set_option maxRecDepth 20000 in
theorem l_X4_begin_2 {X : Xt Unit} (hX : IsM rtV X) (z : Nat) (p0 : Option Nm) (p1 : Int32) (K : Int32 × Hp → Option (Unit × Hp)) (he : ∀ (v2 : Int32) (g : Hp), J yX4_begin cX4_begin 3 none 0 0 X g 24 [(2, sI v2), (0, sR p0), (1, sI p1)] [] (K (v2, g))) : ∀ (n : Nat) (v2 : Int32) (g : Hp), J yX4_begin cX4_begin 3 none 0 0 X g 2 [(2, sI v2), (0, sR p0), (1, sI p1)] [] ((f_X4_begin_2_L z p0 p1 n v2 g).bind K)
  | 0, _, _ => J.eq rfl J.none
  | n + 1, v2, g => b_X4_begin_2 hX z p0 p1 _ K he (fun v2 g => l_X4_begin_2 hX z p0 p1 K he n v2 g) v2 g
set_option maxRecDepth 20000 in
theorem m_X4_begin (z : Nat) (t : Option Nm) (a0 : Int32) (g : Hp) : FM yX4_begin cX4_begin 3 none 0 0 rtV [sR t, sI a0] g (f_X4_begin z t a0 g) := by
  refine FM.entry (by decide +kernel) (Nat.le_of_ble_eq_true rfl) (fun X hX => ?_)
  unfold f_X4_begin
  show J yX4_begin cX4_begin 3 none 0 0 X g 0 [(0, sR t), (1, sI a0)] [] _
  refine j_iconst (pc := 0) (v := 0) dX4_begin_0 (by decide) ?_
  refine j_istore_n (pc := 1) (lv' := [(2, sI 0), (0, sR t), (1, sI a0)]) dX4_begin_1 rfl (by decide) rfl ?_
  refine l_X4_begin_2 hX z t a0 _ (fun q5_0 q5_g => ?_) z 0 g
  refine j_aload_n (pc := 24) 1 dX4_begin_24 rfl rfl ?_
  refine j_iload_n (pc := 25) 2 dX4_begin_25 rfl rfl ?_
  refine j_putI (pc := 26) (own := RX4) dX4_begin_26 lf_X4_15 lt_5_1 lw_X4_15_X4_begin rfl rfl (fun g6 => ?_)
  exact j_return dX4_begin_29 hX rfl rfl
/-! X4_has -/
noncomputable def f_X4_has (z : Nat) (t : Option Nm) (a0 : Int32) (a1 : Int32) (g : Hp) : Option (Int32 × Hp) :=
  if a0 < 0 then (rtZ 0 g)
  else ((getI t 5 1 g).bind fun x1 =>
    if (x1 - a0) < a1 then (rtZ 0 g)
    else (rtZ 1 g))
set_option maxRecDepth 20000 in
theorem m_X4_has (z : Nat) (t : Option Nm) (a0 : Int32) (a1 : Int32) (g : Hp) : FM yX4_has cX4_has 3 (some .boolean) 0 0 rtI [sR t, sI a0, sI a1] g (f_X4_has z t a0 a1 g) := by
  refine FM.entry (by decide +kernel) (Nat.le_of_ble_eq_true rfl) (fun X hX => ?_)
  unfold f_X4_has
  show J yX4_has cX4_has 3 (some .boolean) 0 0 X g 0 [(0, sR t), (1, sI a0), (2, sI a1)] [] _
  refine j_iload_n (pc := 0) 1 dX4_has_0 rfl rfl ?_
  refine j_if_lt (pc := 1) (tgt := 18) dX4_has_1 (by decide) rfl (fun hc => ?_) (fun hc => ?_)
  · refine j_iconst (pc := 18) (v := 0) dX4_has_18 (by decide) ?_
    exact j_zreturn dX4_has_19 hX rfl rfl
  · refine j_iload_n (pc := 4) 2 dX4_has_4 rfl rfl ?_
    refine j_aload_n (pc := 5) 0 dX4_has_5 rfl rfl ?_
    refine j_getI (pc := 6) (own := RX4) dX4_has_6 lf_X4_15 rfl rfl (fun x1 => ?_)
    refine j_iload_n (pc := 9) 1 dX4_has_9 rfl rfl ?_
    refine j_isub (pc := 10) dX4_has_10 ?_
    refine j_icmp_gt (pc := 11) (tgt := 18) dX4_has_11 (by decide) rfl (fun hc => ?_) (fun hc => ?_)
    · refine j_iconst (pc := 18) (v := 0) dX4_has_18 (by decide) ?_
      exact j_zreturn dX4_has_19 hX rfl rfl
    · refine j_iconst (pc := 14) (v := 1) dX4_has_14 (by decide) ?_
      refine j_goto (pc := 15) (tgt := 19) dX4_has_15 (by decide) ?_
      exact j_zreturn dX4_has_19 hX rfl rfl
/-! X4_sizes -/
noncomputable def f_X4_sizes_5_b (z : Nat) (p0 : Option Nm) (p1 : Int32) (p2 : Int32) (rec : Int32 → Int64 → Hp → Option (Int32 × Int64 × Hp)) (v5 : Int32) (v3 : Int64) (g : Hp) : Option (Int32 × Int64 × Hp) :=
  if (p1 + p2) ≤ v5 then (some (v5, v3, g))
  else ((getR p0 5 0 g).bind fun x1 =>
    (aldI x1 v5 g).bind fun x2 =>
    rec (v5 + 1) (v3 + ((iabs x2) : Int32).toInt64) g)
noncomputable def f_X4_sizes_5_L (z : Nat) (p0 : Option Nm) (p1 : Int32) (p2 : Int32) : Nat → Int32 → Int64 → Hp → Option (Int32 × Int64 × Hp)
  | 0, _, _, _ => none
  | n + 1, v5, v3, g => f_X4_sizes_5_b z p0 p1 p2 (f_X4_sizes_5_L z p0 p1 p2 n) v5 v3 g
noncomputable def f_X4_sizes (z : Nat) (t : Option Nm) (a0 : Int32) (a1 : Int32) (g : Hp) : Option (Int64 × Hp) :=
  (f_X4_sizes_5_L z t a0 a1 z a0 0 g).bind fun q3 =>
  some (q3.2.1, q3.2.2)
set_option maxRecDepth 20000 in
theorem b_X4_sizes_5 {X : Xt Int64} (hX : IsM rtL X) (z : Nat) (p0 : Option Nm) (p1 : Int32) (p2 : Int32) (rec : Int32 → Int64 → Hp → Option (Int32 × Int64 × Hp)) (K : Int32 × Int64 × Hp → Option (Int64 × Hp)) (he : ∀ (v5 : Int32) (v3 : Int64) (g : Hp), J yX4_sizes cX4_sizes 6 (some .long) 1 15 X g 33 [(5, sI v5), (3, sL v3), (0, sR p0), (1, sI p1), (2, sI p2)] [] (K (v5, v3, g))) (hr : ∀ (v5 : Int32) (v3 : Int64) (g : Hp), J yX4_sizes cX4_sizes 6 (some .long) 1 15 X g 5 [(5, sI v5), (3, sL v3), (0, sR p0), (1, sI p1), (2, sI p2)] [] ((rec v5 v3 g).bind K)) (v5 : Int32) (v3 : Int64) (g : Hp) : J yX4_sizes cX4_sizes 6 (some .long) 1 15 X g 5 [(5, sI v5), (3, sL v3), (0, sR p0), (1, sI p1), (2, sI p2)] [] ((f_X4_sizes_5_b z p0 p1 p2 rec v5 v3 g).bind K) := by
  unfold f_X4_sizes_5_b
  refine j_iload (pc := 5) 0 dX4_sizes_5 rfl ?_
  refine j_iload_n (pc := 7) 3 dX4_sizes_7 rfl rfl ?_
  refine j_iload_n (pc := 8) 4 dX4_sizes_8 rfl rfl ?_
  refine j_iadd (pc := 9) dX4_sizes_9 ?_
  refine j_icmp_ge (pc := 10) (tgt := 33) dX4_sizes_10 (by decide) bi (fun hc => ?_) (fun hc => ?_)
  · exact he v5 v3 g
  · refine j_lload_n (pc := 13) 1 dX4_sizes_13 rfl rfl ?_
    refine j_aload_n (pc := 14) 2 dX4_sizes_14 rfl rfl ?_
    refine j_getR (pc := 15) (own := RX4) dX4_sizes_15 lf_X4_9 rfl bb (fun x1 => ?_)
    refine j_iload (pc := 18) 0 dX4_sizes_18 rfl ?_
    refine j_aldI (pc := 20) dX4_sizes_20 bb (fun x2 => ?_)
    refine j_abs (pc := 21) (own := RX4) dX4_sizes_21 lM_X4_19 rfl ⟨Nat.le_of_ble_eq_true rfl, Nat.le_of_ble_eq_true rfl⟩ ?_
    refine j_i2l (pc := 24) dX4_sizes_24 ?_
    refine j_ladd (pc := 25) dX4_sizes_25 ?_
    refine j_lstore_n (pc := 26) (lv' := [(3, sL (v3 + ((iabs x2) : Int32).toInt64)), (5, sI v5), (0, sR p0), (1, sI p1), (2, sI p2)]) dX4_sizes_26 rfl (by decide) rfl ?_
    refine j_iinc (pc := 27) (v := (v5 + 1)) (lv' := [(5, sI (v5 + 1)), (3, sL (v3 + ((iabs x2) : Int32).toInt64)), (0, sR p0), (1, sI p1), (2, sI p2)]) 1 dX4_sizes_27 rfl rfl (by decide) rfl ?_
    refine j_goto (pc := 30) (tgt := 5) dX4_sizes_30 (by decide) ?_
    exact hr (v5 + 1) (v3 + ((iabs x2) : Int32).toInt64) g
set_option maxRecDepth 20000 in
theorem l_X4_sizes_5 {X : Xt Int64} (hX : IsM rtL X) (z : Nat) (p0 : Option Nm) (p1 : Int32) (p2 : Int32) (K : Int32 × Int64 × Hp → Option (Int64 × Hp)) (he : ∀ (v5 : Int32) (v3 : Int64) (g : Hp), J yX4_sizes cX4_sizes 6 (some .long) 1 15 X g 33 [(5, sI v5), (3, sL v3), (0, sR p0), (1, sI p1), (2, sI p2)] [] (K (v5, v3, g))) : ∀ (n : Nat) (v5 : Int32) (v3 : Int64) (g : Hp), J yX4_sizes cX4_sizes 6 (some .long) 1 15 X g 5 [(5, sI v5), (3, sL v3), (0, sR p0), (1, sI p1), (2, sI p2)] [] ((f_X4_sizes_5_L z p0 p1 p2 n v5 v3 g).bind K)
  | 0, _, _, _ => J.eq rfl J.none
  | n + 1, v5, v3, g => b_X4_sizes_5 hX z p0 p1 p2 _ K he (fun v5 v3 g => l_X4_sizes_5 hX z p0 p1 p2 K he n v5 v3 g) v5 v3 g
set_option maxRecDepth 20000 in
theorem m_X4_sizes (z : Nat) (t : Option Nm) (a0 : Int32) (a1 : Int32) (g : Hp) : FM yX4_sizes cX4_sizes 6 (some .long) 1 15 rtL [sR t, sI a0, sI a1] g (f_X4_sizes z t a0 a1 g) := by
  refine FM.entry (by decide +kernel) (Nat.le_of_ble_eq_true rfl) (fun X hX => ?_)
  unfold f_X4_sizes
  show J yX4_sizes cX4_sizes 6 (some .long) 1 15 X g 0 [(0, sR t), (1, sI a0), (2, sI a1)] [] _
  refine j_lconst (pc := 0) (v := 0) dX4_sizes_0 (by decide) ?_
  refine j_lstore_n (pc := 1) (lv' := [(3, sL 0), (0, sR t), (1, sI a0), (2, sI a1)]) dX4_sizes_1 rfl (by decide) rfl ?_
  refine j_iload_n (pc := 2) 2 dX4_sizes_2 rfl rfl ?_
  refine j_istore (pc := 3) (lv' := [(5, sI a0), (3, sL 0), (0, sR t), (1, sI a0), (2, sI a1)]) dX4_sizes_3 (by decide) rfl ?_
  refine l_X4_sizes_5 hX z t a0 a1 _ (fun q3_0 q3_1 q3_g => ?_) z a0 0 g
  refine j_lload_n (pc := 33) 1 dX4_sizes_33 rfl rfl ?_
  exact j_lreturn dX4_sizes_34 hX rfl rfl
/-! X4_firstPick -/
noncomputable def f_X4_firstPick_3_b (z : Nat) (p0 : Option Nm) (p1 : Int32) (p2 : Int32) (p3 : Int32) (p4 : Int32) (rec : Int32 → Hp → Option (Int32 × Hp)) (v5 : Int32) (g : Hp) : Option (Int32 × Hp) :=
  (getI p0 5 1 g).bind fun x1 =>
  if (x1 - p1) < v5 then (some ((-9), g))
  else ((ick p0 5 (f_X4_sizes z p0 v5 p1 g)).bind fun q2 =>
    (ick p0 5 (f_X4_sizes z p0 (v5 - p2) p2 q2.2)).bind fun q3 =>
    if (lg_cmp ((q2.1 * (p2 : Int32).toInt64) * (p4 : Int32).toInt64) ((q3.1 * (p1 : Int32).toInt64) * (p3 : Int32).toInt64)) ≤ 0 then (rec (v5 + 1) q3.2)
    else (some (v5, q3.2)))
noncomputable def f_X4_firstPick_3_L (z : Nat) (p0 : Option Nm) (p1 : Int32) (p2 : Int32) (p3 : Int32) (p4 : Int32) : Nat → Int32 → Hp → Option (Int32 × Hp)
  | 0, _, _ => none
  | n + 1, v5, g => f_X4_firstPick_3_b z p0 p1 p2 p3 p4 (f_X4_firstPick_3_L z p0 p1 p2 p3 p4 n) v5 g
noncomputable def f_X4_firstPick (z : Nat) (t : Option Nm) (a0 : Int32) (a1 : Int32) (a2 : Int32) (a3 : Int32) (g : Hp) : Option (Int32 × Hp) :=
  f_X4_firstPick_3_L z t a0 a1 a2 a3 z a1 g
set_option maxRecDepth 20000 in
theorem b_X4_firstPick_3 {X : Xt Int32} (hX : IsM rtI X) (z : Nat) (p0 : Option Nm) (p1 : Int32) (p2 : Int32) (p3 : Int32) (p4 : Int32) (rec : Int32 → Hp → Option (Int32 × Hp)) (hr : ∀ (v5 : Int32) (g : Hp), J yX4_firstPick cX4_firstPick 6 (some .int) 2 40 X g 3 [(5, sI v5), (0, sR p0), (1, sI p1), (2, sI p2), (3, sI p3), (4, sI p4)] [] (rec v5 g)) (v5 : Int32) (g : Hp) : J yX4_firstPick cX4_firstPick 6 (some .int) 2 40 X g 3 [(5, sI v5), (0, sR p0), (1, sI p1), (2, sI p2), (3, sI p3), (4, sI p4)] [] (f_X4_firstPick_3_b z p0 p1 p2 p3 p4 rec v5 g) := by
  unfold f_X4_firstPick_3_b
  refine j_iload (pc := 3) 0 dX4_firstPick_3 rfl ?_
  refine j_aload_n (pc := 5) 1 dX4_firstPick_5 rfl rfl ?_
  refine j_getI (pc := 6) (own := RX4) dX4_firstPick_6 lf_X4_15 rfl rfl (fun x1 => ?_)
  refine j_iload_n (pc := 9) 2 dX4_firstPick_9 rfl rfl ?_
  refine j_isub (pc := 10) dX4_firstPick_10 ?_
  refine j_icmp_gt (pc := 11) (tgt := 56) dX4_firstPick_11 (by decide) rfl (fun hc => ?_) (fun hc => ?_)
  · refine j_bipush (pc := 56) (v := (-9)) dX4_firstPick_56 (by decide) ?_
    exact j_ireturn dX4_firstPick_58 hX rfl rfl
  · refine j_aload_n (pc := 14) 1 dX4_firstPick_14 rfl rfl ?_
    refine j_iload (pc := 15) 0 dX4_firstPick_15 rfl ?_
    refine j_iload_n (pc := 17) 2 dX4_firstPick_17 rfl rfl ?_
    refine j_callV (pc := 18) (own := RX4) [sI v5, sI p1] [] dX4_firstPick_18 lc_X4_25 lv_X4_sizes rfl (m_X4_sizes z p0 v5 p1 g) ⟨⟨Nat.le_of_ble_eq_true rfl, Nat.le_of_ble_eq_true rfl⟩, Nat.le_of_ble_eq_true rfl⟩ rfl rfl (fun q2r q2g => ?_)
    refine j_iload_n (pc := 21) 3 dX4_firstPick_21 rfl rfl ?_
    refine j_i2l (pc := 22) dX4_firstPick_22 ?_
    refine j_lmul (pc := 23) dX4_firstPick_23 ?_
    refine j_iload (pc := 24) 5 dX4_firstPick_24 rfl ?_
    refine j_i2l (pc := 26) dX4_firstPick_26 ?_
    refine j_lmul (pc := 27) dX4_firstPick_27 ?_
    refine j_aload_n (pc := 28) 1 dX4_firstPick_28 rfl rfl ?_
    refine j_iload (pc := 29) 0 dX4_firstPick_29 rfl ?_
    refine j_iload_n (pc := 31) 3 dX4_firstPick_31 rfl rfl ?_
    refine j_isub (pc := 32) dX4_firstPick_32 ?_
    refine j_iload_n (pc := 33) 3 dX4_firstPick_33 rfl rfl ?_
    refine j_callV (pc := 34) (own := RX4) [sI (v5 - p2), sI p2] [sL ((q2r * (p2 : Int32).toInt64) * (p4 : Int32).toInt64)] dX4_firstPick_34 lc_X4_25 lv_X4_sizes rfl (m_X4_sizes z p0 (v5 - p2) p2 q2g) ⟨⟨Nat.le_of_ble_eq_true rfl, Nat.le_of_ble_eq_true rfl⟩, Nat.le_of_ble_eq_true rfl⟩ rfl rfl (fun q3r q3g => ?_)
    refine j_iload_n (pc := 37) 2 dX4_firstPick_37 rfl rfl ?_
    refine j_i2l (pc := 38) dX4_firstPick_38 ?_
    refine j_lmul (pc := 39) dX4_firstPick_39 ?_
    refine j_iload_n (pc := 40) 4 dX4_firstPick_40 rfl rfl ?_
    refine j_i2l (pc := 41) dX4_firstPick_41 ?_
    refine j_lmul (pc := 42) dX4_firstPick_42 ?_
    refine j_lcmp (pc := 43) dX4_firstPick_43 ?_
    refine j_if_le (pc := 44) (tgt := 50) dX4_firstPick_44 (by decide) rfl (fun hc => ?_) (fun hc => ?_)
    · refine j_iinc (pc := 50) (v := (v5 + 1)) (lv' := [(5, sI (v5 + 1)), (0, sR p0), (1, sI p1), (2, sI p2), (3, sI p3), (4, sI p4)]) 0 dX4_firstPick_50 rfl rfl (by decide) rfl ?_
      refine j_goto (pc := 53) (tgt := 3) dX4_firstPick_53 (by decide) ?_
      exact hr (v5 + 1) q3g
    · refine j_iload (pc := 47) 0 dX4_firstPick_47 rfl ?_
      exact j_ireturn dX4_firstPick_49 hX rfl rfl
set_option maxRecDepth 20000 in
theorem l_X4_firstPick_3 {X : Xt Int32} (hX : IsM rtI X) (z : Nat) (p0 : Option Nm) (p1 : Int32) (p2 : Int32) (p3 : Int32) (p4 : Int32) : ∀ (n : Nat) (v5 : Int32) (g : Hp), J yX4_firstPick cX4_firstPick 6 (some .int) 2 40 X g 3 [(5, sI v5), (0, sR p0), (1, sI p1), (2, sI p2), (3, sI p3), (4, sI p4)] [] (f_X4_firstPick_3_L z p0 p1 p2 p3 p4 n v5 g)
  | 0, _, _ => J.none
  | n + 1, v5, g => b_X4_firstPick_3 hX z p0 p1 p2 p3 p4 _ (fun v5 g => l_X4_firstPick_3 hX z p0 p1 p2 p3 p4 n v5 g) v5 g
set_option maxRecDepth 20000 in
theorem m_X4_firstPick (z : Nat) (t : Option Nm) (a0 : Int32) (a1 : Int32) (a2 : Int32) (a3 : Int32) (g : Hp) : FM yX4_firstPick cX4_firstPick 6 (some .int) 2 40 rtI [sR t, sI a0, sI a1, sI a2, sI a3] g (f_X4_firstPick z t a0 a1 a2 a3 g) := by
  refine FM.entry (by decide +kernel) (Nat.le_of_ble_eq_true rfl) (fun X hX => ?_)
  unfold f_X4_firstPick
  show J yX4_firstPick cX4_firstPick 6 (some .int) 2 40 X g 0 [(0, sR t), (1, sI a0), (2, sI a1), (3, sI a2), (4, sI a3)] [] _
  refine j_iload_n (pc := 0) 2 dX4_firstPick_0 rfl rfl ?_
  refine j_istore (pc := 1) (lv' := [(5, sI a1), (0, sR t), (1, sI a0), (2, sI a1), (3, sI a2), (4, sI a3)]) dX4_firstPick_1 (by decide) rfl ?_
  exact l_X4_firstPick_3 hX z t a0 a1 a2 a3 z a1 g
/-! X5_init -/
noncomputable def f_X5_init (z : Nat) (t : Option Nm) (a0 : Int32) (g : Hp) : Option (Unit × Hp) :=
  (nnu t).bind fun _ =>
  (mkO (5, nix t) 5 g).bind fun q1 =>
  (nnl q1.1 (f_X4_init z q1.1 q1.2)).bind fun q2 =>
  (putR t 6 1 q1.1 q2.2).bind fun g3 =>
  (putI t 6 0 a0 g3).bind fun g4 =>
  some ((), g4)
set_option maxRecDepth 20000 in
theorem m_X5_init (z : Nat) (t : Option Nm) (a0 : Int32) (g : Hp) : FM yX5_init cX5_init 2 none 2 32 rtV [sR t, sI a0] g (f_X5_init z t a0 g) := by
  refine FM.entry (by decide +kernel) (Nat.le_of_ble_eq_true rfl) (fun X hX => ?_)
  unfold f_X5_init
  show J yX5_init cX5_init 2 none 2 32 X g 0 [(0, sR t), (1, sI a0)] [] _
  refine j_aload_n (pc := 0) 0 dX5_init_0 rfl rfl ?_
  refine b_oinit (pc := 1) (own := RX5) dX5_init_1 lo_X5_1 rfl ⟨Nat.le_of_ble_eq_true rfl, Nat.le_of_ble_eq_true rfl⟩ rfl ?_
  refine j_aload_n (pc := 4) 0 dX5_init_4 rfl rfl ?_
  refine j_mkO (pc := 5) (own := RX5) dX5_init_5 ln_X5_7 rfl rfl (fun q1r q1g => ?_)
  refine j_dup (pc := 8) dX5_init_8 rfl ?_
  refine j_callI (pc := 9) (own := RX5) [] [sR q1r, sR t] dX5_init_9 lc_X5_9 li_X4_init rfl (m_X4_init z q1r q1g) ⟨⟨Nat.le_of_ble_eq_true rfl, Nat.le_of_ble_eq_true rfl⟩, Nat.le_of_ble_eq_true rfl⟩ rfl rfl (fun q2r q2g => ?_)
  refine j_putR (pc := 12) (own := RX5) dX5_init_12 lf_X5_10 lt_6_1 rfl lw_X5_10_X5_init rfl rfl (fun g3 => ?_)
  refine j_aload_n (pc := 15) 0 dX5_init_15 rfl rfl ?_
  refine j_iload_n (pc := 16) 1 dX5_init_16 rfl rfl ?_
  refine j_putI (pc := 17) (own := RX5) dX5_init_17 lf_X5_16 lt_6_0 lw_X5_16_X5_init rfl rfl (fun g4 => ?_)
  exact j_return dX5_init_20 hX rfl rfl
/-! X6_init -/
noncomputable def f_X6_init (z : Nat) (t : Option Nm) (a0 : Int32) (g : Hp) : Option (Unit × Hp) :=
  (nnu t).bind fun _ =>
  (putI t 7 0 a0 g).bind fun g1 =>
  some ((), g1)
set_option maxRecDepth 20000 in
theorem m_X6_init (z : Nat) (t : Option Nm) (a0 : Int32) (g : Hp) : FM yX6_init cX6_init 2 none 1 12 rtV [sR t, sI a0] g (f_X6_init z t a0 g) := by
  refine FM.entry (by decide +kernel) (Nat.le_of_ble_eq_true rfl) (fun X hX => ?_)
  unfold f_X6_init
  show J yX6_init cX6_init 2 none 1 12 X g 0 [(0, sR t), (1, sI a0)] [] _
  refine j_aload_n (pc := 0) 0 dX6_init_0 rfl rfl ?_
  refine b_oinit (pc := 1) (own := RX6) dX6_init_1 lo_X6_1 rfl ⟨Nat.le_of_ble_eq_true rfl, Nat.le_of_ble_eq_true rfl⟩ rfl ?_
  refine j_aload_n (pc := 4) 0 dX6_init_4 rfl rfl ?_
  refine j_iload_n (pc := 5) 1 dX6_init_5 rfl rfl ?_
  refine j_putI (pc := 6) (own := RX6) dX6_init_6 lf_X6_7 lt_7_0 lw_X6_7_X6_init rfl rfl (fun g1 => ?_)
  exact j_return dX6_init_9 hX rfl rfl
/-! X2_init -/
noncomputable def f_X2_init (z : Nat) (t : Option Nm) (a0 : Int32) (a1 : Int32) (a2 : Int32) (a3 : Int32) (a4 : Int32) (g : Hp) : Option (Unit × Hp) :=
  (nnu t).bind fun _ =>
  (putI t 3 0 a0 g).bind fun g1 =>
  (putI t 3 1 a1 g1).bind fun g2 =>
  (putI t 3 2 a2 g2).bind fun g3 =>
  (putI t 3 3 a3 g3).bind fun g4 =>
  (putI t 3 4 a4 g4).bind fun g5 =>
  some ((), g5)
set_option maxRecDepth 20000 in
theorem m_X2_init (z : Nat) (t : Option Nm) (a0 : Int32) (a1 : Int32) (a2 : Int32) (a3 : Int32) (a4 : Int32) (g : Hp) : FM yX2_init cX2_init 6 none 1 12 rtV [sR t, sI a0, sI a1, sI a2, sI a3, sI a4] g (f_X2_init z t a0 a1 a2 a3 a4 g) := by
  refine FM.entry (by decide +kernel) (Nat.le_of_ble_eq_true rfl) (fun X hX => ?_)
  unfold f_X2_init
  show J yX2_init cX2_init 6 none 1 12 X g 0 [(0, sR t), (1, sI a0), (2, sI a1), (3, sI a2), (4, sI a3), (5, sI a4)] [] _
  refine j_aload_n (pc := 0) 0 dX2_init_0 rfl rfl ?_
  refine b_oinit (pc := 1) (own := RX2) dX2_init_1 lo_X2_3 rfl ⟨Nat.le_of_ble_eq_true rfl, Nat.le_of_ble_eq_true rfl⟩ rfl ?_
  refine j_aload_n (pc := 4) 0 dX2_init_4 rfl rfl ?_
  refine j_iload_n (pc := 5) 1 dX2_init_5 rfl rfl ?_
  refine j_putI (pc := 6) (own := RX2) dX2_init_6 lf_X2_9 lt_3_0 lw_X2_9_X2_init rfl rfl (fun g1 => ?_)
  refine j_aload_n (pc := 9) 0 dX2_init_9 rfl rfl ?_
  refine j_iload_n (pc := 10) 2 dX2_init_10 rfl rfl ?_
  refine j_putI (pc := 11) (own := RX2) dX2_init_11 lf_X2_15 lt_3_1 lw_X2_15_X2_init rfl rfl (fun g2 => ?_)
  refine j_aload_n (pc := 14) 0 dX2_init_14 rfl rfl ?_
  refine j_iload_n (pc := 15) 3 dX2_init_15 rfl rfl ?_
  refine j_putI (pc := 16) (own := RX2) dX2_init_16 lf_X2_18 lt_3_2 lw_X2_18_X2_init rfl rfl (fun g3 => ?_)
  refine j_aload_n (pc := 19) 0 dX2_init_19 rfl rfl ?_
  refine j_iload (pc := 20) 4 dX2_init_20 rfl ?_
  refine j_putI (pc := 22) (own := RX2) dX2_init_22 lf_X2_21 lt_3_3 lw_X2_21_X2_init rfl rfl (fun g4 => ?_)
  refine j_aload_n (pc := 25) 0 dX2_init_25 rfl rfl ?_
  refine j_iload (pc := 26) 5 dX2_init_26 rfl ?_
  refine j_putI (pc := 28) (own := RX2) dX2_init_28 lf_X2_24 lt_3_4 lw_X2_24_X2_init rfl rfl (fun g5 => ?_)
  exact j_return dX2_init_31 hX rfl rfl
/-! X2_is -/
noncomputable def f_X2_is (z : Nat) (t : Option Nm) (a0 : Int32) (g : Hp) : Option (Int32 × Hp) :=
  if a0 = 0 then (rtZ 1 g)
  else ((getI t 3 3 g).bind fun x1 =>
    if a0 = x1 then (rtZ 1 g)
    else (if a0 = 1 then ((getI t 3 3 g).bind fun x2 =>
        if x2 = 2 then (rtZ 1 g)
        else (rtZ 0 g))
      else (rtZ 0 g)))
set_option maxRecDepth 20000 in
theorem m_X2_is (z : Nat) (t : Option Nm) (a0 : Int32) (g : Hp) : FM yX2_is cX2_is 2 (some .boolean) 0 0 rtI [sR t, sI a0] g (f_X2_is z t a0 g) := by
  refine FM.entry (by decide +kernel) (Nat.le_of_ble_eq_true rfl) (fun X hX => ?_)
  unfold f_X2_is
  show J yX2_is cX2_is 2 (some .boolean) 0 0 X g 0 [(0, sR t), (1, sI a0)] [] _
  refine j_iload_n (pc := 0) 1 dX2_is_0 rfl rfl ?_
  refine j_if_eq (pc := 1) (tgt := 25) dX2_is_1 (by decide) rfl (fun hc => ?_) (fun hc => ?_)
  · refine j_iconst (pc := 25) (v := 1) dX2_is_25 (by decide) ?_
    refine j_goto (pc := 26) (tgt := 30) dX2_is_26 (by decide) ?_
    exact j_zreturn dX2_is_30 hX rfl rfl
  · refine j_iload_n (pc := 4) 1 dX2_is_4 rfl rfl ?_
    refine j_aload_n (pc := 5) 0 dX2_is_5 rfl rfl ?_
    refine j_getI (pc := 6) (own := RX2) dX2_is_6 lf_X2_21 rfl rfl (fun x1 => ?_)
    refine j_icmp_eq (pc := 9) (tgt := 25) dX2_is_9 (by decide) rfl (fun hc => ?_) (fun hc => ?_)
    · refine j_iconst (pc := 25) (v := 1) dX2_is_25 (by decide) ?_
      refine j_goto (pc := 26) (tgt := 30) dX2_is_26 (by decide) ?_
      exact j_zreturn dX2_is_30 hX rfl rfl
    · refine j_iload_n (pc := 12) 1 dX2_is_12 rfl rfl ?_
      refine j_iconst (pc := 13) (v := 1) dX2_is_13 (by decide) ?_
      refine j_icmp_ne (pc := 14) (tgt := 29) dX2_is_14 (by decide) rfl (fun hc => ?_) (fun hc => ?_)
      · refine j_iconst (pc := 29) (v := 0) dX2_is_29 (by decide) ?_
        exact j_zreturn dX2_is_30 hX rfl rfl
      · refine j_aload_n (pc := 17) 0 dX2_is_17 rfl rfl ?_
        refine j_getI (pc := 18) (own := RX2) dX2_is_18 lf_X2_21 rfl rfl (fun x2 => ?_)
        refine j_iconst (pc := 21) (v := 2) dX2_is_21 (by decide) ?_
        refine j_icmp_ne (pc := 22) (tgt := 29) dX2_is_22 (by decide) rfl (fun hc => ?_) (fun hc => ?_)
        · refine j_iconst (pc := 29) (v := 0) dX2_is_29 (by decide) ?_
          exact j_zreturn dX2_is_30 hX rfl rfl
        · refine j_iconst (pc := 25) (v := 1) dX2_is_25 (by decide) ?_
          refine j_goto (pc := 26) (tgt := 30) dX2_is_26 (by decide) ?_
          exact j_zreturn dX2_is_30 hX rfl rfl
/-! X3_hear -/
noncomputable def f_X3_hear (z : Nat) (t : Option Nm) (a0 : Int32) (a1 : Int32) (g : Hp) : Option (Unit × Hp) :=
  (getR t 4 2 g).bind fun x1 =>
  (astI x1 a0 a1 g).bind fun g2 =>
  (getI t 4 3 g2).bind fun x3 =>
  (putI t 4 3 (x3 + 1) g2).bind fun g4 =>
  some ((), g4)
set_option maxRecDepth 20000 in
theorem m_X3_hear (z : Nat) (t : Option Nm) (a0 : Int32) (a1 : Int32) (g : Hp) : FM yX3_hear cX3_hear 3 none 0 0 rtV [sR t, sI a0, sI a1] g (f_X3_hear z t a0 a1 g) := by
  refine FM.entry (by decide +kernel) (Nat.le_of_ble_eq_true rfl) (fun X hX => ?_)
  unfold f_X3_hear
  show J yX3_hear cX3_hear 3 none 0 0 X g 0 [(0, sR t), (1, sI a0), (2, sI a1)] [] _
  refine j_aload_n (pc := 0) 0 dX3_hear_0 rfl rfl ?_
  refine j_getR (pc := 1) (own := RX3) dX3_hear_1 lf_X3_9 rfl rfl (fun x1 => ?_)
  refine j_iload_n (pc := 4) 1 dX3_hear_4 rfl rfl ?_
  refine j_iload_n (pc := 5) 2 dX3_hear_5 rfl rfl ?_
  refine j_astI (pc := 6) dX3_hear_6 rfl (fun g2 => ?_)
  refine j_aload_n (pc := 7) 0 dX3_hear_7 rfl rfl ?_
  refine j_dup (pc := 8) dX3_hear_8 rfl ?_
  refine j_getI (pc := 9) (own := RX3) dX3_hear_9 lf_X3_32 rfl rfl (fun x3 => ?_)
  refine j_iconst (pc := 12) (v := 1) dX3_hear_12 (by decide) ?_
  refine j_iadd (pc := 13) dX3_hear_13 ?_
  refine j_putI (pc := 14) (own := RX3) dX3_hear_14 lf_X3_32 lt_4_3 lw_X3_32_X3_hear rfl rfl (fun g4 => ?_)
  exact j_return dX3_hear_17 hX rfl rfl
/-! X3_init -/
noncomputable def f_X3_init_41_b (z : Nat) (p0 : Option Nm) (p1 : Int32) (p2 : Int32) (p3 : Int32) (rec : Int32 → Hp → Option (Int32 × Hp)) (v4 : Int32) (g : Hp) : Option (Int32 × Hp) :=
  (getR p0 4 2 g).bind fun x9 =>
  (alen x9 g).bind fun x10 =>
  if x10 ≤ v4 then (some (v4, g))
  else ((getR p0 4 2 g).bind fun x11 =>
    (astI x11 v4 (-1) g).bind fun g12 =>
    rec (v4 + 1) g12)
noncomputable def f_X3_init_41_L (z : Nat) (p0 : Option Nm) (p1 : Int32) (p2 : Int32) (p3 : Int32) : Nat → Int32 → Hp → Option (Int32 × Hp)
  | 0, _, _ => none
  | n + 1, v4, g => f_X3_init_41_b z p0 p1 p2 p3 (f_X3_init_41_L z p0 p1 p2 p3 n) v4 g
noncomputable def f_X3_init (z : Nat) (t : Option Nm) (a0 : Int32) (a1 : Int32) (a2 : Int32) (g : Hp) : Option (Unit × Hp) :=
  (nnu t).bind fun _ =>
  (mkI (26, nix t) 10 g).bind fun q1 =>
  (putR t 4 2 q1.1 q1.2).bind fun g2 =>
  (mkI (27, nix t) 6 g2).bind fun q3 =>
  (putR t 4 4 q3.1 q3.2).bind fun g4 =>
  (mkI (28, nix t) 6 g4).bind fun q5 =>
  (putR t 4 5 q5.1 q5.2).bind fun g6 =>
  (putI t 4 0 a0 g6).bind fun g7 =>
  (putI t 4 1 a2 g7).bind fun g8 =>
  (f_X3_init_41_L z t a0 a1 a2 z 0 g8).bind fun q13 =>
  (ick t 4 (f_X3_hear z t a0 a1 q13.2)).bind fun q14 =>
  some ((), q14.2)
set_option maxRecDepth 20000 in
theorem b_X3_init_41 {X : Xt Unit} (hX : IsM rtV X) (z : Nat) (p0 : Option Nm) (p1 : Int32) (p2 : Int32) (p3 : Int32) (rec : Int32 → Hp → Option (Int32 × Hp)) (K : Int32 × Hp → Option (Unit × Hp)) (he : ∀ (v4 : Int32) (g : Hp), J yX3_init cX3_init 5 none 1 22 X g 65 [(4, sI v4), (0, sR p0), (1, sI p1), (2, sI p2), (3, sI p3)] [] (K (v4, g))) (hr : ∀ (v4 : Int32) (g : Hp), J yX3_init cX3_init 5 none 1 22 X g 41 [(4, sI v4), (0, sR p0), (1, sI p1), (2, sI p2), (3, sI p3)] [] ((rec v4 g).bind K)) (v4 : Int32) (g : Hp) : J yX3_init cX3_init 5 none 1 22 X g 41 [(4, sI v4), (0, sR p0), (1, sI p1), (2, sI p2), (3, sI p3)] [] ((f_X3_init_41_b z p0 p1 p2 p3 rec v4 g).bind K) := by
  unfold f_X3_init_41_b
  refine j_iload (pc := 41) 0 dX3_init_41 rfl ?_
  refine j_aload_n (pc := 43) 1 dX3_init_43 rfl rfl ?_
  refine j_getR (pc := 44) (own := RX3) dX3_init_44 lf_X3_9 rfl bb (fun x9 => ?_)
  refine j_alen (pc := 47) dX3_init_47 bb (fun x10 => ?_)
  refine j_icmp_ge (pc := 48) (tgt := 65) dX3_init_48 (by decide) bi (fun hc => ?_) (fun hc => ?_)
  · exact he v4 g
  · refine j_aload_n (pc := 51) 1 dX3_init_51 rfl rfl ?_
    refine j_getR (pc := 52) (own := RX3) dX3_init_52 lf_X3_9 rfl bb (fun x11 => ?_)
    refine j_iload (pc := 55) 0 dX3_init_55 rfl ?_
    refine j_iconst (pc := 57) (v := (-1)) dX3_init_57 (by decide) ?_
    refine j_astI (pc := 58) dX3_init_58 bb (fun g12 => ?_)
    refine j_iinc (pc := 59) (v := (v4 + 1)) (lv' := [(4, sI (v4 + 1)), (0, sR p0), (1, sI p1), (2, sI p2), (3, sI p3)]) 0 dX3_init_59 rfl rfl (by decide) rfl ?_
    refine j_goto (pc := 62) (tgt := 41) dX3_init_62 (by decide) ?_
    exact hr (v4 + 1) g12
set_option maxRecDepth 20000 in
theorem l_X3_init_41 {X : Xt Unit} (hX : IsM rtV X) (z : Nat) (p0 : Option Nm) (p1 : Int32) (p2 : Int32) (p3 : Int32) (K : Int32 × Hp → Option (Unit × Hp)) (he : ∀ (v4 : Int32) (g : Hp), J yX3_init cX3_init 5 none 1 22 X g 65 [(4, sI v4), (0, sR p0), (1, sI p1), (2, sI p2), (3, sI p3)] [] (K (v4, g))) : ∀ (n : Nat) (v4 : Int32) (g : Hp), J yX3_init cX3_init 5 none 1 22 X g 41 [(4, sI v4), (0, sR p0), (1, sI p1), (2, sI p2), (3, sI p3)] [] ((f_X3_init_41_L z p0 p1 p2 p3 n v4 g).bind K)
  | 0, _, _ => J.eq rfl J.none
  | n + 1, v4, g => b_X3_init_41 hX z p0 p1 p2 p3 _ K he (fun v4 g => l_X3_init_41 hX z p0 p1 p2 p3 K he n v4 g) v4 g
set_option maxRecDepth 20000 in
theorem m_X3_init (z : Nat) (t : Option Nm) (a0 : Int32) (a1 : Int32) (a2 : Int32) (g : Hp) : FM yX3_init cX3_init 5 none 1 22 rtV [sR t, sI a0, sI a1, sI a2] g (f_X3_init z t a0 a1 a2 g) := by
  refine FM.entry (by decide +kernel) (Nat.le_of_ble_eq_true rfl) (fun X hX => ?_)
  unfold f_X3_init
  show J yX3_init cX3_init 5 none 1 22 X g 0 [(0, sR t), (1, sI a0), (2, sI a1), (3, sI a2)] [] _
  refine j_aload_n (pc := 0) 0 dX3_init_0 rfl rfl ?_
  refine b_oinit (pc := 1) (own := RX3) dX3_init_1 lo_X3_3 rfl ⟨Nat.le_of_ble_eq_true rfl, Nat.le_of_ble_eq_true rfl⟩ rfl ?_
  refine j_aload_n (pc := 4) 0 dX3_init_4 rfl rfl ?_
  refine j_bipush (pc := 5) (v := 10) dX3_init_5 (by decide) ?_
  refine j_mkI (pc := 7) dX3_init_7 lA_int rfl (fun q1r q1g => ?_)
  refine j_putR (pc := 9) (own := RX3) dX3_init_9 lf_X3_9 lt_4_2 rfl lw_X3_9_X3_init rfl rfl (fun g2 => ?_)
  refine j_aload_n (pc := 12) 0 dX3_init_12 rfl rfl ?_
  refine j_bipush (pc := 13) (v := 6) dX3_init_13 (by decide) ?_
  refine j_mkI (pc := 15) dX3_init_15 lA_int rfl (fun q3r q3g => ?_)
  refine j_putR (pc := 17) (own := RX3) dX3_init_17 lf_X3_15 lt_4_4 rfl lw_X3_15_X3_init rfl rfl (fun g4 => ?_)
  refine j_aload_n (pc := 20) 0 dX3_init_20 rfl rfl ?_
  refine j_bipush (pc := 21) (v := 6) dX3_init_21 (by decide) ?_
  refine j_mkI (pc := 23) dX3_init_23 lA_int rfl (fun q5r q5g => ?_)
  refine j_putR (pc := 25) (own := RX3) dX3_init_25 lf_X3_18 lt_4_5 rfl lw_X3_18_X3_init rfl rfl (fun g6 => ?_)
  refine j_aload_n (pc := 28) 0 dX3_init_28 rfl rfl ?_
  refine j_iload_n (pc := 29) 1 dX3_init_29 rfl rfl ?_
  refine j_putI (pc := 30) (own := RX3) dX3_init_30 lf_X3_21 lt_4_0 lw_X3_21_X3_init rfl rfl (fun g7 => ?_)
  refine j_aload_n (pc := 33) 0 dX3_init_33 rfl rfl ?_
  refine j_iload_n (pc := 34) 3 dX3_init_34 rfl rfl ?_
  refine j_putI (pc := 35) (own := RX3) dX3_init_35 lf_X3_25 lt_4_1 lw_X3_25_X3_init rfl rfl (fun g8 => ?_)
  refine j_iconst (pc := 38) (v := 0) dX3_init_38 (by decide) ?_
  refine j_istore (pc := 39) (lv' := [(4, sI 0), (0, sR t), (1, sI a0), (2, sI a1), (3, sI a2)]) dX3_init_39 (by decide) rfl ?_
  refine l_X3_init_41 hX z t a0 a1 a2 _ (fun q13_0 q13_g => ?_) z 0 g8
  refine j_aload_n (pc := 65) 1 dX3_init_65 rfl rfl ?_
  refine j_iload_n (pc := 66) 2 dX3_init_66 rfl rfl ?_
  refine j_iload_n (pc := 67) 3 dX3_init_67 rfl rfl ?_
  refine j_callV (pc := 68) (own := RX3) [sI a0, sI a1] [] dX3_init_68 lc_X3_28 lv_X3_hear rfl (m_X3_hear z t a0 a1 q13_g) ⟨⟨Nat.le_of_ble_eq_true rfl, Nat.le_of_ble_eq_true rfl⟩, Nat.le_of_ble_eq_true rfl⟩ rfl rfl (fun q14r q14g => ?_)
  exact j_return dX3_init_71 hX rfl rfl
/-! X3_hears -/
noncomputable def f_X3_hears (z : Nat) (t : Option Nm) (a0 : Int32) (g : Hp) : Option (Int32 × Hp) :=
  (getR t 4 2 g).bind fun x1 =>
  (aldI x1 a0 g).bind fun x2 =>
  if x2 = (-1) then (rtZ 0 g)
  else (rtZ 1 g)
set_option maxRecDepth 20000 in
theorem m_X3_hears (z : Nat) (t : Option Nm) (a0 : Int32) (g : Hp) : FM yX3_hears cX3_hears 2 (some .boolean) 0 0 rtI [sR t, sI a0] g (f_X3_hears z t a0 g) := by
  refine FM.entry (by decide +kernel) (Nat.le_of_ble_eq_true rfl) (fun X hX => ?_)
  unfold f_X3_hears
  show J yX3_hears cX3_hears 2 (some .boolean) 0 0 X g 0 [(0, sR t), (1, sI a0)] [] _
  refine j_aload_n (pc := 0) 0 dX3_hears_0 rfl rfl ?_
  refine j_getR (pc := 1) (own := RX3) dX3_hears_1 lf_X3_9 rfl rfl (fun x1 => ?_)
  refine j_iload_n (pc := 4) 1 dX3_hears_4 rfl rfl ?_
  refine j_aldI (pc := 5) dX3_hears_5 rfl (fun x2 => ?_)
  refine j_iconst (pc := 6) (v := (-1)) dX3_hears_6 (by decide) ?_
  refine j_icmp_eq (pc := 7) (tgt := 14) dX3_hears_7 (by decide) rfl (fun hc => ?_) (fun hc => ?_)
  · refine j_iconst (pc := 14) (v := 0) dX3_hears_14 (by decide) ?_
    exact j_zreturn dX3_hears_15 hX rfl rfl
  · refine j_iconst (pc := 10) (v := 1) dX3_hears_10 (by decide) ?_
    refine j_goto (pc := 11) (tgt := 15) dX3_hears_11 (by decide) ?_
    exact j_zreturn dX3_hears_15 hX rfl rfl
/-! X3_wasTold -/
noncomputable def f_X3_wasTold (z : Nat) (t : Option Nm) (a0 : Int32) (a1 : Int32) (g : Hp) : Option (Int32 × Hp) :=
  (getR t 4 4 g).bind fun x1 =>
  (aldI x1 a0 g).bind fun x2 =>
  if ((x2 >>> (a1 &&& 31)) &&& 1) = 1 then (rtZ 1 g)
  else (rtZ 0 g)
set_option maxRecDepth 20000 in
theorem m_X3_wasTold (z : Nat) (t : Option Nm) (a0 : Int32) (a1 : Int32) (g : Hp) : FM yX3_wasTold cX3_wasTold 3 (some .boolean) 0 0 rtI [sR t, sI a0, sI a1] g (f_X3_wasTold z t a0 a1 g) := by
  refine FM.entry (by decide +kernel) (Nat.le_of_ble_eq_true rfl) (fun X hX => ?_)
  unfold f_X3_wasTold
  show J yX3_wasTold cX3_wasTold 3 (some .boolean) 0 0 X g 0 [(0, sR t), (1, sI a0), (2, sI a1)] [] _
  refine j_aload_n (pc := 0) 0 dX3_wasTold_0 rfl rfl ?_
  refine j_getR (pc := 1) (own := RX3) dX3_wasTold_1 lf_X3_15 rfl rfl (fun x1 => ?_)
  refine j_iload_n (pc := 4) 1 dX3_wasTold_4 rfl rfl ?_
  refine j_aldI (pc := 5) dX3_wasTold_5 rfl (fun x2 => ?_)
  refine j_iload_n (pc := 6) 2 dX3_wasTold_6 rfl rfl ?_
  refine j_ishr (pc := 7) dX3_wasTold_7 ?_
  refine j_iconst (pc := 8) (v := 1) dX3_wasTold_8 (by decide) ?_
  refine j_iand (pc := 9) dX3_wasTold_9 ?_
  refine j_iconst (pc := 10) (v := 1) dX3_wasTold_10 (by decide) ?_
  refine j_icmp_ne (pc := 11) (tgt := 18) dX3_wasTold_11 (by decide) rfl (fun hc => ?_) (fun hc => ?_)
  · refine j_iconst (pc := 18) (v := 0) dX3_wasTold_18 (by decide) ?_
    exact j_zreturn dX3_wasTold_19 hX rfl rfl
  · refine j_iconst (pc := 14) (v := 1) dX3_wasTold_14 (by decide) ?_
    refine j_goto (pc := 15) (tgt := 19) dX3_wasTold_15 (by decide) ?_
    exact j_zreturn dX3_wasTold_19 hX rfl rfl
/-! X3_wasTakenBack -/
noncomputable def f_X3_wasTakenBack (z : Nat) (t : Option Nm) (a0 : Int32) (a1 : Int32) (g : Hp) : Option (Int32 × Hp) :=
  (getR t 4 5 g).bind fun x1 =>
  (aldI x1 a0 g).bind fun x2 =>
  if ((x2 >>> (a1 &&& 31)) &&& 1) = 1 then (rtZ 1 g)
  else (rtZ 0 g)
set_option maxRecDepth 20000 in
theorem m_X3_wasTakenBack (z : Nat) (t : Option Nm) (a0 : Int32) (a1 : Int32) (g : Hp) : FM yX3_wasTakenBack cX3_wasTakenBack 3 (some .boolean) 0 0 rtI [sR t, sI a0, sI a1] g (f_X3_wasTakenBack z t a0 a1 g) := by
  refine FM.entry (by decide +kernel) (Nat.le_of_ble_eq_true rfl) (fun X hX => ?_)
  unfold f_X3_wasTakenBack
  show J yX3_wasTakenBack cX3_wasTakenBack 3 (some .boolean) 0 0 X g 0 [(0, sR t), (1, sI a0), (2, sI a1)] [] _
  refine j_aload_n (pc := 0) 0 dX3_wasTakenBack_0 rfl rfl ?_
  refine j_getR (pc := 1) (own := RX3) dX3_wasTakenBack_1 lf_X3_18 rfl rfl (fun x1 => ?_)
  refine j_iload_n (pc := 4) 1 dX3_wasTakenBack_4 rfl rfl ?_
  refine j_aldI (pc := 5) dX3_wasTakenBack_5 rfl (fun x2 => ?_)
  refine j_iload_n (pc := 6) 2 dX3_wasTakenBack_6 rfl rfl ?_
  refine j_ishr (pc := 7) dX3_wasTakenBack_7 ?_
  refine j_iconst (pc := 8) (v := 1) dX3_wasTakenBack_8 (by decide) ?_
  refine j_iand (pc := 9) dX3_wasTakenBack_9 ?_
  refine j_iconst (pc := 10) (v := 1) dX3_wasTakenBack_10 (by decide) ?_
  refine j_icmp_ne (pc := 11) (tgt := 18) dX3_wasTakenBack_11 (by decide) rfl (fun hc => ?_) (fun hc => ?_)
  · refine j_iconst (pc := 18) (v := 0) dX3_wasTakenBack_18 (by decide) ?_
    exact j_zreturn dX3_wasTakenBack_19 hX rfl rfl
  · refine j_iconst (pc := 14) (v := 1) dX3_wasTakenBack_14 (by decide) ?_
    refine j_goto (pc := 15) (tgt := 19) dX3_wasTakenBack_15 (by decide) ?_
    exact j_zreturn dX3_wasTakenBack_19 hX rfl rfl
/-! X3_tell -/
noncomputable def f_X3_tell (z : Nat) (t : Option Nm) (a0 : Int32) (a1 : Int32) (g : Hp) : Option (Unit × Hp) :=
  (getR t 4 4 g).bind fun x1 =>
  (aldI x1 a0 g).bind fun x2 =>
  (astI x1 a0 (x2 ||| (1 <<< (a1 &&& 31))) g).bind fun g3 =>
  some ((), g3)
set_option maxRecDepth 20000 in
theorem m_X3_tell (z : Nat) (t : Option Nm) (a0 : Int32) (a1 : Int32) (g : Hp) : FM yX3_tell cX3_tell 3 none 0 0 rtV [sR t, sI a0, sI a1] g (f_X3_tell z t a0 a1 g) := by
  refine FM.entry (by decide +kernel) (Nat.le_of_ble_eq_true rfl) (fun X hX => ?_)
  unfold f_X3_tell
  show J yX3_tell cX3_tell 3 none 0 0 X g 0 [(0, sR t), (1, sI a0), (2, sI a1)] [] _
  refine j_aload_n (pc := 0) 0 dX3_tell_0 rfl rfl ?_
  refine j_getR (pc := 1) (own := RX3) dX3_tell_1 lf_X3_15 rfl rfl (fun x1 => ?_)
  refine j_iload_n (pc := 4) 1 dX3_tell_4 rfl rfl ?_
  refine j_dup2 (pc := 5) dX3_tell_5 rfl rfl ?_
  refine j_aldI (pc := 6) dX3_tell_6 rfl (fun x2 => ?_)
  refine j_iconst (pc := 7) (v := 1) dX3_tell_7 (by decide) ?_
  refine j_iload_n (pc := 8) 2 dX3_tell_8 rfl rfl ?_
  refine j_ishl (pc := 9) dX3_tell_9 ?_
  refine j_ior (pc := 10) dX3_tell_10 ?_
  refine j_astI (pc := 11) dX3_tell_11 rfl (fun g3 => ?_)
  exact j_return dX3_tell_12 hX rfl rfl
/-! X3_takeBack -/
noncomputable def f_X3_takeBack (z : Nat) (t : Option Nm) (a0 : Int32) (a1 : Int32) (g : Hp) : Option (Unit × Hp) :=
  (getR t 4 5 g).bind fun x1 =>
  (aldI x1 a0 g).bind fun x2 =>
  (astI x1 a0 (x2 ||| (1 <<< (a1 &&& 31))) g).bind fun g3 =>
  some ((), g3)
set_option maxRecDepth 20000 in
theorem m_X3_takeBack (z : Nat) (t : Option Nm) (a0 : Int32) (a1 : Int32) (g : Hp) : FM yX3_takeBack cX3_takeBack 3 none 0 0 rtV [sR t, sI a0, sI a1] g (f_X3_takeBack z t a0 a1 g) := by
  refine FM.entry (by decide +kernel) (Nat.le_of_ble_eq_true rfl) (fun X hX => ?_)
  unfold f_X3_takeBack
  show J yX3_takeBack cX3_takeBack 3 none 0 0 X g 0 [(0, sR t), (1, sI a0), (2, sI a1)] [] _
  refine j_aload_n (pc := 0) 0 dX3_takeBack_0 rfl rfl ?_
  refine j_getR (pc := 1) (own := RX3) dX3_takeBack_1 lf_X3_18 rfl rfl (fun x1 => ?_)
  refine j_iload_n (pc := 4) 1 dX3_takeBack_4 rfl rfl ?_
  refine j_dup2 (pc := 5) dX3_takeBack_5 rfl rfl ?_
  refine j_aldI (pc := 6) dX3_takeBack_6 rfl (fun x2 => ?_)
  refine j_iconst (pc := 7) (v := 1) dX3_takeBack_7 (by decide) ?_
  refine j_iload_n (pc := 8) 2 dX3_takeBack_8 rfl rfl ?_
  refine j_ishl (pc := 9) dX3_takeBack_9 ?_
  refine j_ior (pc := 10) dX3_takeBack_10 ?_
  refine j_astI (pc := 11) dX3_takeBack_11 rfl (fun g3 => ?_)
  exact j_return dX3_takeBack_12 hX rfl rfl
/-! X1_init -/
noncomputable def f_X1_init (z : Nat) (t : Option Nm) (a0 : Int32) (a1 : Int32) (a2 : Int32) (a3 : Int32) (g : Hp) : Option (Unit × Hp) :=
  (nnu t).bind fun _ =>
  (putI t 2 0 a0 g).bind fun g1 =>
  (putI t 2 1 a1 g1).bind fun g2 =>
  (putI t 2 2 a2 g2).bind fun g3 =>
  (putI t 2 3 a3 g3).bind fun g4 =>
  some ((), g4)
set_option maxRecDepth 20000 in
theorem m_X1_init (z : Nat) (t : Option Nm) (a0 : Int32) (a1 : Int32) (a2 : Int32) (a3 : Int32) (g : Hp) : FM yX1_init cX1_init 5 none 1 12 rtV [sR t, sI a0, sI a1, sI a2, sI a3] g (f_X1_init z t a0 a1 a2 a3 g) := by
  refine FM.entry (by decide +kernel) (Nat.le_of_ble_eq_true rfl) (fun X hX => ?_)
  unfold f_X1_init
  show J yX1_init cX1_init 5 none 1 12 X g 0 [(0, sR t), (1, sI a0), (2, sI a1), (3, sI a2), (4, sI a3)] [] _
  refine j_aload_n (pc := 0) 0 dX1_init_0 rfl rfl ?_
  refine b_oinit (pc := 1) (own := RX1) dX1_init_1 lo_X1_1 rfl ⟨Nat.le_of_ble_eq_true rfl, Nat.le_of_ble_eq_true rfl⟩ rfl ?_
  refine j_aload_n (pc := 4) 0 dX1_init_4 rfl rfl ?_
  refine j_iload_n (pc := 5) 1 dX1_init_5 rfl rfl ?_
  refine j_putI (pc := 6) (own := RX1) dX1_init_6 lf_X1_7 lt_2_0 lw_X1_7_X1_init rfl rfl (fun g1 => ?_)
  refine j_aload_n (pc := 9) 0 dX1_init_9 rfl rfl ?_
  refine j_iload_n (pc := 10) 2 dX1_init_10 rfl rfl ?_
  refine j_putI (pc := 11) (own := RX1) dX1_init_11 lf_X1_13 lt_2_1 lw_X1_13_X1_init rfl rfl (fun g2 => ?_)
  refine j_aload_n (pc := 14) 0 dX1_init_14 rfl rfl ?_
  refine j_iload_n (pc := 15) 3 dX1_init_15 rfl rfl ?_
  refine j_putI (pc := 16) (own := RX1) dX1_init_16 lf_X1_16 lt_2_2 lw_X1_16_X1_init rfl rfl (fun g3 => ?_)
  refine j_aload_n (pc := 19) 0 dX1_init_19 rfl rfl ?_
  refine j_iload (pc := 20) 4 dX1_init_20 rfl ?_
  refine j_putI (pc := 22) (own := RX1) dX1_init_22 lf_X1_19 lt_2_3 lw_X1_19_X1_init rfl rfl (fun g4 => ?_)
  exact j_return dX1_init_25 hX rfl rfl
/-! X0_init -/
noncomputable def f_X0_init (z : Nat) (t : Option Nm) (g : Hp) : Option (Unit × Hp) :=
  (nnu t).bind fun _ =>
  (mkI (21, nix t) 144 g).bind fun q1 =>
  (putR t 1 0 q1.1 q1.2).bind fun g2 =>
  (mkI (22, nix t) 144 g2).bind fun q3 =>
  (putR t 1 1 q3.1 q3.2).bind fun g4 =>
  (putI t 1 5 (-9) g4).bind fun g5 =>
  some ((), g5)
set_option maxRecDepth 20000 in
theorem m_X0_init (z : Nat) (t : Option Nm) (g : Hp) : FM yX0_init cX0_init 1 none 1 12 rtV [sR t] g (f_X0_init z t g) := by
  refine FM.entry (by decide +kernel) (Nat.le_of_ble_eq_true rfl) (fun X hX => ?_)
  unfold f_X0_init
  show J yX0_init cX0_init 1 none 1 12 X g 0 [(0, sR t)] [] _
  refine j_aload_n (pc := 0) 0 dX0_init_0 rfl rfl ?_
  refine b_oinit (pc := 1) (own := RX0) dX0_init_1 lo_X0_3 rfl ⟨Nat.le_of_ble_eq_true rfl, Nat.le_of_ble_eq_true rfl⟩ rfl ?_
  refine j_aload_n (pc := 4) 0 dX0_init_4 rfl rfl ?_
  refine j_sipush (pc := 5) (v := 144) dX0_init_5 (by decide) ?_
  refine j_mkI (pc := 8) dX0_init_8 lA_int rfl (fun q1r q1g => ?_)
  refine j_putR (pc := 10) (own := RX0) dX0_init_10 lf_X0_9 lt_1_0 rfl lw_X0_9_X0_init rfl rfl (fun g2 => ?_)
  refine j_aload_n (pc := 13) 0 dX0_init_13 rfl rfl ?_
  refine j_sipush (pc := 14) (v := 144) dX0_init_14 (by decide) ?_
  refine j_mkI (pc := 17) dX0_init_17 lA_int rfl (fun q3r q3g => ?_)
  refine j_putR (pc := 19) (own := RX0) dX0_init_19 lf_X0_15 lt_1_1 rfl lw_X0_15_X0_init rfl rfl (fun g4 => ?_)
  refine j_aload_n (pc := 22) 0 dX0_init_22 rfl rfl ?_
  refine j_bipush (pc := 23) (v := (-9)) dX0_init_23 (by decide) ?_
  refine j_putI (pc := 25) (own := RX0) dX0_init_25 lf_X0_18 lt_1_5 lw_X0_18_X0_init rfl rfl (fun g5 => ?_)
  exact j_return dX0_init_28 hX rfl rfl
/-! X0_forget -/
noncomputable def f_X0_forget (z : Nat) (t : Option Nm) (g : Hp) : Option (Unit × Hp) :=
  (putI t 1 5 (-9) g).bind fun g1 =>
  some ((), g1)
set_option maxRecDepth 20000 in
theorem m_X0_forget (z : Nat) (t : Option Nm) (g : Hp) : FM yX0_forget cX0_forget 1 none 0 0 rtV [sR t] g (f_X0_forget z t g) := by
  refine FM.entry (by decide +kernel) (Nat.le_of_ble_eq_true rfl) (fun X hX => ?_)
  unfold f_X0_forget
  show J yX0_forget cX0_forget 1 none 0 0 X g 0 [(0, sR t)] [] _
  refine j_aload_n (pc := 0) 0 dX0_forget_0 rfl rfl ?_
  refine j_bipush (pc := 1) (v := (-9)) dX0_forget_1 (by decide) ?_
  refine j_putI (pc := 3) (own := RX0) dX0_forget_3 lf_X0_18 lt_1_5 lw_X0_18_X0_forget rfl rfl (fun g1 => ?_)
  exact j_return dX0_forget_6 hX rfl rfl
/-! X0_clear -/
noncomputable def f_X0_clear_8_b (z : Nat) (p0 : Option Nm) (rec : Int32 → Hp → Option (Int32 × Hp)) (v1 : Int32) (g : Hp) : Option (Int32 × Hp) :=
  if 144 ≤ v1 then (some (v1, g))
  else ((getR p0 1 0 g).bind fun x2 =>
    (astI x2 v1 (-1000000) g).bind fun g3 =>
    (getR p0 1 1 g3).bind fun x4 =>
    (astI x4 v1 1000000 g3).bind fun g5 =>
    rec (v1 + 1) g5)
noncomputable def f_X0_clear_8_L (z : Nat) (p0 : Option Nm) : Nat → Int32 → Hp → Option (Int32 × Hp)
  | 0, _, _ => none
  | n + 1, v1, g => f_X0_clear_8_b z p0 (f_X0_clear_8_L z p0 n) v1 g
noncomputable def f_X0_clear (z : Nat) (t : Option Nm) (g : Hp) : Option (Unit × Hp) :=
  (putI t 1 5 (-9) g).bind fun g1 =>
  (f_X0_clear_8_L z t z 0 g1).bind fun q6 =>
  some ((), q6.2)
set_option maxRecDepth 20000 in
theorem b_X0_clear_8 {X : Xt Unit} (hX : IsM rtV X) (z : Nat) (p0 : Option Nm) (rec : Int32 → Hp → Option (Int32 × Hp)) (K : Int32 × Hp → Option (Unit × Hp)) (he : ∀ (v1 : Int32) (g : Hp), J yX0_clear cX0_clear 2 none 0 0 X g 37 [(1, sI v1), (0, sR p0)] [] (K (v1, g))) (hr : ∀ (v1 : Int32) (g : Hp), J yX0_clear cX0_clear 2 none 0 0 X g 8 [(1, sI v1), (0, sR p0)] [] ((rec v1 g).bind K)) (v1 : Int32) (g : Hp) : J yX0_clear cX0_clear 2 none 0 0 X g 8 [(1, sI v1), (0, sR p0)] [] ((f_X0_clear_8_b z p0 rec v1 g).bind K) := by
  unfold f_X0_clear_8_b
  refine j_iload_n (pc := 8) 0 dX0_clear_8 rfl rfl ?_
  refine j_sipush (pc := 9) (v := 144) dX0_clear_9 (by decide) ?_
  refine j_icmp_ge (pc := 12) (tgt := 37) dX0_clear_12 (by decide) bi (fun hc => ?_) (fun hc => ?_)
  · exact he v1 g
  · refine j_aload_n (pc := 15) 1 dX0_clear_15 rfl rfl ?_
    refine j_getR (pc := 16) (own := RX0) dX0_clear_16 lf_X0_9 rfl bb (fun x2 => ?_)
    refine j_iload_n (pc := 19) 0 dX0_clear_19 rfl rfl ?_
    refine j_ldc (pc := 20) (own := RX0) (v := (-1000000)) dX0_clear_20 rfl lk_X0_22 ?_
    refine j_astI (pc := 22) dX0_clear_22 bb (fun g3 => ?_)
    refine j_aload_n (pc := 23) 1 dX0_clear_23 rfl rfl ?_
    refine j_getR (pc := 24) (own := RX0) dX0_clear_24 lf_X0_15 rfl bb (fun x4 => ?_)
    refine j_iload_n (pc := 27) 0 dX0_clear_27 rfl rfl ?_
    refine j_ldc (pc := 28) (own := RX0) (v := 1000000) dX0_clear_28 rfl lk_X0_23 ?_
    refine j_astI (pc := 30) dX0_clear_30 bb (fun g5 => ?_)
    refine j_iinc (pc := 31) (v := (v1 + 1)) (lv' := [(1, sI (v1 + 1)), (0, sR p0)]) 0 dX0_clear_31 rfl rfl (by decide) rfl ?_
    refine j_goto (pc := 34) (tgt := 8) dX0_clear_34 (by decide) ?_
    exact hr (v1 + 1) g5
set_option maxRecDepth 20000 in
theorem l_X0_clear_8 {X : Xt Unit} (hX : IsM rtV X) (z : Nat) (p0 : Option Nm) (K : Int32 × Hp → Option (Unit × Hp)) (he : ∀ (v1 : Int32) (g : Hp), J yX0_clear cX0_clear 2 none 0 0 X g 37 [(1, sI v1), (0, sR p0)] [] (K (v1, g))) : ∀ (n : Nat) (v1 : Int32) (g : Hp), J yX0_clear cX0_clear 2 none 0 0 X g 8 [(1, sI v1), (0, sR p0)] [] ((f_X0_clear_8_L z p0 n v1 g).bind K)
  | 0, _, _ => J.eq rfl J.none
  | n + 1, v1, g => b_X0_clear_8 hX z p0 _ K he (fun v1 g => l_X0_clear_8 hX z p0 K he n v1 g) v1 g
set_option maxRecDepth 20000 in
theorem m_X0_clear (z : Nat) (t : Option Nm) (g : Hp) : FM yX0_clear cX0_clear 2 none 0 0 rtV [sR t] g (f_X0_clear z t g) := by
  refine FM.entry (by decide +kernel) (Nat.le_of_ble_eq_true rfl) (fun X hX => ?_)
  unfold f_X0_clear
  show J yX0_clear cX0_clear 2 none 0 0 X g 0 [(0, sR t)] [] _
  refine j_aload_n (pc := 0) 0 dX0_clear_0 rfl rfl ?_
  refine j_bipush (pc := 1) (v := (-9)) dX0_clear_1 (by decide) ?_
  refine j_putI (pc := 3) (own := RX0) dX0_clear_3 lf_X0_18 lt_1_5 lw_X0_18_X0_clear rfl rfl (fun g1 => ?_)
  refine j_iconst (pc := 6) (v := 0) dX0_clear_6 (by decide) ?_
  refine j_istore_n (pc := 7) (lv' := [(1, sI 0), (0, sR t)]) dX0_clear_7 rfl (by decide) rfl ?_
  refine l_X0_clear_8 hX z t _ (fun q6_0 q6_g => ?_) z 0 g1
  exact j_return dX0_clear_37 hX rfl rfl
/-! X0_narrow -/
noncomputable def f_X0_narrow_3_b (z : Nat) (p0 : Option Nm) (p1 : Option Nm) (p2 : Int32) (p3 : Int32) (p4 : Int32) (rec : Int32 → Hp → Option (Int32 × Hp)) (v5 : Int32) (g : Hp) : Option (Int32 × Hp) :=
  if 144 ≤ v5 then (some (v5, g))
  else ((ick p1 8 (f_X7_between z p1 v5 p2 g)).bind fun q1 =>
    (getR p0 1 0 q1.2).bind fun x2 =>
    (getR p0 1 0 q1.2).bind fun x3 =>
    (aldI x3 v5 q1.2).bind fun x4 =>
    (astI x2 v5 (imax x4 (p3 - q1.1)) q1.2).bind fun g5 =>
    (getR p0 1 1 g5).bind fun x6 =>
    (getR p0 1 1 g5).bind fun x7 =>
    (aldI x7 v5 g5).bind fun x8 =>
    (astI x6 v5 (imin x8 (p4 - q1.1)) g5).bind fun g9 =>
    rec (v5 + 1) g9)
noncomputable def f_X0_narrow_3_L (z : Nat) (p0 : Option Nm) (p1 : Option Nm) (p2 : Int32) (p3 : Int32) (p4 : Int32) : Nat → Int32 → Hp → Option (Int32 × Hp)
  | 0, _, _ => none
  | n + 1, v5, g => f_X0_narrow_3_b z p0 p1 p2 p3 p4 (f_X0_narrow_3_L z p0 p1 p2 p3 p4 n) v5 g
noncomputable def f_X0_narrow (z : Nat) (t : Option Nm) (a0 : Option Nm) (a1 : Int32) (a2 : Int32) (a3 : Int32) (g : Hp) : Option (Unit × Hp) :=
  (f_X0_narrow_3_L z t a0 a1 a2 a3 z 0 g).bind fun q10 =>
  some ((), q10.2)
set_option maxRecDepth 20000 in
theorem b_X0_narrow_3 {X : Xt Unit} (hX : IsM rtV X) (z : Nat) (p0 : Option Nm) (p1 : Option Nm) (p2 : Int32) (p3 : Int32) (p4 : Int32) (rec : Int32 → Hp → Option (Int32 × Hp)) (K : Int32 × Hp → Option (Unit × Hp)) (he : ∀ (v5 : Int32) (g : Hp), J yX0_narrow cX0_narrow 7 none 2 37 X g 69 [(5, sI v5), (0, sR p0), (1, sR p1), (2, sI p2), (3, sI p3), (4, sI p4)] [] (K (v5, g))) (hr : ∀ (v5 : Int32) (g : Hp), J yX0_narrow cX0_narrow 7 none 2 37 X g 3 [(5, sI v5), (0, sR p0), (1, sR p1), (2, sI p2), (3, sI p3), (4, sI p4)] [] ((rec v5 g).bind K)) (v5 : Int32) (g : Hp) : J yX0_narrow cX0_narrow 7 none 2 37 X g 3 [(5, sI v5), (0, sR p0), (1, sR p1), (2, sI p2), (3, sI p3), (4, sI p4)] [] ((f_X0_narrow_3_b z p0 p1 p2 p3 p4 rec v5 g).bind K) := by
  unfold f_X0_narrow_3_b
  refine j_iload (pc := 3) 0 dX0_narrow_3 rfl ?_
  refine j_sipush (pc := 5) (v := 144) dX0_narrow_5 (by decide) ?_
  refine j_icmp_ge (pc := 8) (tgt := 69) dX0_narrow_8 (by decide) bi (fun hc => ?_) (fun hc => ?_)
  · exact he v5 g
  · refine j_aload_n (pc := 11) 2 dX0_narrow_11 rfl rfl ?_
    refine j_iload (pc := 12) 0 dX0_narrow_12 rfl ?_
    refine j_iload_n (pc := 14) 3 dX0_narrow_14 rfl rfl ?_
    refine j_callV (pc := 15) (own := RX0) [sI v5, sI p2] [] dX0_narrow_15 lc_X0_24 lv_X7_between rfl (m_X7_between z p1 v5 p2 g) ⟨⟨Nat.le_of_ble_eq_true rfl, Nat.le_of_ble_eq_true rfl⟩, Nat.le_of_ble_eq_true rfl⟩ rfl bb (fun q1r q1g => ?_)
    refine j_istore (pc := 18) (lv' := [(6, sI q1r), (5, sI v5), (0, sR p0), (1, sR p1), (2, sI p2), (3, sI p3), (4, sI p4)]) dX0_narrow_18 (by decide) rfl ?_
    refine j_aload_n (pc := 20) 2 dX0_narrow_20 rfl rfl ?_
    refine j_getR (pc := 21) (own := RX0) dX0_narrow_21 lf_X0_9 rfl bb (fun x2 => ?_)
    refine j_iload (pc := 24) 1 dX0_narrow_24 rfl ?_
    refine j_aload_n (pc := 26) 2 dX0_narrow_26 rfl rfl ?_
    refine j_getR (pc := 27) (own := RX0) dX0_narrow_27 lf_X0_9 rfl bb (fun x3 => ?_)
    refine j_iload (pc := 30) 1 dX0_narrow_30 rfl ?_
    refine j_aldI (pc := 32) dX0_narrow_32 bb (fun x4 => ?_)
    refine j_iload_n (pc := 33) 5 dX0_narrow_33 rfl rfl ?_
    refine j_iload (pc := 34) 0 dX0_narrow_34 rfl ?_
    refine j_isub (pc := 36) dX0_narrow_36 ?_
    refine j_max (pc := 37) (own := RX0) dX0_narrow_37 lM_X0_30 rfl ⟨Nat.le_of_ble_eq_true rfl, Nat.le_of_ble_eq_true rfl⟩ ?_
    refine j_astI (pc := 40) dX0_narrow_40 bb (fun g5 => ?_)
    refine j_aload_n (pc := 41) 2 dX0_narrow_41 rfl rfl ?_
    refine j_getR (pc := 42) (own := RX0) dX0_narrow_42 lf_X0_15 rfl bb (fun x6 => ?_)
    refine j_iload (pc := 45) 1 dX0_narrow_45 rfl ?_
    refine j_aload_n (pc := 47) 2 dX0_narrow_47 rfl rfl ?_
    refine j_getR (pc := 48) (own := RX0) dX0_narrow_48 lf_X0_15 rfl bb (fun x7 => ?_)
    refine j_iload (pc := 51) 1 dX0_narrow_51 rfl ?_
    refine j_aldI (pc := 53) dX0_narrow_53 bb (fun x8 => ?_)
    refine j_iload (pc := 54) 6 dX0_narrow_54 rfl ?_
    refine j_iload (pc := 56) 0 dX0_narrow_56 rfl ?_
    refine j_isub (pc := 58) dX0_narrow_58 ?_
    refine j_min (pc := 59) (own := RX0) dX0_narrow_59 lM_X0_35 rfl ⟨Nat.le_of_ble_eq_true rfl, Nat.le_of_ble_eq_true rfl⟩ ?_
    refine j_astI (pc := 62) dX0_narrow_62 bb (fun g9 => ?_)
    refine j_iinc (pc := 63) (v := (v5 + 1)) (lv' := [(5, sI (v5 + 1)), (6, sI q1r), (0, sR p0), (1, sR p1), (2, sI p2), (3, sI p3), (4, sI p4)]) 1 dX0_narrow_63 rfl rfl (by decide) rfl ?_
    refine j_goto (pc := 66) (tgt := 3) dX0_narrow_66 (by decide) ?_
    refine J.sub [0, 2, 3, 4, 5, 6] rfl ?_
    exact hr (v5 + 1) g9
set_option maxRecDepth 20000 in
theorem l_X0_narrow_3 {X : Xt Unit} (hX : IsM rtV X) (z : Nat) (p0 : Option Nm) (p1 : Option Nm) (p2 : Int32) (p3 : Int32) (p4 : Int32) (K : Int32 × Hp → Option (Unit × Hp)) (he : ∀ (v5 : Int32) (g : Hp), J yX0_narrow cX0_narrow 7 none 2 37 X g 69 [(5, sI v5), (0, sR p0), (1, sR p1), (2, sI p2), (3, sI p3), (4, sI p4)] [] (K (v5, g))) : ∀ (n : Nat) (v5 : Int32) (g : Hp), J yX0_narrow cX0_narrow 7 none 2 37 X g 3 [(5, sI v5), (0, sR p0), (1, sR p1), (2, sI p2), (3, sI p3), (4, sI p4)] [] ((f_X0_narrow_3_L z p0 p1 p2 p3 p4 n v5 g).bind K)
  | 0, _, _ => J.eq rfl J.none
  | n + 1, v5, g => b_X0_narrow_3 hX z p0 p1 p2 p3 p4 _ K he (fun v5 g => l_X0_narrow_3 hX z p0 p1 p2 p3 p4 K he n v5 g) v5 g
set_option maxRecDepth 20000 in
theorem m_X0_narrow (z : Nat) (t : Option Nm) (a0 : Option Nm) (a1 : Int32) (a2 : Int32) (a3 : Int32) (g : Hp) : FM yX0_narrow cX0_narrow 7 none 2 37 rtV [sR t, sR a0, sI a1, sI a2, sI a3] g (f_X0_narrow z t a0 a1 a2 a3 g) := by
  refine FM.entry (by decide +kernel) (Nat.le_of_ble_eq_true rfl) (fun X hX => ?_)
  unfold f_X0_narrow
  show J yX0_narrow cX0_narrow 7 none 2 37 X g 0 [(0, sR t), (1, sR a0), (2, sI a1), (3, sI a2), (4, sI a3)] [] _
  refine j_iconst (pc := 0) (v := 0) dX0_narrow_0 (by decide) ?_
  refine j_istore (pc := 1) (lv' := [(5, sI 0), (0, sR t), (1, sR a0), (2, sI a1), (3, sI a2), (4, sI a3)]) dX0_narrow_1 (by decide) rfl ?_
  refine l_X0_narrow_3 hX z t a0 a1 a2 a3 _ (fun q10_0 q10_g => ?_) z 0 g
  exact j_return dX0_narrow_69 hX rfl rfl
/-! X0_has -/
noncomputable def f_X0_has (z : Nat) (t : Option Nm) (a0 : Int32) (g : Hp) : Option (Int32 × Hp) :=
  (getR t 1 0 g).bind fun x1 =>
  (aldI x1 a0 g).bind fun x2 =>
  (getR t 1 1 g).bind fun x3 =>
  (aldI x3 a0 g).bind fun x4 =>
  if x4 < x2 then (rtZ 0 g)
  else (rtZ 1 g)
set_option maxRecDepth 20000 in
theorem m_X0_has (z : Nat) (t : Option Nm) (a0 : Int32) (g : Hp) : FM yX0_has cX0_has 2 (some .boolean) 0 0 rtI [sR t, sI a0] g (f_X0_has z t a0 g) := by
  refine FM.entry (by decide +kernel) (Nat.le_of_ble_eq_true rfl) (fun X hX => ?_)
  unfold f_X0_has
  show J yX0_has cX0_has 2 (some .boolean) 0 0 X g 0 [(0, sR t), (1, sI a0)] [] _
  refine j_aload_n (pc := 0) 0 dX0_has_0 rfl rfl ?_
  refine j_getR (pc := 1) (own := RX0) dX0_has_1 lf_X0_9 rfl rfl (fun x1 => ?_)
  refine j_iload_n (pc := 4) 1 dX0_has_4 rfl rfl ?_
  refine j_aldI (pc := 5) dX0_has_5 rfl (fun x2 => ?_)
  refine j_aload_n (pc := 6) 0 dX0_has_6 rfl rfl ?_
  refine j_getR (pc := 7) (own := RX0) dX0_has_7 lf_X0_15 rfl rfl (fun x3 => ?_)
  refine j_iload_n (pc := 10) 1 dX0_has_10 rfl rfl ?_
  refine j_aldI (pc := 11) dX0_has_11 rfl (fun x4 => ?_)
  refine j_icmp_gt (pc := 12) (tgt := 19) dX0_has_12 (by decide) rfl (fun hc => ?_) (fun hc => ?_)
  · refine j_iconst (pc := 19) (v := 0) dX0_has_19 (by decide) ?_
    exact j_zreturn dX0_has_20 hX rfl rfl
  · refine j_iconst (pc := 15) (v := 1) dX0_has_15 (by decide) ?_
    refine j_goto (pc := 16) (tgt := 20) dX0_has_16 (by decide) ?_
    exact j_zreturn dX0_has_20 hX rfl rfl
/-! X0_countCells -/
noncomputable def f_X0_countCells_7_b (z : Nat) (p0 : Option Nm) (rec : Int32 → Hp → Option (Int32 × Hp)) (v1 : Int32) (g : Hp) : Option (Int32 × Hp) :=
  if 144 ≤ v1 then (some (v1, g))
  else ((ick p0 1 (f_X0_has z p0 v1 g)).bind fun q2 =>
    if q2.1 = 0 then (rec (v1 + 1) q2.2)
    else ((getI p0 1 2 q2.2).bind fun x3 =>
      (putI p0 1 2 (x3 + 1) q2.2).bind fun g4 =>
      rec (v1 + 1) g4))
noncomputable def f_X0_countCells_7_L (z : Nat) (p0 : Option Nm) : Nat → Int32 → Hp → Option (Int32 × Hp)
  | 0, _, _ => none
  | n + 1, v1, g => f_X0_countCells_7_b z p0 (f_X0_countCells_7_L z p0 n) v1 g
noncomputable def f_X0_countCells (z : Nat) (t : Option Nm) (g : Hp) : Option (Unit × Hp) :=
  (putI t 1 2 0 g).bind fun g1 =>
  (f_X0_countCells_7_L z t z 0 g1).bind fun q5 =>
  some ((), q5.2)
set_option maxRecDepth 20000 in
theorem b_X0_countCells_7 {X : Xt Unit} (hX : IsM rtV X) (z : Nat) (p0 : Option Nm) (rec : Int32 → Hp → Option (Int32 × Hp)) (K : Int32 × Hp → Option (Unit × Hp)) (he : ∀ (v1 : Int32) (g : Hp), J yX0_countCells cX0_countCells 2 none 1 21 X g 38 [(1, sI v1), (0, sR p0)] [] (K (v1, g))) (hr : ∀ (v1 : Int32) (g : Hp), J yX0_countCells cX0_countCells 2 none 1 21 X g 7 [(1, sI v1), (0, sR p0)] [] ((rec v1 g).bind K)) (v1 : Int32) (g : Hp) : J yX0_countCells cX0_countCells 2 none 1 21 X g 7 [(1, sI v1), (0, sR p0)] [] ((f_X0_countCells_7_b z p0 rec v1 g).bind K) := by
  unfold f_X0_countCells_7_b
  refine j_iload_n (pc := 7) 0 dX0_countCells_7 rfl rfl ?_
  refine j_sipush (pc := 8) (v := 144) dX0_countCells_8 (by decide) ?_
  refine j_icmp_ge (pc := 11) (tgt := 38) dX0_countCells_11 (by decide) bi (fun hc => ?_) (fun hc => ?_)
  · exact he v1 g
  · refine j_aload_n (pc := 14) 1 dX0_countCells_14 rfl rfl ?_
    refine j_iload_n (pc := 15) 0 dX0_countCells_15 rfl rfl ?_
    refine j_callV (pc := 16) (own := RX0) [sI v1] [] dX0_countCells_16 lc_X0_41 lv_X0_has rfl (m_X0_has z p0 v1 g) ⟨⟨Nat.le_of_ble_eq_true rfl, Nat.le_of_ble_eq_true rfl⟩, Nat.le_of_ble_eq_true rfl⟩ rfl bb (fun q2r q2g => ?_)
    refine j_if_eq (pc := 19) (tgt := 32) dX0_countCells_19 (by decide) bi (fun hc => ?_) (fun hc => ?_)
    · refine j_iinc (pc := 32) (v := (v1 + 1)) (lv' := [(1, sI (v1 + 1)), (0, sR p0)]) 0 dX0_countCells_32 rfl rfl (by decide) rfl ?_
      refine j_goto (pc := 35) (tgt := 7) dX0_countCells_35 (by decide) ?_
      exact hr (v1 + 1) q2g
    · refine j_aload_n (pc := 22) 1 dX0_countCells_22 rfl rfl ?_
      refine j_dup (pc := 23) dX0_countCells_23 rfl ?_
      refine j_getI (pc := 24) (own := RX0) dX0_countCells_24 lf_X0_38 rfl bb (fun x3 => ?_)
      refine j_iconst (pc := 27) (v := 1) dX0_countCells_27 (by decide) ?_
      refine j_iadd (pc := 28) dX0_countCells_28 ?_
      refine j_putI (pc := 29) (own := RX0) dX0_countCells_29 lf_X0_38 lt_1_2 lw_X0_38_X0_countCells rfl bb (fun g4 => ?_)
      refine j_iinc (pc := 32) (v := (v1 + 1)) (lv' := [(1, sI (v1 + 1)), (0, sR p0)]) 0 dX0_countCells_32 rfl rfl (by decide) rfl ?_
      refine j_goto (pc := 35) (tgt := 7) dX0_countCells_35 (by decide) ?_
      exact hr (v1 + 1) g4
set_option maxRecDepth 20000 in
theorem l_X0_countCells_7 {X : Xt Unit} (hX : IsM rtV X) (z : Nat) (p0 : Option Nm) (K : Int32 × Hp → Option (Unit × Hp)) (he : ∀ (v1 : Int32) (g : Hp), J yX0_countCells cX0_countCells 2 none 1 21 X g 38 [(1, sI v1), (0, sR p0)] [] (K (v1, g))) : ∀ (n : Nat) (v1 : Int32) (g : Hp), J yX0_countCells cX0_countCells 2 none 1 21 X g 7 [(1, sI v1), (0, sR p0)] [] ((f_X0_countCells_7_L z p0 n v1 g).bind K)
  | 0, _, _ => J.eq rfl J.none
  | n + 1, v1, g => b_X0_countCells_7 hX z p0 _ K he (fun v1 g => l_X0_countCells_7 hX z p0 K he n v1 g) v1 g
set_option maxRecDepth 20000 in
theorem m_X0_countCells (z : Nat) (t : Option Nm) (g : Hp) : FM yX0_countCells cX0_countCells 2 none 1 21 rtV [sR t] g (f_X0_countCells z t g) := by
  refine FM.entry (by decide +kernel) (Nat.le_of_ble_eq_true rfl) (fun X hX => ?_)
  unfold f_X0_countCells
  show J yX0_countCells cX0_countCells 2 none 1 21 X g 0 [(0, sR t)] [] _
  refine j_aload_n (pc := 0) 0 dX0_countCells_0 rfl rfl ?_
  refine j_iconst (pc := 1) (v := 0) dX0_countCells_1 (by decide) ?_
  refine j_putI (pc := 2) (own := RX0) dX0_countCells_2 lf_X0_38 lt_1_2 lw_X0_38_X0_countCells rfl rfl (fun g1 => ?_)
  refine j_iconst (pc := 5) (v := 0) dX0_countCells_5 (by decide) ?_
  refine j_istore_n (pc := 6) (lv' := [(1, sI 0), (0, sR t)]) dX0_countCells_6 rfl (by decide) rfl ?_
  refine l_X0_countCells_7 hX z t _ (fun q5_0 q5_g => ?_) z 0 g1
  exact j_return dX0_countCells_38 hX rfl rfl
/-! X0_cellAt -/
noncomputable def f_X0_cellAt_4_b (z : Nat) (p0 : Option Nm) (p1 : Int32) (rec : Int32 → Int32 → Hp → Option (Int32 × Hp)) (v3 : Int32) (v2 : Int32) (g : Hp) : Option (Int32 × Hp) :=
  if 144 ≤ v3 then (some ((-9), g))
  else ((ick p0 1 (f_X0_has z p0 v3 g)).bind fun q1 =>
    if q1.1 = 0 then (rec (v3 + 1) v2 q1.2)
    else (if v2 = p1 then (some (v3, q1.2))
      else (rec (v3 + 1) (v2 + 1) q1.2)))
noncomputable def f_X0_cellAt_4_L (z : Nat) (p0 : Option Nm) (p1 : Int32) : Nat → Int32 → Int32 → Hp → Option (Int32 × Hp)
  | 0, _, _, _ => none
  | n + 1, v3, v2, g => f_X0_cellAt_4_b z p0 p1 (f_X0_cellAt_4_L z p0 p1 n) v3 v2 g
noncomputable def f_X0_cellAt (z : Nat) (t : Option Nm) (a0 : Int32) (g : Hp) : Option (Int32 × Hp) :=
  f_X0_cellAt_4_L z t a0 z 0 0 g
set_option maxRecDepth 20000 in
theorem b_X0_cellAt_4 {X : Xt Int32} (hX : IsM rtI X) (z : Nat) (p0 : Option Nm) (p1 : Int32) (rec : Int32 → Int32 → Hp → Option (Int32 × Hp)) (hr : ∀ (v3 : Int32) (v2 : Int32) (g : Hp), J yX0_cellAt cX0_cellAt 4 (some .int) 1 21 X g 4 [(3, sI v3), (2, sI v2), (0, sR p0), (1, sI p1)] [] (rec v3 v2 g)) (v3 : Int32) (v2 : Int32) (g : Hp) : J yX0_cellAt cX0_cellAt 4 (some .int) 1 21 X g 4 [(3, sI v3), (2, sI v2), (0, sR p0), (1, sI p1)] [] (f_X0_cellAt_4_b z p0 p1 rec v3 v2 g) := by
  unfold f_X0_cellAt_4_b
  refine j_iload_n (pc := 4) 0 dX0_cellAt_4 rfl rfl ?_
  refine j_sipush (pc := 5) (v := 144) dX0_cellAt_5 (by decide) ?_
  refine j_icmp_ge (pc := 8) (tgt := 38) dX0_cellAt_8 (by decide) rfl (fun hc => ?_) (fun hc => ?_)
  · refine j_bipush (pc := 38) (v := (-9)) dX0_cellAt_38 (by decide) ?_
    exact j_ireturn dX0_cellAt_40 hX rfl rfl
  · refine j_aload_n (pc := 11) 2 dX0_cellAt_11 rfl rfl ?_
    refine j_iload_n (pc := 12) 0 dX0_cellAt_12 rfl rfl ?_
    refine j_callV (pc := 13) (own := RX0) [sI v3] [] dX0_cellAt_13 lc_X0_41 lv_X0_has rfl (m_X0_has z p0 v3 g) ⟨⟨Nat.le_of_ble_eq_true rfl, Nat.le_of_ble_eq_true rfl⟩, Nat.le_of_ble_eq_true rfl⟩ rfl rfl (fun q1r q1g => ?_)
    refine j_if_ne (pc := 16) (tgt := 22) dX0_cellAt_16 (by decide) rfl (fun hc => ?_) (fun hc => ?_)
    · refine j_iload_n (pc := 22) 1 dX0_cellAt_22 rfl rfl ?_
      refine j_iload_n (pc := 23) 3 dX0_cellAt_23 rfl rfl ?_
      refine j_icmp_ne (pc := 24) (tgt := 29) dX0_cellAt_24 (by decide) rfl (fun hc => ?_) (fun hc => ?_)
      · refine j_iinc (pc := 29) (v := (v2 + 1)) (lv' := [(2, sI (v2 + 1)), (3, sI v3), (0, sR p0), (1, sI p1)]) 1 dX0_cellAt_29 rfl rfl (by decide) rfl ?_
        refine j_iinc (pc := 32) (v := (v3 + 1)) (lv' := [(3, sI (v3 + 1)), (2, sI (v2 + 1)), (0, sR p0), (1, sI p1)]) 1 dX0_cellAt_32 rfl rfl (by decide) rfl ?_
        refine j_goto (pc := 35) (tgt := 4) dX0_cellAt_35 (by decide) ?_
        exact hr (v3 + 1) (v2 + 1) q1g
      · refine j_iload_n (pc := 27) 0 dX0_cellAt_27 rfl rfl ?_
        exact j_ireturn dX0_cellAt_28 hX rfl rfl
    · refine j_goto (pc := 19) (tgt := 32) dX0_cellAt_19 (by decide) ?_
      refine j_iinc (pc := 32) (v := (v3 + 1)) (lv' := [(3, sI (v3 + 1)), (2, sI v2), (0, sR p0), (1, sI p1)]) 0 dX0_cellAt_32 rfl rfl (by decide) rfl ?_
      refine j_goto (pc := 35) (tgt := 4) dX0_cellAt_35 (by decide) ?_
      exact hr (v3 + 1) v2 q1g
set_option maxRecDepth 20000 in
theorem l_X0_cellAt_4 {X : Xt Int32} (hX : IsM rtI X) (z : Nat) (p0 : Option Nm) (p1 : Int32) : ∀ (n : Nat) (v3 : Int32) (v2 : Int32) (g : Hp), J yX0_cellAt cX0_cellAt 4 (some .int) 1 21 X g 4 [(3, sI v3), (2, sI v2), (0, sR p0), (1, sI p1)] [] (f_X0_cellAt_4_L z p0 p1 n v3 v2 g)
  | 0, _, _, _ => J.none
  | n + 1, v3, v2, g => b_X0_cellAt_4 hX z p0 p1 _ (fun v3 v2 g => l_X0_cellAt_4 hX z p0 p1 n v3 v2 g) v3 v2 g
set_option maxRecDepth 20000 in
theorem m_X0_cellAt (z : Nat) (t : Option Nm) (a0 : Int32) (g : Hp) : FM yX0_cellAt cX0_cellAt 4 (some .int) 1 21 rtI [sR t, sI a0] g (f_X0_cellAt z t a0 g) := by
  refine FM.entry (by decide +kernel) (Nat.le_of_ble_eq_true rfl) (fun X hX => ?_)
  unfold f_X0_cellAt
  show J yX0_cellAt cX0_cellAt 4 (some .int) 1 21 X g 0 [(0, sR t), (1, sI a0)] [] _
  refine j_iconst (pc := 0) (v := 0) dX0_cellAt_0 (by decide) ?_
  refine j_istore_n (pc := 1) (lv' := [(2, sI 0), (0, sR t), (1, sI a0)]) dX0_cellAt_1 rfl (by decide) rfl ?_
  refine j_iconst (pc := 2) (v := 0) dX0_cellAt_2 (by decide) ?_
  refine j_istore_n (pc := 3) (lv' := [(3, sI 0), (2, sI 0), (0, sR t), (1, sI a0)]) dX0_cellAt_3 rfl (by decide) rfl ?_
  exact l_X0_cellAt_4 hX z t a0 z 0 0 g
end
