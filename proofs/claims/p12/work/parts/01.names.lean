-- ===== PART A: goes FIRST, ahead of the names: the tables' words, and 'selects' of the private methods out of them =====
/-- a private method of a class that the tables say can be made, by its rows of tables_1 -/
def lw_okq (q : MethodName × Nat) : Prop := (q.1.cls ≠ "java/lang/invoke/MethodHandle" ∧ q.1.cls ≠ "java/lang/invoke/VarHandle") ∧ Cond.instantiable q.1.cls q.2 ∈ tables_1 ∧ Cond.privateMethod q.1 ∈ tables_1 ∧ Cond.instanceMethod q.1 ∈ tables_1
theorem lw_p0 : lw_okq (⟨"java/util/ArrayList", "add", "(Ljava/lang/Object;[Ljava/lang/Object;I)V"⟩, 3) := ⟨⟨by decide +kernel, by decide +kernel⟩, List.mem_of_getElem? (i := 29) (by decide +kernel), List.mem_of_getElem? (i := 199) (by decide +kernel), List.mem_of_getElem? (i := 200) (by decide +kernel)⟩
theorem lw_p1 : lw_okq (⟨"java/util/ArrayList", "grow", "()[Ljava/lang/Object;"⟩, 3) := ⟨⟨by decide +kernel, by decide +kernel⟩, List.mem_of_getElem? (i := 29) (by decide +kernel), List.mem_of_getElem? (i := 203) (by decide +kernel), List.mem_of_getElem? (i := 204) (by decide +kernel)⟩
theorem lw_p2 : lw_okq (⟨"java/util/ArrayList", "grow", "(I)[Ljava/lang/Object;"⟩, 3) := ⟨⟨by decide +kernel, by decide +kernel⟩, List.mem_of_getElem? (i := 29) (by decide +kernel), List.mem_of_getElem? (i := 207) (by decide +kernel), List.mem_of_getElem? (i := 208) (by decide +kernel)⟩
theorem lw_p3 : lw_okq (⟨"SegmentLocks", "find", "(I)LSegmentLocks$Task;"⟩, 6) := ⟨⟨by decide +kernel, by decide +kernel⟩, List.mem_of_getElem? (i := 21) (by decide +kernel), List.mem_of_getElem? (i := 254) (by decide +kernel), List.mem_of_getElem? (i := 255) (by decide +kernel)⟩
theorem lw_p4 : lw_okq (⟨"SegmentLocks", "askForLock", "(LSegmentLocks$Task;II)I"⟩, 6) := ⟨⟨by decide +kernel, by decide +kernel⟩, List.mem_of_getElem? (i := 21) (by decide +kernel), List.mem_of_getElem? (i := 275) (by decide +kernel), List.mem_of_getElem? (i := 276) (by decide +kernel)⟩
theorem lw_p5 : lw_okq (⟨"SegmentLocks", "letGo", "(LSegmentLocks$Task;I)V"⟩, 6) := ⟨⟨by decide +kernel, by decide +kernel⟩, List.mem_of_getElem? (i := 21) (by decide +kernel), List.mem_of_getElem? (i := 279) (by decide +kernel), List.mem_of_getElem? (i := 280) (by decide +kernel)⟩
theorem lw_p6 : lw_okq (⟨"SegmentLocks$Rows", "leave", "(LSegmentLocks$Task;)V"⟩, 1) := ⟨⟨by decide +kernel, by decide +kernel⟩, List.mem_of_getElem? (i := 56) (by decide +kernel), List.mem_of_getElem? (i := 283) (by decide +kernel), List.mem_of_getElem? (i := 284) (by decide +kernel)⟩
theorem lw_p7 : lw_okq (⟨"SegmentLocks$Rows", "placeOf", "(LSegmentLocks$Task;)I"⟩, 1) := ⟨⟨by decide +kernel, by decide +kernel⟩, List.mem_of_getElem? (i := 56) (by decide +kernel), List.mem_of_getElem? (i := 287) (by decide +kernel), List.mem_of_getElem? (i := 288) (by decide +kernel)⟩
theorem lw_p8 : lw_okq (⟨"java/util/ArrayList", "fastRemove", "([Ljava/lang/Object;I)V"⟩, 3) := ⟨⟨by decide +kernel, by decide +kernel⟩, List.mem_of_getElem? (i := 29) (by decide +kernel), List.mem_of_getElem? (i := 297) (by decide +kernel), List.mem_of_getElem? (i := 298) (by decide +kernel)⟩
theorem lw_p9 : lw_okq (⟨"SegmentLocks$Task", "forget", "()V"⟩, 15) := ⟨⟨by decide +kernel, by decide +kernel⟩, List.mem_of_getElem? (i := 121) (by decide +kernel), List.mem_of_getElem? (i := 302) (by decide +kernel), List.mem_of_getElem? (i := 303) (by decide +kernel)⟩
theorem lw_p10 : lw_okq (⟨"SegmentLocks$Task", "stopWaiting", "()V"⟩, 15) := ⟨⟨by decide +kernel, by decide +kernel⟩, List.mem_of_getElem? (i := 121) (by decide +kernel), List.mem_of_getElem? (i := 306) (by decide +kernel), List.mem_of_getElem? (i := 307) (by decide +kernel)⟩
theorem lw_p11 : lw_okq (⟨"SegmentLocks", "grantRows", "()V"⟩, 6) := ⟨⟨by decide +kernel, by decide +kernel⟩, List.mem_of_getElem? (i := 21) (by decide +kernel), List.mem_of_getElem? (i := 310) (by decide +kernel), List.mem_of_getElem? (i := 311) (by decide +kernel)⟩
theorem lw_p12 : lw_okq (⟨"SegmentLocks$Rows", "first", "(I)LSegmentLocks$Task;"⟩, 1) := ⟨⟨by decide +kernel, by decide +kernel⟩, List.mem_of_getElem? (i := 56) (by decide +kernel), List.mem_of_getElem? (i := 314) (by decide +kernel), List.mem_of_getElem? (i := 315) (by decide +kernel)⟩
theorem lw_p13 : lw_okq (⟨"SegmentLocks", "canHave", "(LSegmentLocks$Task;II)Z"⟩, 6) := ⟨⟨by decide +kernel, by decide +kernel⟩, List.mem_of_getElem? (i := 21) (by decide +kernel), List.mem_of_getElem? (i := 319) (by decide +kernel), List.mem_of_getElem? (i := 320) (by decide +kernel)⟩
theorem lw_p14 : lw_okq (⟨"SegmentLocks$Task", "take", "(II)V"⟩, 15) := ⟨⟨by decide +kernel, by decide +kernel⟩, List.mem_of_getElem? (i := 121) (by decide +kernel), List.mem_of_getElem? (i := 326) (by decide +kernel), List.mem_of_getElem? (i := 327) (by decide +kernel)⟩
theorem lw_p15 : lw_okq (⟨"SegmentLocks$Rows", "enter", "(LSegmentLocks$Task;)V"⟩, 1) := ⟨⟨by decide +kernel, by decide +kernel⟩, List.mem_of_getElem? (i := 56) (by decide +kernel), List.mem_of_getElem? (i := 331) (by decide +kernel), List.mem_of_getElem? (i := 332) (by decide +kernel)⟩
def lw_privs_1 : List (MethodName × Nat) := [(⟨"java/util/ArrayList", "add", "(Ljava/lang/Object;[Ljava/lang/Object;I)V"⟩, 3), (⟨"java/util/ArrayList", "grow", "()[Ljava/lang/Object;"⟩, 3), (⟨"java/util/ArrayList", "grow", "(I)[Ljava/lang/Object;"⟩, 3), (⟨"SegmentLocks", "find", "(I)LSegmentLocks$Task;"⟩, 6), (⟨"SegmentLocks", "askForLock", "(LSegmentLocks$Task;II)I"⟩, 6), (⟨"SegmentLocks", "letGo", "(LSegmentLocks$Task;I)V"⟩, 6), (⟨"SegmentLocks$Rows", "leave", "(LSegmentLocks$Task;)V"⟩, 1), (⟨"SegmentLocks$Rows", "placeOf", "(LSegmentLocks$Task;)I"⟩, 1), (⟨"java/util/ArrayList", "fastRemove", "([Ljava/lang/Object;I)V"⟩, 3), (⟨"SegmentLocks$Task", "forget", "()V"⟩, 15), (⟨"SegmentLocks$Task", "stopWaiting", "()V"⟩, 15), (⟨"SegmentLocks", "grantRows", "()V"⟩, 6), (⟨"SegmentLocks$Rows", "first", "(I)LSegmentLocks$Task;"⟩, 1), (⟨"SegmentLocks", "canHave", "(LSegmentLocks$Task;II)Z"⟩, 6), (⟨"SegmentLocks$Task", "take", "(II)V"⟩, 15), (⟨"SegmentLocks$Rows", "enter", "(LSegmentLocks$Task;)V"⟩, 1)]
theorem lw_r1 : ∀ q ∈ lw_privs_1, lw_okq q := List.forall_mem_cons.mpr ⟨lw_p0, List.forall_mem_cons.mpr ⟨lw_p1, List.forall_mem_cons.mpr ⟨lw_p2, List.forall_mem_cons.mpr ⟨lw_p3, List.forall_mem_cons.mpr ⟨lw_p4, List.forall_mem_cons.mpr ⟨lw_p5, List.forall_mem_cons.mpr ⟨lw_p6, List.forall_mem_cons.mpr ⟨lw_p7, List.forall_mem_cons.mpr ⟨lw_p8, List.forall_mem_cons.mpr ⟨lw_p9, List.forall_mem_cons.mpr ⟨lw_p10, List.forall_mem_cons.mpr ⟨lw_p11, List.forall_mem_cons.mpr ⟨lw_p12, List.forall_mem_cons.mpr ⟨lw_p13, List.forall_mem_cons.mpr ⟨lw_p14, List.forall_mem_cons.mpr ⟨lw_p15, fun _ h => absurd h List.not_mem_nil⟩⟩⟩⟩⟩⟩⟩⟩⟩⟩⟩⟩⟩⟩⟩⟩
theorem lw_p16 : lw_okq (⟨"SegmentLocks$Rows", "firstWithoutLock", "(I)I"⟩, 1) := ⟨⟨by decide +kernel, by decide +kernel⟩, List.mem_of_getElem? (i := 56) (by decide +kernel), List.mem_of_getElem? (i := 336) (by decide +kernel), List.mem_of_getElem? (i := 337) (by decide +kernel)⟩
theorem lw_p17 : lw_okq (⟨"java/util/ArrayList", "rangeCheckForAdd", "(I)V"⟩, 3) := ⟨⟨by decide +kernel, by decide +kernel⟩, List.mem_of_getElem? (i := 29) (by decide +kernel), List.mem_of_getElem? (i := 344) (by decide +kernel), List.mem_of_getElem? (i := 345) (by decide +kernel)⟩
theorem lw_p18 : lw_okq (⟨"SegmentLocks", "breakRings", "(LSegmentLocks$Task;)I"⟩, 6) := ⟨⟨by decide +kernel, by decide +kernel⟩, List.mem_of_getElem? (i := 21) (by decide +kernel), List.mem_of_getElem? (i := 348) (by decide +kernel), List.mem_of_getElem? (i := 349) (by decide +kernel)⟩
theorem lw_p19 : lw_okq (⟨"SegmentLocks$Rings", "search", "(Ljava/util/ArrayList;LSegmentLocks$Rows;LSegmentLocks$Task;)Z"⟩, 5) := ⟨⟨by decide +kernel, by decide +kernel⟩, List.mem_of_getElem? (i := 68) (by decide +kernel), List.mem_of_getElem? (i := 352) (by decide +kernel), List.mem_of_getElem? (i := 353) (by decide +kernel)⟩
theorem lw_p20 : lw_okq (⟨"SegmentLocks$Rings", "begin", "(LSegmentLocks$Task;)V"⟩, 5) := ⟨⟨by decide +kernel, by decide +kernel⟩, List.mem_of_getElem? (i := 68) (by decide +kernel), List.mem_of_getElem? (i := 356) (by decide +kernel), List.mem_of_getElem? (i := 357) (by decide +kernel)⟩
theorem lw_p21 : lw_okq (⟨"SegmentLocks$Rings", "markBlockers", "(Ljava/util/ArrayList;LSegmentLocks$Rows;LSegmentLocks$Task;)V"⟩, 5) := ⟨⟨by decide +kernel, by decide +kernel⟩, List.mem_of_getElem? (i := 68) (by decide +kernel), List.mem_of_getElem? (i := 368) (by decide +kernel), List.mem_of_getElem? (i := 369) (by decide +kernel)⟩
theorem lw_p22 : lw_okq (⟨"SegmentLocks$Rows", "markAhead", "(LSegmentLocks$Task;[Z)V"⟩, 1) := ⟨⟨by decide +kernel, by decide +kernel⟩, List.mem_of_getElem? (i := 56) (by decide +kernel), List.mem_of_getElem? (i := 374) (by decide +kernel), List.mem_of_getElem? (i := 375) (by decide +kernel)⟩
theorem lw_p23 : lw_okq (⟨"SegmentLocks$Rows", "isAhead", "(ILSegmentLocks$Task;)Z"⟩, 1) := ⟨⟨by decide +kernel, by decide +kernel⟩, List.mem_of_getElem? (i := 56) (by decide +kernel), List.mem_of_getElem? (i := 378) (by decide +kernel), List.mem_of_getElem? (i := 379) (by decide +kernel)⟩
theorem lw_p24 : lw_okq (⟨"SegmentLocks$Rings", "reachBlockers", "(Ljava/util/ArrayList;ILSegmentLocks$Task;)Z"⟩, 5) := ⟨⟨by decide +kernel, by decide +kernel⟩, List.mem_of_getElem? (i := 68) (by decide +kernel), List.mem_of_getElem? (i := 382) (by decide +kernel), List.mem_of_getElem? (i := 383) (by decide +kernel)⟩
theorem lw_p25 : lw_okq (⟨"SegmentLocks$Rings", "keepWayTo", "(I)V"⟩, 5) := ⟨⟨by decide +kernel, by decide +kernel⟩, List.mem_of_getElem? (i := 68) (by decide +kernel), List.mem_of_getElem? (i := 386) (by decide +kernel), List.mem_of_getElem? (i := 387) (by decide +kernel)⟩
theorem lw_p26 : lw_okq (⟨"SegmentLocks$Rings", "youngest", "(LSegmentLocks$Task;)LSegmentLocks$Task;"⟩, 5) := ⟨⟨by decide +kernel, by decide +kernel⟩, List.mem_of_getElem? (i := 68) (by decide +kernel), List.mem_of_getElem? (i := 392) (by decide +kernel), List.mem_of_getElem? (i := 393) (by decide +kernel)⟩
theorem lw_p27 : lw_okq (⟨"SegmentLocks$Task", "isYounger", "(LSegmentLocks$Task;)Z"⟩, 15) := ⟨⟨by decide +kernel, by decide +kernel⟩, List.mem_of_getElem? (i := 121) (by decide +kernel), List.mem_of_getElem? (i := 396) (by decide +kernel), List.mem_of_getElem? (i := 397) (by decide +kernel)⟩
theorem lw_p28 : lw_okq (⟨"SegmentLocks$Task", "keep", "(IJ)V"⟩, 15) := ⟨⟨by decide +kernel, by decide +kernel⟩, List.mem_of_getElem? (i := 121) (by decide +kernel), List.mem_of_getElem? (i := 404) (by decide +kernel), List.mem_of_getElem? (i := 405) (by decide +kernel)⟩
theorem lw_p29 : lw_okq (⟨"SegmentLocks", "agree", "(LSegmentLocks$Task;)V"⟩, 6) := ⟨⟨by decide +kernel, by decide +kernel⟩, List.mem_of_getElem? (i := 21) (by decide +kernel), List.mem_of_getElem? (i := 412) (by decide +kernel), List.mem_of_getElem? (i := 413) (by decide +kernel)⟩
theorem lw_p30 : lw_okq (⟨"SegmentLocks$Task", "isInOrder", "([J)Z"⟩, 15) := ⟨⟨by decide +kernel, by decide +kernel⟩, List.mem_of_getElem? (i := 121) (by decide +kernel), List.mem_of_getElem? (i := 416) (by decide +kernel), List.mem_of_getElem? (i := 417) (by decide +kernel)⟩
theorem lw_p31 : lw_okq (⟨"SegmentLocks$Rings", "member", "(I)I"⟩, 5) := ⟨⟨by decide +kernel, by decide +kernel⟩, List.mem_of_getElem? (i := 68) (by decide +kernel), List.mem_of_getElem? (i := 428) (by decide +kernel), List.mem_of_getElem? (i := 429) (by decide +kernel)⟩
def lw_privs_2 : List (MethodName × Nat) := [(⟨"SegmentLocks$Rows", "firstWithoutLock", "(I)I"⟩, 1), (⟨"java/util/ArrayList", "rangeCheckForAdd", "(I)V"⟩, 3), (⟨"SegmentLocks", "breakRings", "(LSegmentLocks$Task;)I"⟩, 6), (⟨"SegmentLocks$Rings", "search", "(Ljava/util/ArrayList;LSegmentLocks$Rows;LSegmentLocks$Task;)Z"⟩, 5), (⟨"SegmentLocks$Rings", "begin", "(LSegmentLocks$Task;)V"⟩, 5), (⟨"SegmentLocks$Rings", "markBlockers", "(Ljava/util/ArrayList;LSegmentLocks$Rows;LSegmentLocks$Task;)V"⟩, 5), (⟨"SegmentLocks$Rows", "markAhead", "(LSegmentLocks$Task;[Z)V"⟩, 1), (⟨"SegmentLocks$Rows", "isAhead", "(ILSegmentLocks$Task;)Z"⟩, 1), (⟨"SegmentLocks$Rings", "reachBlockers", "(Ljava/util/ArrayList;ILSegmentLocks$Task;)Z"⟩, 5), (⟨"SegmentLocks$Rings", "keepWayTo", "(I)V"⟩, 5), (⟨"SegmentLocks$Rings", "youngest", "(LSegmentLocks$Task;)LSegmentLocks$Task;"⟩, 5), (⟨"SegmentLocks$Task", "isYounger", "(LSegmentLocks$Task;)Z"⟩, 15), (⟨"SegmentLocks$Task", "keep", "(IJ)V"⟩, 15), (⟨"SegmentLocks", "agree", "(LSegmentLocks$Task;)V"⟩, 6), (⟨"SegmentLocks$Task", "isInOrder", "([J)Z"⟩, 15), (⟨"SegmentLocks$Rings", "member", "(I)I"⟩, 5)]
theorem lw_r2 : ∀ q ∈ lw_privs_2, lw_okq q := List.forall_mem_cons.mpr ⟨lw_p16, List.forall_mem_cons.mpr ⟨lw_p17, List.forall_mem_cons.mpr ⟨lw_p18, List.forall_mem_cons.mpr ⟨lw_p19, List.forall_mem_cons.mpr ⟨lw_p20, List.forall_mem_cons.mpr ⟨lw_p21, List.forall_mem_cons.mpr ⟨lw_p22, List.forall_mem_cons.mpr ⟨lw_p23, List.forall_mem_cons.mpr ⟨lw_p24, List.forall_mem_cons.mpr ⟨lw_p25, List.forall_mem_cons.mpr ⟨lw_p26, List.forall_mem_cons.mpr ⟨lw_p27, List.forall_mem_cons.mpr ⟨lw_p28, List.forall_mem_cons.mpr ⟨lw_p29, List.forall_mem_cons.mpr ⟨lw_p30, List.forall_mem_cons.mpr ⟨lw_p31, fun _ h => absurd h List.not_mem_nil⟩⟩⟩⟩⟩⟩⟩⟩⟩⟩⟩⟩⟩⟩⟩⟩
theorem lw_p32 : lw_okq (⟨"SegmentLocks$Rows", "countAhead", "(LSegmentLocks$Task;)I"⟩, 1) := ⟨⟨by decide +kernel, by decide +kernel⟩, List.mem_of_getElem? (i := 56) (by decide +kernel), List.mem_of_getElem? (i := 456) (by decide +kernel), List.mem_of_getElem? (i := 457) (by decide +kernel)⟩
theorem lw_p33 : lw_okq (⟨"java/lang/Throwable", "fillInStackTrace", "(I)Ljava/lang/Throwable;"⟩, 6) := ⟨⟨by decide +kernel, by decide +kernel⟩, List.mem_of_getElem? (i := 506) (by decide +kernel), List.mem_of_getElem? (i := 504) (by decide +kernel), List.mem_of_getElem? (i := 505) (by decide +kernel)⟩
theorem lw_p34 : lw_okq (⟨"SegmentLocks", "latest", "(I)J"⟩, 6) := ⟨⟨by decide +kernel, by decide +kernel⟩, List.mem_of_getElem? (i := 21) (by decide +kernel), List.mem_of_getElem? (i := 553) (by decide +kernel), List.mem_of_getElem? (i := 554) (by decide +kernel)⟩
theorem lw_p35 : lw_okq (⟨"SegmentLocks$Task", "remember", "(IJJ)V"⟩, 15) := ⟨⟨by decide +kernel, by decide +kernel⟩, List.mem_of_getElem? (i := 121) (by decide +kernel), List.mem_of_getElem? (i := 557) (by decide +kernel), List.mem_of_getElem? (i := 558) (by decide +kernel)⟩
theorem lw_p36 : lw_okq (⟨"SegmentLocksModel", "isTask", "(I)Z"⟩, 27) := ⟨⟨by decide +kernel, by decide +kernel⟩, List.mem_of_getElem? (i := 569) (by decide +kernel), List.mem_of_getElem? (i := 665) (by decide +kernel), List.mem_of_getElem? (i := 666) (by decide +kernel)⟩
theorem lw_p37 : lw_okq (⟨"SegmentLocksModel", "locksOf", "(I)I"⟩, 27) := ⟨⟨by decide +kernel, by decide +kernel⟩, List.mem_of_getElem? (i := 569) (by decide +kernel), List.mem_of_getElem? (i := 675) (by decide +kernel), List.mem_of_getElem? (i := 676) (by decide +kernel)⟩
theorem lw_p38 : lw_okq (⟨"SegmentLocksModel", "clear", "(II)I"⟩, 27) := ⟨⟨by decide +kernel, by decide +kernel⟩, List.mem_of_getElem? (i := 569) (by decide +kernel), List.mem_of_getElem? (i := 679) (by decide +kernel), List.mem_of_getElem? (i := 680) (by decide +kernel)⟩
theorem lw_p39 : lw_okq (⟨"SegmentLocksModel", "unwait", "(I)V"⟩, 27) := ⟨⟨by decide +kernel, by decide +kernel⟩, List.mem_of_getElem? (i := 569) (by decide +kernel), List.mem_of_getElem? (i := 683) (by decide +kernel), List.mem_of_getElem? (i := 684) (by decide +kernel)⟩
theorem lw_p40 : lw_okq (⟨"SegmentLocksModel", "placeBefore", "(II)I"⟩, 27) := ⟨⟨by decide +kernel, by decide +kernel⟩, List.mem_of_getElem? (i := 569) (by decide +kernel), List.mem_of_getElem? (i := 687) (by decide +kernel), List.mem_of_getElem? (i := 688) (by decide +kernel)⟩
theorem lw_p41 : lw_okq (⟨"SegmentLocksModel", "forget", "(I)V"⟩, 27) := ⟨⟨by decide +kernel, by decide +kernel⟩, List.mem_of_getElem? (i := 569) (by decide +kernel), List.mem_of_getElem? (i := 691) (by decide +kernel), List.mem_of_getElem? (i := 692) (by decide +kernel)⟩
theorem lw_p42 : lw_okq (⟨"SegmentLocksModel", "grant", "()V"⟩, 27) := ⟨⟨by decide +kernel, by decide +kernel⟩, List.mem_of_getElem? (i := 569) (by decide +kernel), List.mem_of_getElem? (i := 695) (by decide +kernel), List.mem_of_getElem? (i := 696) (by decide +kernel)⟩
theorem lw_p43 : lw_okq (⟨"SegmentLocksModel", "isFree", "(III)Z"⟩, 27) := ⟨⟨by decide +kernel, by decide +kernel⟩, List.mem_of_getElem? (i := 569) (by decide +kernel), List.mem_of_getElem? (i := 699) (by decide +kernel), List.mem_of_getElem? (i := 700) (by decide +kernel)⟩
theorem lw_p44 : lw_okq (⟨"SegmentLocksModel", "insert", "(III)V"⟩, 27) := ⟨⟨by decide +kernel, by decide +kernel⟩, List.mem_of_getElem? (i := 569) (by decide +kernel), List.mem_of_getElem? (i := 706) (by decide +kernel), List.mem_of_getElem? (i := 707) (by decide +kernel)⟩
theorem lw_p45 : lw_okq (⟨"SegmentLocksModel", "findRing", "(I)Z"⟩, 27) := ⟨⟨by decide +kernel, by decide +kernel⟩, List.mem_of_getElem? (i := 569) (by decide +kernel), List.mem_of_getElem? (i := 710) (by decide +kernel), List.mem_of_getElem? (i := 711) (by decide +kernel)⟩
theorem lw_p46 : lw_okq (⟨"SegmentLocksModel", "isBlocked", "(II)Z"⟩, 27) := ⟨⟨by decide +kernel, by decide +kernel⟩, List.mem_of_getElem? (i := 569) (by decide +kernel), List.mem_of_getElem? (i := 714) (by decide +kernel), List.mem_of_getElem? (i := 715) (by decide +kernel)⟩
theorem lw_p47 : lw_okq (⟨"SegmentLocksModel", "placeOf", "(I)I"⟩, 27) := ⟨⟨by decide +kernel, by decide +kernel⟩, List.mem_of_getElem? (i := 569) (by decide +kernel), List.mem_of_getElem? (i := 718) (by decide +kernel), List.mem_of_getElem? (i := 719) (by decide +kernel)⟩
def lw_privs_3 : List (MethodName × Nat) := [(⟨"SegmentLocks$Rows", "countAhead", "(LSegmentLocks$Task;)I"⟩, 1), (⟨"java/lang/Throwable", "fillInStackTrace", "(I)Ljava/lang/Throwable;"⟩, 6), (⟨"SegmentLocks", "latest", "(I)J"⟩, 6), (⟨"SegmentLocks$Task", "remember", "(IJJ)V"⟩, 15), (⟨"SegmentLocksModel", "isTask", "(I)Z"⟩, 27), (⟨"SegmentLocksModel", "locksOf", "(I)I"⟩, 27), (⟨"SegmentLocksModel", "clear", "(II)I"⟩, 27), (⟨"SegmentLocksModel", "unwait", "(I)V"⟩, 27), (⟨"SegmentLocksModel", "placeBefore", "(II)I"⟩, 27), (⟨"SegmentLocksModel", "forget", "(I)V"⟩, 27), (⟨"SegmentLocksModel", "grant", "()V"⟩, 27), (⟨"SegmentLocksModel", "isFree", "(III)Z"⟩, 27), (⟨"SegmentLocksModel", "insert", "(III)V"⟩, 27), (⟨"SegmentLocksModel", "findRing", "(I)Z"⟩, 27), (⟨"SegmentLocksModel", "isBlocked", "(II)Z"⟩, 27), (⟨"SegmentLocksModel", "placeOf", "(I)I"⟩, 27)]
theorem lw_r3 : ∀ q ∈ lw_privs_3, lw_okq q := List.forall_mem_cons.mpr ⟨lw_p32, List.forall_mem_cons.mpr ⟨lw_p33, List.forall_mem_cons.mpr ⟨lw_p34, List.forall_mem_cons.mpr ⟨lw_p35, List.forall_mem_cons.mpr ⟨lw_p36, List.forall_mem_cons.mpr ⟨lw_p37, List.forall_mem_cons.mpr ⟨lw_p38, List.forall_mem_cons.mpr ⟨lw_p39, List.forall_mem_cons.mpr ⟨lw_p40, List.forall_mem_cons.mpr ⟨lw_p41, List.forall_mem_cons.mpr ⟨lw_p42, List.forall_mem_cons.mpr ⟨lw_p43, List.forall_mem_cons.mpr ⟨lw_p44, List.forall_mem_cons.mpr ⟨lw_p45, List.forall_mem_cons.mpr ⟨lw_p46, List.forall_mem_cons.mpr ⟨lw_p47, fun _ h => absurd h List.not_mem_nil⟩⟩⟩⟩⟩⟩⟩⟩⟩⟩⟩⟩⟩⟩⟩⟩
theorem lw_p48 : lw_okq (⟨"SegmentLocksModel", "youngest", "()I"⟩, 27) := ⟨⟨by decide +kernel, by decide +kernel⟩, List.mem_of_getElem? (i := 569) (by decide +kernel), List.mem_of_getElem? (i := 722) (by decide +kernel), List.mem_of_getElem? (i := 723) (by decide +kernel)⟩
theorem lw_p49 : lw_okq (⟨"SegmentLocksModel", "refusal", "(I)I"⟩, 27) := ⟨⟨by decide +kernel, by decide +kernel⟩, List.mem_of_getElem? (i := 569) (by decide +kernel), List.mem_of_getElem? (i := 738) (by decide +kernel), List.mem_of_getElem? (i := 739) (by decide +kernel)⟩
theorem lw_p50 : lw_okq (⟨"SegmentLocksModel", "writesOf", "(I)I"⟩, 27) := ⟨⟨by decide +kernel, by decide +kernel⟩, List.mem_of_getElem? (i := 569) (by decide +kernel), List.mem_of_getElem? (i := 742) (by decide +kernel), List.mem_of_getElem? (i := 743) (by decide +kernel)⟩
theorem lw_p51 : lw_okq (⟨"SegmentLocksModel", "agree", "(I)I"⟩, 27) := ⟨⟨by decide +kernel, by decide +kernel⟩, List.mem_of_getElem? (i := 569) (by decide +kernel), List.mem_of_getElem? (i := 746) (by decide +kernel), List.mem_of_getElem? (i := 747) (by decide +kernel)⟩
theorem lw_p52 : lw_okq (⟨"SegmentLocksModel", "isInOrder", "(I)Z"⟩, 27) := ⟨⟨by decide +kernel, by decide +kernel⟩, List.mem_of_getElem? (i := 569) (by decide +kernel), List.mem_of_getElem? (i := 750) (by decide +kernel), List.mem_of_getElem? (i := 751) (by decide +kernel)⟩
def lw_privs_4 : List (MethodName × Nat) := [(⟨"SegmentLocksModel", "youngest", "()I"⟩, 27), (⟨"SegmentLocksModel", "refusal", "(I)I"⟩, 27), (⟨"SegmentLocksModel", "writesOf", "(I)I"⟩, 27), (⟨"SegmentLocksModel", "agree", "(I)I"⟩, 27), (⟨"SegmentLocksModel", "isInOrder", "(I)Z"⟩, 27)]
theorem lw_r4 : ∀ q ∈ lw_privs_4, lw_okq q := List.forall_mem_cons.mpr ⟨lw_p48, List.forall_mem_cons.mpr ⟨lw_p49, List.forall_mem_cons.mpr ⟨lw_p50, List.forall_mem_cons.mpr ⟨lw_p51, List.forall_mem_cons.mpr ⟨lw_p52, fun _ h => absurd h List.not_mem_nil⟩⟩⟩⟩⟩
def lw_privs : List (MethodName × Nat) := lw_privs_1 ++ (lw_privs_2 ++ (lw_privs_3 ++ (lw_privs_4)))
def lw_tbl : List Cond := k2_sels lw_privs ++ tables_1
theorem lw_privs_ok : ∀ q ∈ lw_privs, lw_okq q := by
  show ∀ q ∈ lw_privs_1 ++ (lw_privs_2 ++ (lw_privs_3 ++ (lw_privs_4))), lw_okq q
  exact List.forall_mem_append.mpr ⟨lw_r1, List.forall_mem_append.mpr ⟨lw_r2, List.forall_mem_append.mpr ⟨lw_r3, lw_r4⟩⟩⟩

def RX0 : String := "SegmentLocks"
def FX0 : u_T := fun k => match k with
  | 0 => ("SegmentLocks", "agreed", "[J", true)
  | 1 => ("SegmentLocks", "tasks", "Ljava/util/ArrayList;", true)
  | 2 => ("SegmentLocks", "rows", "LSegmentLocks$Rows;", true)
  | 3 => ("SegmentLocks", "rings", "LSegmentLocks$Rings;", true)
  | 4 => ("SegmentLocks", "mostLocks", "I", false)
  | _ => ("SegmentLocks", "allInOrder", "Z", false)
def tX0 : Nat → FieldType := fun k => match k with
  | 0 => (.array .long)
  | 1 => (.object "java/util/ArrayList")
  | 2 => (.object "SegmentLocks$Rows")
  | 3 => (.object "SegmentLocks$Rings")
  | 4 => .int
  | _ => .boolean
def RX1 : String := "SegmentLocks$Rows"
def FX1 : u_T := fun k => match k with
  | _ => ("SegmentLocks$Rows", "waiting", "Ljava/util/ArrayList;", true)
def tX1 : Nat → FieldType := fun k => match k with
  | _ => (.object "java/util/ArrayList")
def RX2 : String := "SegmentLocks$Rings"
def FX2 : u_T := fun k => match k with
  | 0 => ("SegmentLocks$Rings", "members", "Ljava/util/ArrayList;", true)
  | 1 => ("SegmentLocks$Rings", "reached", "Ljava/util/ArrayList;", true)
  | 2 => ("SegmentLocks$Rings", "reachedFrom", "[I", true)
  | 3 => ("SegmentLocks$Rings", "isReached", "[Z", true)
  | _ => ("SegmentLocks$Rings", "blocks", "[Z", true)
def tX2 : Nat → FieldType := fun k => match k with
  | 0 => (.object "java/util/ArrayList")
  | 1 => (.object "java/util/ArrayList")
  | 2 => (.array .int)
  | 3 => (.array .boolean)
  | _ => (.array .boolean)
def RX3 : String := "SegmentLocks$Task"
def FX3 : u_T := fun k => match k with
  | 0 => ("SegmentLocks$Task", "number", "I", true)
  | 1 => ("SegmentLocks$Task", "age", "I", true)
  | 2 => ("SegmentLocks$Task", "locks", "[I", true)
  | 3 => ("SegmentLocks$Task", "looks", "[Z", true)
  | 4 => ("SegmentLocks$Task", "written", "[Z", true)
  | 5 => ("SegmentLocks$Task", "kept", "[J", true)
  | 6 => ("SegmentLocks$Task", "hasRead", "[Z", true)
  | 7 => ("SegmentLocks$Task", "seen", "[J", true)
  | 8 => ("SegmentLocks$Task", "strayed", "Z", false)
  | 9 => ("SegmentLocks$Task", "state", "I", false)
  | 10 => ("SegmentLocks$Task", "lockCount", "I", false)
  | 11 => ("SegmentLocks$Task", "writtenCount", "I", false)
  | 12 => ("SegmentLocks$Task", "restarts", "I", false)
  | 13 => ("SegmentLocks$Task", "waitsFor", "I", false)
  | _ => ("SegmentLocks$Task", "wish", "I", false)
def tX3 : Nat → FieldType := fun k => match k with
  | 0 => .int
  | 1 => .int
  | 2 => (.array .int)
  | 3 => (.array .boolean)
  | 4 => (.array .boolean)
  | 5 => (.array .long)
  | 6 => (.array .boolean)
  | 7 => (.array .long)
  | 8 => .boolean
  | 9 => .int
  | 10 => .int
  | 11 => .int
  | 12 => .int
  | 13 => .int
  | _ => .int
def RX4 : String := "SegmentLocksModel"
def FX4 : u_T := fun k => match k with
  | 0 => ("SegmentLocksModel", "code", "I", false)
  | 1 => ("SegmentLocksModel", "agreed", "[J", true)
  | 2 => ("SegmentLocksModel", "tasks", "I", false)
  | 3 => ("SegmentLocksModel", "most", "I", false)
  | 4 => ("SegmentLocksModel", "ages", "[I", true)
  | 5 => ("SegmentLocksModel", "states", "[I", true)
  | 6 => ("SegmentLocksModel", "restarts", "[I", true)
  | 7 => ("SegmentLocksModel", "waitsFor", "[I", true)
  | 8 => ("SegmentLocksModel", "asks", "[I", true)
  | 9 => ("SegmentLocksModel", "locks", "[I", true)
  | 10 => ("SegmentLocksModel", "calls", "[I", true)
  | 11 => ("SegmentLocksModel", "dirty", "[Z", true)
  | 12 => ("SegmentLocksModel", "wrote", "[Z", true)
  | 13 => ("SegmentLocksModel", "writes", "[J", true)
  | 14 => ("SegmentLocksModel", "call", "I", false)
  | 15 => ("SegmentLocksModel", "rows", "[I", true)
  | 16 => ("SegmentLocksModel", "sizes", "[I", true)
  | 17 => ("SegmentLocksModel", "readers", "[I", true)
  | 18 => ("SegmentLocksModel", "readOf", "[I", true)
  | 19 => ("SegmentLocksModel", "seen", "[J", true)
  | 20 => ("SegmentLocksModel", "reads", "I", false)
  | 21 => ("SegmentLocksModel", "ring", "[I", true)
  | 22 => ("SegmentLocksModel", "came", "[I", true)
  | 23 => ("SegmentLocksModel", "far", "[I", true)
  | 24 => ("SegmentLocksModel", "queue", "[I", true)
  | 25 => ("SegmentLocksModel", "ringSize", "I", false)
  | _ => ("SegmentLocksModel", "unordered", "Z", false)
def tX4 : Nat → FieldType := fun k => match k with
  | 0 => .int
  | 1 => (.array .long)
  | 2 => .int
  | 3 => .int
  | 4 => (.array .int)
  | 5 => (.array .int)
  | 6 => (.array .int)
  | 7 => (.array .int)
  | 8 => (.array .int)
  | 9 => (.array .int)
  | 10 => (.array .int)
  | 11 => (.array .boolean)
  | 12 => (.array .boolean)
  | 13 => (.array .long)
  | 14 => .int
  | 15 => (.array .int)
  | 16 => (.array .int)
  | 17 => (.array .int)
  | 18 => (.array .int)
  | 19 => (.array .long)
  | 20 => .int
  | 21 => (.array .int)
  | 22 => (.array .int)
  | 23 => (.array .int)
  | 24 => (.array .int)
  | 25 => .int
  | _ => .boolean
def RX5 : String := "java/util/ArrayList"
def FX5 : u_T := fun k => match k with
  | 0 => ("java/util/ArrayList", "elementData", "[Ljava/lang/Object;", false)
  | 1 => ("java/util/ArrayList", "size", "I", false)
  | _ => ("java/util/AbstractList", "modCount", "I", false)
def tX5 : Nat → FieldType := fun k => match k with
  | 0 => (.array (.object "java/lang/Object"))
  | 1 => .int
  | _ => .int
def RX6 : String := "java/lang/IllegalArgumentException"
def FX6 : u_T := fun k => match k with
  | 0 => ("java/lang/Throwable", "cause", "Ljava/lang/Throwable;", false)
  | 1 => ("java/lang/Throwable", "stackTrace", "[Ljava/lang/StackTraceElement;", false)
  | 2 => ("java/lang/Throwable", "suppressedExceptions", "Ljava/util/List;", false)
  | 3 => ("java/lang/Throwable", "detailMessage", "Ljava/lang/String;", false)
  | 4 => ("java/lang/Throwable", "backtrace", "Ljava/lang/Object;", false)
  | _ => ("java/lang/Throwable", "depth", "I", false)
def tX6 : Nat → FieldType := fun k => match k with
  | 0 => (.object "java/lang/Throwable")
  | 1 => (.array (.object "java/lang/StackTraceElement"))
  | 2 => (.object "java/util/List")
  | 3 => (.object "java/lang/String")
  | 4 => (.object "java/lang/Object")
  | _ => .int
def RX7 : String := "java/lang/IllegalStateException"
def FX7 : u_T := fun k => match k with
  | 0 => ("java/lang/Throwable", "cause", "Ljava/lang/Throwable;", false)
  | 1 => ("java/lang/Throwable", "stackTrace", "[Ljava/lang/StackTraceElement;", false)
  | 2 => ("java/lang/Throwable", "suppressedExceptions", "Ljava/util/List;", false)
  | 3 => ("java/lang/Throwable", "detailMessage", "Ljava/lang/String;", false)
  | 4 => ("java/lang/Throwable", "backtrace", "Ljava/lang/Object;", false)
  | _ => ("java/lang/Throwable", "depth", "I", false)
def tX7 : Nat → FieldType := fun k => match k with
  | 0 => (.object "java/lang/Throwable")
  | 1 => (.array (.object "java/lang/StackTraceElement"))
  | 2 => (.object "java/util/List")
  | 3 => (.object "java/lang/String")
  | 4 => (.object "java/lang/Object")
  | _ => .int
abbrev vwCl : List vw_C := [(RX0, FX0, 6), (RX1, FX1, 1), (RX2, FX2, 5), (RX3, FX3, 15), (RX4, FX4, 27), (RX5, FX5, 3), (RX6, FX6, 6), (RX7, FX7, 6)]
def vwTy : Nat → Nat → FieldType := fun ci => match ci with
  | 0 => tX0
  | 1 => tX1
  | 2 => tX2
  | 3 => tX3
  | 4 => tX4
  | 5 => tX5
  | 6 => tX6
  | _ => tX7
def vwN : Nat → Nat := fun ci => match ci with
  | 0 => 6
  | 1 => 1
  | 2 => 5
  | 3 => 15
  | 4 => 27
  | 5 => 3
  | 6 => 6
  | _ => 6
theorem nX0 : ∀ a, a < 6 → ∀ b, b < 6 → a ≠ b → (FX0 a).2.1 ≠ (FX0 b).2.1 := by decide +kernel
theorem tX0_ok : ∀ k, k < 6 → parseFieldDescriptor (FX0 k).2.2.1 = some (tX0 k) := by decide +kernel
theorem nX1 : ∀ a, a < 1 → ∀ b, b < 1 → a ≠ b → (FX1 a).2.1 ≠ (FX1 b).2.1 := by decide +kernel
theorem tX1_ok : ∀ k, k < 1 → parseFieldDescriptor (FX1 k).2.2.1 = some (tX1 k) := by decide +kernel
theorem nX2 : ∀ a, a < 5 → ∀ b, b < 5 → a ≠ b → (FX2 a).2.1 ≠ (FX2 b).2.1 := by decide +kernel
theorem tX2_ok : ∀ k, k < 5 → parseFieldDescriptor (FX2 k).2.2.1 = some (tX2 k) := by decide +kernel
theorem nX3 : ∀ a, a < 15 → ∀ b, b < 15 → a ≠ b → (FX3 a).2.1 ≠ (FX3 b).2.1 := by decide +kernel
theorem tX3_ok : ∀ k, k < 15 → parseFieldDescriptor (FX3 k).2.2.1 = some (tX3 k) := by decide +kernel
theorem nX4 : ∀ a, a < 27 → ∀ b, b < 27 → a ≠ b → (FX4 a).2.1 ≠ (FX4 b).2.1 := by decide +kernel
theorem tX4_ok : ∀ k, k < 27 → parseFieldDescriptor (FX4 k).2.2.1 = some (tX4 k) := by decide +kernel
theorem nX5 : ∀ a, a < 3 → ∀ b, b < 3 → a ≠ b → (FX5 a).2.1 ≠ (FX5 b).2.1 := by decide +kernel
theorem tX5_ok : ∀ k, k < 3 → parseFieldDescriptor (FX5 k).2.2.1 = some (tX5 k) := by decide +kernel
theorem nX6 : ∀ a, a < 6 → ∀ b, b < 6 → a ≠ b → (FX6 a).2.1 ≠ (FX6 b).2.1 := by decide +kernel
theorem tX6_ok : ∀ k, k < 6 → parseFieldDescriptor (FX6 k).2.2.1 = some (tX6 k) := by decide +kernel
theorem nX7 : ∀ a, a < 6 → ∀ b, b < 6 → a ≠ b → (FX7 a).2.1 ≠ (FX7 b).2.1 := by decide +kernel
theorem tX7_ok : ∀ k, k < 6 → parseFieldDescriptor (FX7 k).2.2.1 = some (tX7 k) := by decide +kernel
/-- the words that every method may use, and those that hold by links of a nest, casts and declarations -/
def wx_T : List Cond := lw_tbl.filter goodWord
theorem wx_sub : ∀ w ∈ wx_T, w ∈ lw_tbl := fun _ h => (List.mem_filter.mp h).1
def wx_isN : Cond → Bool
  | .fieldLinkNest .. => true
  | .methodLinkNest .. => true
  | .castable .. => true
  | .declares _ => true
  | _ => false
def wx_N : List Cond := tables_1.filter wx_isN
/-- the texts: class, entry, text -/
def wx_S : List (String × Nat × String) := [("SegmentLocks", 84, "no such task or segment"), ("SegmentLocks", 91, "the task is not active"), ("SegmentLocks", 94, "the task has not asked for the segment"), ("SegmentLocks", 135, "no such segment")]
set_option maxRecDepth 20000 in
theorem iX0 : ∀ w ∈ u_ws RX0 FX0 6, w ∈ wx_T := by decide +kernel
set_option maxRecDepth 20000 in
theorem iX1 : ∀ w ∈ u_ws RX1 FX1 1, w ∈ wx_T := by decide +kernel
set_option maxRecDepth 20000 in
theorem iX2 : ∀ w ∈ u_ws RX2 FX2 5, w ∈ wx_T := by decide +kernel
set_option maxRecDepth 20000 in
theorem iX3 : ∀ w ∈ u_ws RX3 FX3 15, w ∈ wx_T := by decide +kernel
set_option maxRecDepth 20000 in
theorem iX4 : ∀ w ∈ u_ws RX4 FX4 27, w ∈ wx_T := by decide +kernel
set_option maxRecDepth 20000 in
theorem iX5 : ∀ w ∈ u_ws RX5 FX5 3, w ∈ wx_T := by decide +kernel
set_option maxRecDepth 20000 in
theorem iX6 : ∀ w ∈ u_ws RX6 FX6 6, w ∈ wx_T := by decide +kernel
set_option maxRecDepth 20000 in
theorem iX7 : ∀ w ∈ u_ws RX7 FX7 6, w ∈ wx_T := by decide +kernel
